/-! lowest terms -/
theorem tmod_abs (a b : Int) : (a.tmod b).natAbs = a.natAbs % b.natAbs := Int.natAbs_tmod a b
theorem l_rm {a b : Int64} (ha : a.toInt.natAbs < 2 ^ 62) : (a - a / b * b).toInt = a.toInt.tmod b.toInt := by
  have h1 : (a.toInt.tdiv b.toInt).natAbs ≤ a.toInt.natAbs := by rw [Int.natAbs_tdiv]; exact Nat.div_le_self _ _
  have h2 : (a.toInt.tmod b.toInt).natAbs ≤ a.toInt.natAbs := by rw [Int.natAbs_tmod]; exact Nat.mod_le _ _
  have h3 : a.toInt.tmod b.toInt = a.toInt - b.toInt * a.toInt.tdiv b.toInt := Int.tmod_def _ _
  have e1 : (a / b).toInt = a.toInt.tdiv b.toInt := by
    rw [Int64.toInt_div, bm64 (by omega)]
  have e2 : (a / b * b).toInt = a.toInt.tdiv b.toInt * b.toInt := by
    rw [Int64.toInt_mul, e1, bm64 (by rw [Int.mul_comm]; omega)]
  rw [Int64.toInt_sub, e2, Int.mul_comm, ← h3, bm64 (by omega)]
theorem m_common {h : Hp} {Q : Int64 → Hp → Prop} : ∀ (k m : Nat) (a b : Int64), a.toInt.natAbs < 2 ^ 62 → b.toInt.natAbs < 2 ^ 62 → b.toInt.natAbs < 2 ^ k → Q (lN (Nat.gcd a.toInt.natAbs b.toInt.natAbs)) h → M_common (2 * k + 1 + m) a b h Q := by
  intro k
  have zero : ∀ (m : Nat) (a b : Int64), a.toInt.natAbs < 2 ^ 62 → b = 0 → Q (lN (Nat.gcd a.toInt.natAbs b.toInt.natAbs)) h → M_common (m + 1) a b h Q := by
    rintro m a _ ha rfl q
    have l0 : (0 : Int64).toInt = 0 := rfl
    rw [l0, show (0 : Int).natAbs = 0 from rfl, Nat.gcd_zero_right] at q
    show M_common_B (M_common m) a 0 h Q
    unfold M_common_B
    refine brT' rfl ⟨fun c => ?_, fun c => ?_⟩
    · rw [l_le, l0] at c
      have : a = lN a.toInt.natAbs := Int64.toInt_inj.mp (by rw [pk_lT (by omega)]; omega)
      rw [this]; exact q
    · rw [l_le, l0] at c
      have : -a = lN a.toInt.natAbs := Int64.toInt_inj.mp (by rw [Int64.toInt_neg, bm64 (by omega), pk_lT (by omega)]; omega)
      rw [this]; exact q
  have one : ∀ (n : Nat) (a b : Int64), a.toInt.natAbs < 2 ^ 62 → ¬ b = 0 → (∀ c : Int64, c.toInt.natAbs = a.toInt.natAbs % b.toInt.natAbs → M_common n b c h Q) → M_common (n + 1) a b h Q := by
    intro n a b ha hb q
    show M_common_B (M_common n) a b h Q
    unfold M_common_B
    refine brF' hb ⟨hb, q _ ?_⟩
    rw [l_rm ha, Int.natAbs_tmod]
  have nz : ∀ b : Int64, ¬ b = 0 → 0 < b.toInt.natAbs := fun b hb => by
    rcases Nat.eq_zero_or_pos b.toInt.natAbs with e | e
    · exact absurd (Int64.toInt_inj.mp (show b.toInt = (0 : Int64).toInt by rw [show (0 : Int64).toInt = 0 from rfl]; omega)) hb
    · exact e
  induction k with
  | zero =>
    intro m a b ha hb hk q
    refine (Nat.add_comm _ _ ▸ zero m a b ha (Classical.byContradiction (fun c => ?_)) q)
    have := nz b c
    have : b.toInt.natAbs < 1 := hk
    omega
  | succ k ih =>
    intro m a b ha hb hk q
    by_cases b0 : b = 0
    · have := zero (2 * (k + 1) + m) a b ha b0 q
      rw [show 2 * (k + 1) + 1 + m = 2 * (k + 1) + m + 1 by omega]; exact this
    · have bp := nz b b0
      rw [show 2 * (k + 1) + 1 + m = (2 * k + 1 + m + 1) + 1 by omega]
      refine one _ a b ha b0 (fun c hc => ?_)
      have cl : c.toInt.natAbs < b.toInt.natAbs := by rw [hc]; exact Nat.mod_lt _ bp
      have g1 : Nat.gcd b.toInt.natAbs c.toInt.natAbs = Nat.gcd a.toInt.natAbs b.toInt.natAbs := by
        rw [hc, Nat.gcd_comm b.toInt.natAbs, ← Nat.gcd_rec, Nat.gcd_comm]
      by_cases c0 : c = 0
      · exact zero _ b c hb c0 (by rw [g1]; exact q)
      · have cp := nz c c0
        refine one _ b c hb c0 (fun d hd => ?_)
        have g2 : Nat.gcd c.toInt.natAbs d.toInt.natAbs = Nat.gcd b.toInt.natAbs c.toInt.natAbs := by
          rw [hd, Nat.gcd_comm c.toInt.natAbs, ← Nat.gcd_rec, Nat.gcd_comm]
        have dl : d.toInt.natAbs < c.toInt.natAbs := by rw [hd]; exact Nat.mod_lt _ cp
        have half : 2 * d.toInt.natAbs ≤ b.toInt.natAbs := by
          have e := Nat.div_add_mod b.toInt.natAbs c.toInt.natAbs
          have q1 : 1 ≤ b.toInt.natAbs / c.toInt.natAbs := Nat.div_pos (by omega) cp
          have q2 := Nat.mul_le_mul_left c.toInt.natAbs q1
          rw [← hd] at e
          omega
        exact ih m c d (by omega) (by omega) (by rw [Nat.pow_succ] at hk; omega) (by rw [g2, g1]; exact q)
