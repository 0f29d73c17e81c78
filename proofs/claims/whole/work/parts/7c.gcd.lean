theorem c_lowL {h : Hp} {K : Int64 → Hp → Prop} {x0 x2 : Int64} {x4 : Int32} : ∀ (k u d i : Nat), u < 2 ^ 62 → d < 2 ^ 62 → d < 2 ^ k → i + 2 * k < 200 → K (lN (Nat.gcd u d)) h → ∃ n, C_lowestTerms_L12 x0 x2 x4 K n (lN u) (lN d) (nI i) h := by
  intro k
  have lz : ∀ d, d < 2 ^ 62 → (lN d = 0 ↔ d = 0) := fun d hd => by
    rw [l_eq, pk_lT (by omega), show (0 : Int64).toInt = 0 from rfl]; omega
  have zero : ∀ u i, i < 200 → u < 2 ^ 62 → K (lN (Nat.gcd u 0)) h → ∃ n, C_lowestTerms_L12 x0 x2 x4 K n (lN u) (lN 0) (nI i) h := by
    intro u i hi hu q
    rw [Nat.gcd_zero_right] at q
    refine ⟨1, ?_⟩
    show (200 ≤ nI i → _) ∧ (¬ 200 ≤ nI i → _)
    exact pk_le 200 i (fun c => absurd c (by omega)) (fun _ => brT rfl q)
  have one : ∀ u d i, i < 200 → u < 2 ^ 62 → d < 2 ^ 62 → 0 < d → (∃ n, C_lowestTerms_L12 x0 x2 x4 K n (lN d) (lN (u % d)) (nI (i + 1)) h) → ∃ n, C_lowestTerms_L12 x0 x2 x4 K n (lN u) (lN d) (nI i) h := by
    rintro u d i hi hu hd dp ⟨n, q⟩
    refine ⟨n + 1, ?_⟩
    have d0 : ¬ lN d = 0 := fun e => by rw [lz d hd] at e; omega
    show (200 ≤ nI i → _) ∧ (¬ 200 ≤ nI i → _)
    refine pk_le 200 i (fun c => absurd c (by omega)) (fun _ => brF d0 ⟨d0, ?_⟩)
    rw [pk_lRem (by omega) dp (by omega)]
    rintro _ rfl _ rfl
    rw [nI_1 i]
    exact q
  induction k with
  | zero =>
    intro u d i hu hd hk hi q
    have : d = 0 := by have : d < 1 := hk; omega
    subst this
    exact zero u i (by omega) hu q
  | succ k ih =>
    intro u d i hu hd hk hi q
    by_cases d0 : d = 0
    · subst d0; exact zero u i (by omega) hu q
    · have rl : u % d < d := Nat.mod_lt _ (by omega)
      have g1 : Nat.gcd d (u % d) = Nat.gcd u d := by rw [Nat.gcd_comm d, ← Nat.gcd_rec, Nat.gcd_comm]
      refine one u d i (by omega) hu hd (by omega) ?_
      by_cases r0 : u % d = 0
      · rw [r0] at g1 ⊢
        exact zero d (i + 1) (by omega) hd (by rw [g1]; exact q)
      · have sl : d % (u % d) < u % d := Nat.mod_lt _ (by omega)
        have g2 : Nat.gcd (u % d) (d % (u % d)) = Nat.gcd d (u % d) := by rw [Nat.gcd_comm (u % d), ← Nat.gcd_rec, Nat.gcd_comm]
        refine one d (u % d) (i + 1) (by omega) hd (by omega) (by omega) ?_
        have half : 2 * (d % (u % d)) ≤ d := by
          have e := Nat.div_add_mod d (u % d)
          have q1 : 1 ≤ d / (u % d) := Nat.div_pos (by omega) (by omega)
          have q2 := Nat.mul_le_mul_left (u % d) q1
          omega
        exact ih (u % d) (d % (u % d)) (i + 1 + 1) (by omega) (by omega) (by rw [Nat.pow_succ] at hk; omega) (by omega) (by rw [g2, g1]; exact q)
/-- the answer of both -/
def lowT (x0 x2 : Int64) (x4 : Int32) : Int64 := (if x4 = 0 then x0 else x2) / lN (Nat.gcd x0.toInt.natAbs x2.toInt.natAbs)
theorem low_g {x0 x2 : Int64} (h2 : 0 < x2.toInt ∧ x2.toInt < 2 ^ 45) : ¬ lN (Nat.gcd x0.toInt.natAbs x2.toInt.natAbs) = 0 := fun e => by
  have g := Nat.gcd_pos_of_pos_right x0.toInt.natAbs (show 0 < x2.toInt.natAbs by omega)
  have gl := Nat.gcd_le_right x0.toInt.natAbs (show 0 < x2.toInt.natAbs by omega)
  rw [l_eq, pk_lT (by omega), show (0 : Int64).toInt = 0 from rfl] at e
  omega
theorem c_lowest {h : Hp} {Q : Int64 → Hp → Prop} {x0 x2 : Int64} {x4 : Int32} (h0 : x0.toInt.natAbs < 2 ^ 62) (h2 : 0 < x2.toInt ∧ x2.toInt < 2 ^ 45) (k : Q (lowT x0 x2 x4) h) : C_lowestTerms x0 x2 x4 h Q := by
  have g0 := low_g (x0 := x0) h2
  have l0 : (0 : Int64).toInt = 0 := rfl
  unfold C_lowestTerms
  have go : ∃ n5, C_lowestTerms_L12 x0 x2 x4 (fun x5_6 h7 => (¬ x5_6 = (0 : Int64) → (¬ x4 = 0 → ¬ x5_6 = 0 ∧ Q (x2 / x5_6) h7) ∧ (x4 = 0 → ¬ x5_6 = 0 ∧ Q (x0 / x5_6) h7)) ∧ (x5_6 = (0 : Int64) → (¬ x4 = 0 → Q x2 h7) ∧ (x4 = 0 → Q x0 h7))) n5 (lN x0.toInt.natAbs) x2 0 h := by
    have e2 : x2 = lN x2.toInt.natAbs := Int64.toInt_inj.mp (by rw [pk_lT (by omega)]; omega)
    have := c_lowL (h := h) (x0 := x0) (x2 := x2) (x4 := x4) (K := fun x5_6 h7 => (¬ x5_6 = (0 : Int64) → (¬ x4 = 0 → ¬ x5_6 = 0 ∧ Q (x2 / x5_6) h7) ∧ (x4 = 0 → ¬ x5_6 = 0 ∧ Q (x0 / x5_6) h7)) ∧ (x5_6 = (0 : Int64) → (¬ x4 = 0 → Q x2 h7) ∧ (x4 = 0 → Q x0 h7))) 45 x0.toInt.natAbs x2.toInt.natAbs 0 (by omega) (by omega) (by omega) (by omega) (by
      unfold lowT at k
      refine brF' g0 ⟨fun c => ⟨g0, ?_⟩, fun c => ⟨g0, ?_⟩⟩
      · rw [if_neg c] at k; exact k
      · rw [if_pos c] at k; exact k)
    rw [← e2] at this
    exact this
  unfold J9_abs_067f4
  refine ⟨fun c => ?_, fun c => ?_⟩
  · rw [l_le, l0] at c
    have : x0 = lN x0.toInt.natAbs := Int64.toInt_inj.mp (by rw [pk_lT (by omega)]; omega)
    rw [← this] at go; exact go
  · rw [l_le, l0] at c
    have : -x0 = lN x0.toInt.natAbs := Int64.toInt_inj.mp (by rw [Int64.toInt_neg, bm64 (by omega), pk_lT (by omega)]; omega)
    rw [← this] at go; exact go
theorem m_part {h : Hp} {Q : Int64 → Hp → Prop} {x0 x2 : Int64} {x4 : Int32} (h0 : x0.toInt.natAbs < 2 ^ 62) (h2 : 0 < x2.toInt ∧ x2.toInt < 2 ^ 45) (k : Q (lowT x0 x2 x4) h) : M_part x0 x2 x4 h Q := by
  have g0 := low_g (x0 := x0) h2
  unfold M_part
  rintro J10 rfl
  unfold lowT at k
  refine ⟨fun c => ?_, fun c => ?_⟩
  · rw [if_neg c] at k
    exact m_common 45 9 x0 x2 h0 (by omega) (by omega) ⟨g0, k⟩
  · rw [if_pos c] at k
    exact m_common 45 9 x0 x2 h0 (by omega) (by omega) ⟨g0, k⟩
