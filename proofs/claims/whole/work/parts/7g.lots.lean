/-! lots: the class's sums -/
def safeF (s : Int) : Int := if 0 ≤ s then 1 else 0
theorem oi_N (n : Nat) : Int64.ofInt (n : Int) = lN n := Int64.ofInt_eq_ofNat
theorem nI_64 {n : Nat} (h : n < 2 ^ 31) : (nI n).toInt64 = Int64.ofInt (n : Int) := by rw [nI_l h, oi_N]
theorem oi_T {x : Int} (h : -9223372036854775808 ≤ x ∧ x < 9223372036854775808) : (Int64.ofInt x).toInt = x := Int64.toInt_ofInt_of_le (by omega) (by omega)
theorem c_keepL {h : Hp} {Q : Int64 → Hp → Prop} {c : Nat → Int → Nat} {l m : Int} {s : Nat} (T : TabR h c l s) (hs : s ≤ 1189) (hl : -600 ≤ l ∧ l ≤ 0) (hm : -2147483648 ≤ m ∧ m < 2147483648) (cb : ∀ x, smN (fun p => c p x) 8 < 2 ^ 31) (k : Q (Int64.ofInt (ipr c (fun _ x => safeF (m + x)))) h) : Sums_rowsKeeping (Int64.ofInt m) h Q := by
  rw [ipr_w (fun x => safeF (m + x)) l s (by omega) T.2.2.2] at k
  unfold Sums_rowsKeeping
  refine pk_loop (σ := Int64) (fun n i v => Sums_rowsKeeping_L5 (Int64.ofInt m) Q n v (nI i) h) (fun i v => v = Int64.ofInt (smZ (fun k => safeF (m + (l + (k : Int))) * (smN (fun p => c p (l + (k : Int))) 8 : Int)) i)) s 0 0 (by omega) rfl (fun n v J => ?_) (fun n i v hi J hk => ?_)
  · unfold Sums_rowsKeeping_L5
    rw [T.2.1]
    refine pk_le s s (fun _ => ?_) (fun c => absurd c (by omega))
    rw [J]; exact k
  · unfold Sums_rowsKeeping_L5
    rw [T.2.1]
    have t3 := T.1
    have ei : (nI i).toInt = i := nI_toInt (by omega)
    refine pk_le s i (fun c => absurd c (by omega)) (fun _ => ?_)
    rintro J40 rfl
    have e1 : (Int64.ofInt m + (gI h 92 3).toInt64 + (nI i).toInt64).toInt = m + (l + i) := by
      have a1 : (Int64.ofInt m + (gI h 92 3).toInt64).toInt = m + l := by
        rw [l_add (by rw [oi_T (by omega), i_l, t3]; omega), oi_T (by omega), i_l, t3]
      rw [l_add (by rw [a1, i_l, ei]; omega), a1, i_l, ei, Int.add_assoc]
    have z : (0 : Int64).toInt = 0 := rfl
    have nx : smZ (fun k => safeF (m + (l + (k : Int))) * (smN (fun p => c p (l + (k : Int))) 8 : Int)) (i + 1) = smZ (fun k => safeF (m + (l + (k : Int))) * (smN (fun p => c p (l + (k : Int))) 8 : Int)) i + safeF (m + (l + (i : Int))) * (smN (fun p => c p (l + (i : Int))) 8 : Int) := rfl
    rw [l_lt, e1, z]
    refine ⟨fun d => ?_, fun d => ?_⟩
    · rintro _ rfl
      rw [nI_1 i]
      refine hk _ ?_
      rw [nx, J, show safeF (m + (l + (i : Int))) = 0 from if_neg (by omega), Int.zero_mul, Int.add_zero]
    · refine c_rowsWith T hs ?_
      rw [ei, nI_64 (cb _)]
      rintro _ rfl _ rfl
      rw [nI_1 i]
      refine hk _ ?_
      rw [nx, J, show safeF (m + (l + (i : Int))) = 1 from if_pos (by omega), Int.one_mul, Int64.ofInt_add]
theorem c_paidAll {h : Hp} {Q : Int64 → Hp → Prop} {c : Nat → Int → Nat} {l : Int} {s : Nat} (T : TabR h c l s) (hs : s ≤ 1189) (hl : -600 ≤ l ∧ l ≤ 0) (cb : ∀ x, smN (fun p => c p x) 8 < 2 ^ 31) (k : Q (Int64.ofInt (ipr c (fun _ x => x))) h) : Sums_allPaid h Q := by
  rw [ipr_w (fun x => x) l s (by omega) T.2.2.2] at k
  unfold Sums_allPaid
  refine pk_loop (σ := Int64) (fun n i v => Sums_allPaid_L4 Q n v (nI i) h) (fun i v => v = Int64.ofInt (smZ (fun k => (l + (k : Int)) * (smN (fun p => c p (l + (k : Int))) 8 : Int)) i)) s 0 0 (by omega) rfl (fun n v J => ?_) (fun n i v hi J hk => ?_)
  · unfold Sums_allPaid_L4
    rw [T.2.1]
    refine pk_le s s (fun _ => ?_) (fun c => absurd c (by omega))
    rw [J]; exact k
  · unfold Sums_allPaid_L4
    rw [T.2.1]
    have t3 := T.1
    have ei : (nI i).toInt = i := nI_toInt (by omega)
    refine pk_le s i (fun c => absurd c (by omega)) (fun _ => c_rowsWith T hs ?_)
    have e1 : (gI h 92 3 + nI i).toInt64 = Int64.ofInt (l + i) := by
      have : (gI h 92 3 + nI i).toInt = l + i := by rw [i_add (by rw [t3, ei]; omega), t3, ei]
      rw [← this]; rfl
    have nx : smZ (fun k => (l + (k : Int)) * (smN (fun p => c p (l + (k : Int))) 8 : Int)) (i + 1) = smZ (fun k => (l + (k : Int)) * (smN (fun p => c p (l + (k : Int))) 8 : Int)) i + (l + (i : Int)) * (smN (fun p => c p (l + (i : Int))) 8 : Int) := rfl
    rw [ei, nI_64 (cb _), e1]
    rintro _ rfl _ rfl
    rw [nI_1 i]
    refine hk _ ?_
    rw [nx, J, ← Int64.ofInt_mul, ← Int64.ofInt_add]
/-! lots: the reference -/
def o4142 : Nat → Nat → Bool := fun o k => o == 98 && (k == 41 || k == 42)
theorem scM_42 (o k : Nat) (h : scM o k = false) : o4142 o k = false := by
  cases e : o4142 o k
  · rfl
  · simp only [o4142, Bool.and_eq_true, Bool.or_eq_true, beq_iff_eq] at e
    obtain ⟨rfl, rfl | rfl⟩ := e <;> cases h
theorem ways_42 {h h1 : Hp} {a : Row} {w : Nat} (F : Fp o4142 h h1) (z : WaysM h a w) : WaysM h1 a w := ways_k F (fun o k a b => by
  simp only [o4142, Bool.and_eq_false_iff, beq_eq_false_iff_ne]; omega) z
theorem wys16 {a : Row} (O : LandOK a) {w p i : Nat} (hi : i < 16) : (wys a w p).testBit i = true ↔ (obs a w p).testBit i = true := by
  rw [wys_tb O, obs_tb]
  constructor
  · rintro (⟨_, h⟩ | ⟨_, h⟩)
    · exact h
    · omega
  · exact fun h => Or.inl ⟨hi, h⟩
theorem m_lots {a : Row} {w : Nat} (O : LandOK a) : ∀ (n fuel p : Nat) (S : Int) (x5 : Int64) (h0 : Hp) (Q : Hp → Prop), n < fuel → p < nP a → (-3000000000 + 99 * (n : Int) ≤ S ∧ S ≤ 3000000000 - 99 * (n : Int)) → WaysM h0 a w → (∀ h1, Fp o4142 h0 h1 → gJ h1 98 41 = gJ h0 98 41 + x5 * Int64.ofInt (IT a w (fun _ s => safeF s) n p S) → gJ h1 98 42 = gJ h0 98 42 + x5 * Int64.ofInt (IT a w (fun _ s => s) n p S) → Q h1) → M_goesLots fuel (nI p) (Int64.ofInt S) (nI n) x5 h0 Q := by
  have h8 := O.1.2.1
  intro n
  induction n with
  | zero =>
    intro fuel p S x5 h0 Q hf hp hS z k
    obtain ⟨f, rfl⟩ : ∃ f, fuel = f + 1 := ⟨fuel - 1, by omega⟩
    show M_goesLots_B _ _ _ _ _ _ _
    unfold M_goesLots_B
    refine brT' rfl ?_
    rintro J22 rfl
    have fin : ∀ v : Int64, v = x5 * Int64.ofInt (safeF S) → (∀ h14 : Hp, h14 = sJ h0 98 41 (gJ h0 98 41 + v) → ∀ h15 : Hp, h15 = sJ h14 98 42 ((gJ h14 98 42) + (x5 * Int64.ofInt S)) → Q h15) := by
      rintro _ rfl _ rfl _ rfl
      refine k _ (Fp.sJ (Fp.sJ (Fp.rf _ _) rfl) rfl) ?_ ?_
      · rw [sJ_k (by decide), sJ_s]; rfl
      · rw [sJ_s, sJ_k (by decide)]; rfl
    have l0 : (0 : Int64).toInt = 0 := rfl
    rw [l_le, l0, oi_T (by omega)]
    refine ⟨fun c => fin _ ?_, fun c => fin _ ?_⟩
    · rw [show safeF S = 1 from if_pos c]; exact (Int64.mul_one x5).symm
    · rw [show safeF S = 0 from if_neg c]; exact (Int64.mul_zero (a := x5)).symm
  | succ n ih =>
    intro fuel p S x5 h0 Q hf hp hS z k
    obtain ⟨f, rfl⟩ : ∃ f, fuel = f + 1 := ⟨fuel - 1, by omega⟩
    have wl := wys_lt O (w := w) (p := p) (by omega)
    obtain ⟨D, hD⟩ : ∃ D, drN (obs a w p) = D := ⟨_, rfl⟩
    have pd : ∀ i, i ≤ 16 → popc i D = min 10 (popc i (obs a w p)) := fun i hi => by rw [← hD]; exact popc_dr hi
    show M_goesLots_B (M_goesLots f) _ _ _ _ _ _
    unfold M_goesLots_B
    rw [i_sub1 n]
    obtain ⟨g1, hg1⟩ : ∃ g : Nat → Int, ∀ r, (if (drN (obs a w p)).testBit r = true then IT a w (fun _ s => safeF s) n (toA a r) (S + (payA a w r).toInt) else 0) = g r := ⟨_, fun _ => rfl⟩
    obtain ⟨g2, hg2⟩ : ∃ g : Nat → Int, ∀ r, (if (drN (obs a w p)).testBit r = true then IT a w (fun _ s => s) n (toA a r) (S + (payA a w r).toInt) else 0) = g r := ⟨_, fun _ => rfl⟩
    have t1 : IT a w (fun _ s => safeF s) (n + 1) p S = (lyL a w p : Int) * IT a w (fun _ s => safeF s) n p S + smZ g1 16 := by
      rw [← show (fun r => if (drN (obs a w p)).testBit r = true then IT a w (fun _ s => safeF s) n (toA a r) (S + (payA a w r).toInt) else 0) = g1 from funext hg1]; rfl
    have t2 : IT a w (fun _ s => s) (n + 1) p S = (lyL a w p : Int) * IT a w (fun _ s => s) n p S + smZ g2 16 := by
      rw [← show (fun r => if (drN (obs a w p)).testBit r = true then IT a w (fun _ s => s) n (toA a r) (S + (payA a w r).toInt) else 0) = g2 from funext hg2]; rfl
    refine brF' (nI_ne0 (by omega) (by omega)) ?_
    have sum1 : ∀ (A x u v : Int64), A + x * u + x * v = A + x * (u + v) := fun A x u v => by rw [Int64.mul_add, Int64.add_assoc]
    refine pk_loop (σ := Hp) (fun n' i h => M_goesLots_L47 (nI p) (Int64.ofInt S) (nI (n + 1)) x5 (M_goesLots f) _ n' (nI (10 - popc i D)) (nI i) h) (fun i h => Fp o4142 h0 h ∧ gJ h 98 41 = gJ h0 98 41 + x5 * Int64.ofInt (smZ g1 i) ∧ gJ h 98 42 = gJ h0 98 42 + x5 * Int64.ofInt (smZ g2 i)) 16 0 h0 (by omega) ⟨Fp.rf _ _, by rw [show Int64.ofInt (smZ g1 0) = 0 from rfl, Int64.mul_zero, Int64.add_zero], by rw [show Int64.ofInt (smZ g2 0) = 0 from rfl, Int64.mul_zero, Int64.add_zero]⟩ (fun n' h1 J => ?_) (fun n' i h hi J hk => ?_)
    · unfold M_goesLots_L47
      refine pk_le 16 16 (fun _ => ?_) (fun c => absurd c (by omega))
      obtain ⟨F, j1, j2⟩ := J
      have el : 10 - popc 16 D = lyL a w p := by rw [← hD]; rfl
      have ll : lyL a w p ≤ 10 := Nat.sub_le _ _
      rw [el]
      refine pk_le (lyL a w p) 0 (fun c => ?_) (fun c => ?_)
      · have e0 : lyL a w p = 0 := by omega
        rw [e0] at t1 t2
        refine k h1 F ?_ ?_
        · rw [t1, j1, show ((0 : Nat) : Int) = 0 from rfl, Int.zero_mul, Int.zero_add]
        · rw [t2, j2, show ((0 : Nat) : Int) = 0 from rfl, Int.zero_mul, Int.zero_add]
      · refine ih f p S _ h1 _ (by omega) hp (by omega) (ways_42 F z) (fun h2 f2 q1 q2 => k h2 (F.tr f2) ?_ ?_)
        · rw [q1, j1, t1, nI_64 (by omega), Int64.mul_assoc, ← Int64.ofInt_mul, sum1, ← Int64.ofInt_add, Int.add_comm]
        · rw [q2, j2, t2, nI_64 (by omega), Int64.mul_assoc, ← Int64.ofInt_mul, sum1, ← Int64.ofInt_add, Int.add_comm]
    · obtain ⟨F, j1, j2⟩ := J
      have zh := ways_42 F z
      unfold M_goesLots_L47
      refine pk_le 16 i (fun c => absurd c (by omega)) (fun _ => ⟨pk_in p 8 (by omega), ?_⟩)
      rw [cl p, zh.1 p (by omega), if_pos hp]
      refine s_isIn (by omega) (by omega) ?_
      rintro J107 rfl
      have pi := pd i (by omega)
      have same : ¬ D.testBit i = true → M_goesLots_L47 (nI p) (Int64.ofInt S) (nI (n + 1)) x5 (M_goesLots f) _ n' (nI (10 - popc i D)) (nI (i + 1)) h := fun q => by
        have := hk h ⟨F, ?_, ?_⟩
        · rw [popc_s, if_neg q] at this; exact this
        · rw [show smZ g1 (i + 1) = smZ g1 i + g1 i from rfl, ← hg1, hD, if_neg q, Int.add_zero]; exact j1
        · rw [show smZ g2 (i + 1) = smZ g2 i + g2 i from rfl, ← hg2, hD, if_neg q, Int.add_zero]; exact j2
      by_cases b : (wys a w p).testBit i = true
      · rw [if_pos b]
        have ob := (wys16 O hi).mp b
        refine brF (by decide) ?_
        by_cases c : popc i (obs a w p) < 10
        · have dt : D.testBit i = true := by rw [← hD]; exact drN_tb.mpr ⟨hi, ob, c⟩
          have we : wayOK a w p i := (wys_tb O).mp b
          obtain ⟨w6, w7⟩ := ways_e zh hp we
          have tl := ttA_lt O hp we
          rw [show ttA a i = toA a i from if_pos hi] at w6 tl
          rw [show ppA a w i = payA a w i from if_pos hi] at w7
          have pb := payA_bd a w i
          obtain ⟨e, he⟩ : ∃ e, 10 - popc i D = e + 1 := ⟨10 - popc i D - 1, by omega⟩
          rw [he]
          refine brF' (nI_ne0 (by omega) (by omega)) ⟨pk_in i 24 (by omega), pk_in i 24 (by omega), ?_⟩
          rw [i_sub1 n, cl i, w6, w7, show (payA a w i).toInt64 = Int64.ofInt (payA a w i).toInt from rfl, ← Int64.ofInt_add]
          refine ih f (toA a i) (S + (payA a w i).toInt) x5 h _ (by omega) tl (by omega) zh (fun h2 f2 q1 q2 => ?_)
          rintro _ rfl _ rfl
          rw [nI_1 i, i_m1 e]
          have := hk h2 ⟨F.tr f2, ?_, ?_⟩
          · rw [popc_s, if_pos dt, show 10 - (popc i D + 1) = e by omega] at this; exact this
          · rw [show smZ g1 (i + 1) = smZ g1 i + g1 i from rfl, ← hg1 i, hD, if_pos dt, q1, j1, sum1, ← Int64.ofInt_add]
          · rw [show smZ g2 (i + 1) = smZ g2 i + g2 i from rfl, ← hg2 i, hD, if_pos dt, q2, j2, sum1, ← Int64.ofInt_add]
        · have nd : ¬ D.testBit i = true := fun e => c (by rw [← hD] at e; exact (drN_tb.mp e).2.2)
          have e0 : nI (10 - popc i D) = 0 := by rw [show 10 - popc i D = 0 by omega]; rfl
          refine brT' e0 ?_
          rintro _ rfl
          rw [nI_1 i]
          exact same nd
      · rw [if_neg b]
        refine brT rfl ?_
        rintro _ rfl
        rw [nI_1 i]
        exact same (fun e => b ((wys16 O hi).mpr (by rw [← hD] at e; exact (drN_tb.mp e).2.1)))
