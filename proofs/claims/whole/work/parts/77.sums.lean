/-! rows counted: the reference -/
def o12 : Nat → Nat → Bool := fun o _ => o == 121 || o == 122
theorem scM_12 (o k : Nat) (h : scM o k = false) : o12 o k = false := by
  simp only [scM, Bool.or_eq_false_iff, Bool.and_eq_false_iff, decide_eq_false_iff_not] at h
  simp only [o12, Bool.or_eq_false_iff, beq_eq_false_iff_ne]; omega
def mkC (c : Nat → Int → Nat) (k : Nat) : Nat := c (k / 1189) (((k % 1189 : Nat) : Int) - 594)
theorem ways_12 {h h1 : Hp} {a : Row} {w : Nat} (F : Fp o12 h h1) (z : WaysM h a w) : WaysM h1 a w := ways_k F (fun o k a b => by
  simp only [o12, Bool.or_eq_false_iff, beq_eq_false_iff_ne]; omega) z
theorem m_scat1 {h0 : Hp} {K : Hp → Prop} {x1 x2 : Int32} {a : Row} {w k : Nat} {c : Nat → Int → Nat} {A : Nat → Nat} (O : LandOK a) (z : WaysM h0 a w) (hk : k < 9512) (hp : k / 1189 < nP a) (e121 : gI h0 121 k = nI (mkC c k)) (ht : 99 ≤ k % 1189 ∧ k % 1189 ≤ 1089) (e122 : ∀ j, j < 9512 → gI h0 122 j = nI (A j)) (kk : ∀ h1, Fp (fun o _ => o == 122) h0 h1 → (∀ j, j < 9512 → gI h1 122 j = nI (A j + smN (fun e => ctW a w c k e j) 24)) → K h1) : ∃ n19, M_laysRows_L112 x1 x2 (nI k) (nI (wys a w (k / 1189))) K n19 0 h0 := by
  have h8 := O.1.2.1
  obtain ⟨wl, wn⟩ := wys_lt O (w := w) (p := k / 1189) (by omega)
  refine pk_loop (σ := Hp) (fun n i h => M_laysRows_L112 x1 x2 (nI k) (nI (wys a w (k / 1189))) K n (nI i) h) (fun i h => Fp (fun o _ => o == 122) h0 h ∧ ∀ j, j < 9512 → gI h 122 j = nI (A j + smN (fun e => ctW a w c k e j) i)) 24 0 h0 (by omega) ⟨Fp.rf _ _, e122⟩ (fun n h1 J => ?_) (fun n i h hi J hk' => ?_)
  · unfold M_laysRows_L112
    exact pk_le 24 24 (fun _ => kk h1 J.1 J.2) (fun c => absurd c (by omega))
  · unfold M_laysRows_L112
    refine pk_le 24 i (fun c => absurd c (by omega)) (fun _ => s_isIn (by omega) (by omega) ?_)
    rintro J169 rfl
    by_cases b : (wys a w (k / 1189)).testBit i = true
    · rw [if_pos b]
      have we : wayOK a w (k / 1189) i := (wys_tb O).mp b
      obtain ⟨w6, w7⟩ := ways_e (ways_k J.1 (fun o k a b => by rw [beq_eq_false_iff_ne]; omega) z) hp we
      have tl := ttA_lt O hp we
      have pb := ppA_bd a w i
      have pe : (ppA a w i).toInt = pIA a w i := rfl
      obtain ⟨j0, hj0⟩ : ∃ j0 : Nat, (j0 : Int) = ((1189 * ttA a i + k % 1189 : Nat) : Int) + pIA a w i := ⟨(((1189 * ttA a i + k % 1189 : Nat) : Int) + pIA a w i).toNat, by omega⟩
      have jb : j0 < 9512 := by omega
      have eX : (1189 : Int32) * nI (ttA a i) + (nI k - nI k / 1189 * 1189) + ppA a w i = nI j0 := by
        rw [show (1189 : Int32) = nI 1189 from rfl, pk_rem (by omega) (by omega) (by omega), pk_mul, nI_add, i_eq, i_add (by rw [nI_toInt (by omega)]; omega), nI_toInt (by omega), nI_toInt (by omega), hj0, pe]
      refine brF (by decide) ⟨pk_in i 24 hi, pk_in i 24 hi, ?_⟩
      rw [cl i, w6, w7, eX, cl j0, cl k, J.1.1 121 k rfl, e121, J.2 j0 jb]
      refine ⟨pk_in j0 9512 jb, pk_in k 9512 hk, pk_in j0 9512 jb, ?_⟩
      rintro _ rfl _ rfl
      rw [nI_1 i]
      refine hk' _ ⟨Fp.sI J.1 rfl, fun j hj => ?_⟩
      show _ = nI (A j + (smN (fun e => ctW a w c k e j) i + ctW a w c k i j))
      by_cases e : j = j0
      · subst e
        rw [sI_s, nI_add]
        have : ctW a w c k i j = mkC c k := by unfold ctW mkC; rw [if_pos ⟨b, hj0.symm⟩]
        rw [this, Nat.add_assoc]
      · rw [sI_k e, J.2 j hj]
        have : ctW a w c k i j = 0 := by unfold ctW; rw [if_neg (fun y => e (by have := y.2; omega))]
        rw [this]; rfl
    · rw [if_neg b]
      refine brT rfl ?_
      rintro _ rfl
      rw [nI_1 i]
      refine hk' _ ⟨J.1, fun j hj => ?_⟩
      show _ = nI (A j + (smN (fun e => ctW a w c k e j) i + ctW a w c k i j))
      have : ctW a w c k i j = 0 := by unfold ctW; rw [if_neg (fun y => b y.1)]
      rw [this, J.2 j hj]; rfl
theorem m_rowStep {h0 : Hp} {K : Hp → Prop} {x1 x2 : Int32} {a : Row} {w : Nat} {c : Nat → Int → Nat} (O : LandOK a) (z : WaysM h0 a w) (e121 : ∀ k, k < 9512 → gI h0 121 k = nI (mkC c k)) (sup : ∀ p s, (s < -495 ∨ 495 < s) → c p s = 0) (cz : ∀ p s, nP a ≤ p → c p s = 0) (cb : ∀ p s, c p s < 2 ^ 31) (kk : ∀ h1, Fp o12 h0 h1 → (∀ k, k < 9512 → gI h1 121 k = nI (mkC (stepT a w (bset (opnA a w) (nR a)) (lyC a w) c) k)) → K h1) : ∃ n9, M_laysRows_L56 x1 x2 (fun h10 => ∃ n21, M_laysRows_L78 x1 x2 (fun h22 => ∃ n25, M_laysRows_L183 x1 x2 K n25 0 h22) n21 0 h10) n9 0 h0 := by
  have h8 := O.1.2.1
  have up : ∀ o k, o12 o k = false → (o == 122) = false := fun o k h => by
    simp only [o12, Bool.or_eq_false_iff] at h; exact h.2
  refine pk_loop (σ := Hp) (fun n i h => M_laysRows_L56 x1 x2 (fun h10 => ∃ n21, M_laysRows_L78 x1 x2 (fun h22 => ∃ n25, M_laysRows_L183 x1 x2 K n25 0 h22) n21 0 h10) n (nI i) h) (fun i h => Fp (fun o _ => o == 122) h0 h ∧ ∀ j, j < i → gI h 122 j = 0) 9512 0 h0 (by omega) ⟨Fp.rf _ _, fun q hq => absurd hq (by omega)⟩ (fun n h1 J => ?_) (fun n i h hi J hk => ?_)
  · unfold M_laysRows_L56
    refine pk_le 9512 9512 (fun _ => ?_) (fun c => absurd c (by omega))
    refine pk_loop (σ := Hp) (fun n i h => M_laysRows_L78 x1 x2 (fun h22 => ∃ n25, M_laysRows_L183 x1 x2 K n25 0 h22) n (nI i) h) (fun i h => Fp (fun o _ => o == 122) h0 h ∧ ∀ j, j < 9512 → gI h 122 j = nI (smN (fun k => smN (fun e => ctW a w c k e j) 24) i)) 9512 0 h1 (by omega) ⟨J.1, J.2⟩ (fun n h2 J => ?_) (fun n i h hi J hk => ?_)
    · unfold M_laysRows_L78
      refine pk_le 9512 9512 (fun _ => ?_) (fun c => absurd c (by omega))
      have new : ∀ j, j < 9512 → gI h2 122 j = nI (mkC (stepT a w (bset (opnA a w) (nR a)) (lyC a w) c) j) := fun j hj => by
        have := scat O (w := w) sup (q := j / 1189) (u := j % 1189) (by omega) (Nat.mod_lt _ (by omega))
        rw [show 1189 * (j / 1189) + j % 1189 = j from Nat.div_add_mod j 1189] at this
        rw [J.2 j hj, this]; rfl
      refine pk_loop (σ := Hp) (fun n i h => M_laysRows_L183 x1 x2 K n (nI i) h) (fun i h => Fp o12 h0 h ∧ (∀ j, gI h 122 j = gI h2 122 j) ∧ ∀ j, j < i → gI h 121 j = gI h2 122 j) 9512 0 h2 (by omega) ⟨J.1.mo up, fun _ => rfl, fun q hq => absurd hq (by omega)⟩ (fun n h3 J => ?_) (fun n i h hi J hk => ?_)
      · unfold M_laysRows_L183
        exact pk_le 9512 9512 (fun _ => kk h3 J.1 (fun k hk => (J.2.2 k hk).trans (new k hk))) (fun c => absurd c (by omega))
      · unfold M_laysRows_L183
        refine pk_le 9512 i (fun c => absurd c (by omega)) (fun _ => ⟨pk_in i 9512 hi, pk_in i 9512 hi, ?_⟩)
        rw [cl i]
        rintro _ rfl _ rfl
        rw [nI_1 i]
        refine hk _ ⟨Fp.sI J.1 rfl, fun j => by rw [sI_o (by decide)]; exact J.2.1 j, fun j hj => ?_⟩
        by_cases e : j = i
        · subst e; rw [sI_s]; exact J.2.1 j
        · rw [sI_k e]; exact J.2.2 j (by omega)
    · unfold M_laysRows_L78
      refine pk_le 9512 i (fun c => absurd c (by omega)) (fun _ => ⟨pk_in i 9512 hi, ?_⟩)
      rintro J175 rfl
      have e1 : gI h 121 i = nI (mkC c i) := (J.1.1 121 i rfl).trans (e121 i hi)
      have mb : mkC c i < 2 ^ 31 := cb _ _
      have e0 : nI (mkC c i) = 0 ↔ mkC c i = 0 := nI_eq (a := mkC c i) (b := 0) mb (by omega)
      have ed : nI i / 1189 = nI (i / 1189) := by rw [show (1189 : Int32) = nI 1189 from rfl, pk_div (by omega) (by omega) (by omega)]
      rw [cl i, e1, e0]
      refine ⟨fun q => ?_, fun q => ?_⟩
      · have hp : i / 1189 < nP a := by
          rcases Nat.lt_or_ge (i / 1189) (nP a) with h | h
          · exact h
          · exact absurd (cz _ _ h) q
        have ht : 99 ≤ i % 1189 ∧ i % 1189 ≤ 1089 := by
          by_cases c1 : (((i % 1189 : Nat) : Int) - 594 < -495 ∨ 495 < ((i % 1189 : Nat) : Int) - 594)
          · exact absurd (sup _ _ c1) q
          · omega
        rw [ed, cl (i / 1189)]
        refine ⟨pk_in (i / 1189) 8 (by omega), ?_⟩
        have zh : WaysM h a w := ways_k J.1 (fun o k a b => by rw [beq_eq_false_iff_ne]; omega) z
        rw [zh.1 (i / 1189) (by omega), if_pos hp]
        rintro _ rfl
        refine m_scat1 O zh hi hp e1 ht J.2 (fun h3 f3 e3 => ?_)
        rintro _ rfl
        rw [nI_1 i]
        exact hk h3 ⟨J.1.tr f3, e3⟩
      · rintro _ rfl
        rw [nI_1 i]
        refine hk h ⟨J.1, fun j hj => ?_⟩
        show _ = nI (smN (fun k => smN (fun e => ctW a w c k e j) 24) i + smN (fun e => ctW a w c i e j) 24)
        rw [smN_z (f := fun e => ctW a w c i e j) (fun e _ => by
          unfold ctW
          have q' : c (i / 1189) (((i % 1189 : Nat) : Int) - 594) = 0 := q
          rw [q']; split <;> rfl)]
        exact J.2 j hj
  · unfold M_laysRows_L56
    refine pk_le 9512 i (fun c => absurd c (by omega)) (fun _ => ⟨pk_in i 9512 hi, ?_⟩)
    rw [cl i]
    rintro _ rfl _ rfl
    rw [nI_1 i]
    refine hk _ ⟨Fp.sI J.1 rfl, fun j hj => ?_⟩
    by_cases e : j = i
    · subst e; rw [sI_s]
    · rw [sI_k e]; exact J.2 j (by omega)
theorem p17 {n : Nat} (h : n ≤ 6) : 17 ^ n ≤ 24137569 := by
  have := Nat.pow_le_pow_right (n := 17) (by omega) h
  have e : 17 ^ 6 = 24137569 := by decide
  omega
theorem m_laysRows {h0 : Hp} {Q : Hp → Prop} {a : Row} {w t n : Nat} (O : LandOK a) (h99 : ∀ j, gI h0 99 j = a j) (hw : a 61 = nI w) (ht : t < nP a) (et : a 58 = nI t) (hn : n ≤ 6) (kk : ∀ h1, Fp scM h0 h1 → (∀ j, gI h1 99 j = a j) → (∀ k, k < 9512 → gI h1 121 k = nI (mkC (cC a w t n) k)) → Q h1) : M_laysRows (nI n) h0 Q := by
  have h8 := O.1.2.1
  unfold M_laysRows
  refine m_ways O h99 hw (fun h1 f1 g1 z1 => ?_)
  refine pk_loop (σ := Hp) (fun n' i h => M_laysRows_L6 (nI n) _ n' (nI i) h) (fun i h => Fp o12 h1 h ∧ ∀ j, j < i → gI h 121 j = 0) 9512 0 h1 (by omega) ⟨Fp.rf _ _, fun q hq => absurd hq (by omega)⟩ (fun n' h2 J => ?_) (fun n' i h hi J hk => ?_)
  · unfold M_laysRows_L6
    refine pk_le 9512 9512 (fun _ => ?_) (fun c => absurd c (by omega))
    have e5 : gI h2 99 58 = nI t := ((J.1.1 99 58 rfl).trans (g1 58)).trans et
    have eX : (1189 : Int32) * nI t + 594 = nI (1189 * t + 594) := by rw [show (1189 : Int32) = nI 1189 from rfl, pk_mul, show (594 : Int32) = nI 594 from rfl, nI_add]
    rw [e5, eX, cl (1189 * t + 594)]
    refine ⟨pk_in (1189 * t + 594) 9512 (by omega), ?_⟩
    rintro _ rfl
    refine pk_loop (σ := Hp) (fun n' i h => M_laysRows_L49 (nI n) Q n' (nI i) h) (fun i h => Fp o12 h1 h ∧ ∀ k, k < 9512 → gI h 121 k = nI (mkC (cC a w t i) k)) n 0 _ (by omega) ⟨Fp.sI J.1 rfl, fun k hk => ?_⟩ (fun n' h3 J => ?_) (fun n' i h hi J hk => ?_)
    · show _ = nI (if k / 1189 = t ∧ ((k % 1189 : Nat) : Int) - 594 = 0 then 1 else 0)
      by_cases e : k = 1189 * t + 594
      · subst e; rw [sI_s, if_pos (by omega)]; rfl
      · rw [sI_k e, J.2 k hk, if_neg (by omega)]; rfl
    · unfold M_laysRows_L49
      exact pk_le n n (fun _ => kk h3 (f1.tr (J.1.mo scM_12)) (fun j => (J.1.1 99 j rfl).trans (g1 j)) J.2) (fun c => absurd c (by omega))
    · unfold M_laysRows_L49
      refine pk_le n i (fun c => absurd c (by omega)) (fun _ => ?_)
      refine m_rowStep O (ways_12 J.1 z1) J.2 (fun p s hs => cC_sup a w t i p s (by omega)) (fun p s hp => cC_z O ht i p s hp) (fun p s => by
        have := cC_bd a w t i p s
        have := p17 (n := i) (by omega)
        omega) (fun h3 f3 e3 => ?_)
      rintro _ rfl
      rw [nI_1 i]
      exact hk h3 ⟨J.1.tr f3, e3⟩
  · unfold M_laysRows_L6
    refine pk_le 9512 i (fun c => absurd c (by omega)) (fun _ => ⟨pk_in i 9512 hi, ?_⟩)
    rw [cl i]
    rintro _ rfl _ rfl
    rw [nI_1 i]
    refine hk _ ⟨Fp.sI J.1 rfl, fun j hj => ?_⟩
    by_cases e : j = i
    · subst e; rw [sI_s]
    · rw [sI_k e]; exact J.2 j (by omega)
