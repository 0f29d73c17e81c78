/-! rows counted: the class -/
def lyC (a : Row) (w : Nat) : Nat → Nat := fun p => if obs a w p = 0 then 1 else 0
def cC (a : Row) (w t : Nat) : Nat → Nat → Int → Nat
  | 0 => fun q s => if q = t ∧ s = 0 then 1 else 0
  | n + 1 => stepT a w (bset (opnA a w) (nR a)) (lyC a w) (cC a w t n)
theorem opn_tb {a : Row} {w r : Nat} : (bset (opnA a w) (nR a)).testBit r = true ↔ r < nR a ∧ opnA a w r = true := by
  rw [bset_tb]; simp
theorem opn_lt {a : Row} (O : LandOK a) {w : Nat} : bset (opnA a w) (nR a) < 2 ^ 16 := Nat.lt_of_lt_of_le (bset_lt _ _) (Nat.pow_le_pow_right (by omega) O.2.1.1)
theorem c_begin {h0 : Hp} {Q : Hp → Prop} {t : Nat} (ht : t < 8) (a : Row) (w : Nat) (k : ∀ h1, Fp oS h0 h1 → TabR h1 (cC a w t 0) 0 1 → Q h1) : Sums_begin (nI t) h0 Q := by
  unfold Sums_begin
  rintro _ rfl _ rfl
  refine pk_loop (σ := Hp) (fun n i h => Sums_begin_L12 (nI t) Q n (nI i) h) (fun i h => Fp oS h0 h ∧ gI h 92 3 = 0 ∧ gI h 92 4 = 1 ∧ ∀ q, q < i → gI h 93 q = nI (if q = t then 1 else 0)) 8 0 _ (by omega) ⟨Fp.sI (Fp.sI (Fp.rf _ _) rfl) rfl, by rw [sI_k (by decide), sI_s], by rw [sI_s], fun q hq => absurd hq (by omega)⟩ (fun n h1 J => ?_) (fun n i h hi J hk => ?_)
  · obtain ⟨F, j3, j4, jt⟩ := J
    unfold Sums_begin_L12
    refine pk_le 8 8 (fun _ => k h1 F ⟨by rw [j3]; rfl, j4, fun j p hj hp => ?_, fun p s hp hs => ?_⟩) (fun c => absurd c (by omega))
    · have : j = 0 := by omega
      subst this
      rw [show 0 * 8 + p = p by omega, jt p hp]
      show _ = nI (if p = t ∧ (0 : Int) + ((0 : Nat) : Int) = 0 then 1 else 0)
      by_cases e : p = t
      · rw [if_pos e, if_pos ⟨e, by decide⟩]
      · rw [if_neg e, if_neg (fun z => e z.1)]
    · show (if p = t ∧ s = 0 then 1 else 0) = 0
      rw [if_neg (by omega)]
  · obtain ⟨F, j3, j4, jt⟩ := J
    unfold Sums_begin_L12
    refine pk_le 8 i (fun c => absurd c (by omega)) (fun _ => ?_)
    rintro J33 rfl
    have fin : ∀ y : Int32, y = nI (if i = t then 1 else 0) → vp_in (nI i) 9512 ∧ ∀ h5 : Hp, h5 = sI h 93 (nI i).toNatClampNeg y → ∀ v6 : Int32, v6 = (nI i + 1) → Sums_begin_L12 (nI t) Q n v6 h5 := by
      rintro _ rfl
      refine ⟨pk_in i 9512 (by omega), ?_⟩
      rw [cl i]
      rintro _ rfl _ rfl
      rw [nI_1 i]
      refine hk _ ⟨Fp.sI F rfl, by rw [sI_o (by decide)]; exact j3, by rw [sI_o (by decide)]; exact j4, fun q hq => ?_⟩
      by_cases e : q = i
      · subst e; rw [sI_s]
      · rw [sI_k e]; exact jt q (by omega)
    rw [nI_eq (by omega) (by omega)]
    refine ⟨fun c => fin _ ?_, fun c => fin _ ?_⟩
    · rw [if_neg c]; rfl
    · rw [if_pos c]; rfl
theorem c_choice {h0 : Hp} {Q : Hp → Prop} {a : Row} {w : Nat} {c : Nat → Int → Nat} {least : Int} {size : Nat} (L0 : Lnd h0 a) (O : LandOK a) (hw : w < 10) (T : TabR h0 c least size) (hs : 1 ≤ size ∧ size ≤ 991) (hl : -600 ≤ least ∧ least ≤ 0) (k : ∀ h1 l' s', Fp oS h0 h1 → TabR h1 (stepT a w (bset (opnA a w) (nR a)) (lyC a w) c) l' s' → least - 99 ≤ l' → l' ≤ least → size ≤ s' → s' ≤ size + 198 → Q h1) : Sums_stepByChoice (nI w) h0 Q := by
  have h16 := O.2.1.1
  unfold Sums_stepByChoice
  refine pk_loop (σ := Hp) (fun n i h => Sums_stepByChoice_L2 (nI w) Q n (nI i) h) (fun i h => Fp (fun o _ => o == 94) h0 h ∧ ∀ q, q < i → gI h 94 q = nI (lyC a w q)) 8 0 _ (by omega) ⟨Fp.rf _ _, fun q hq => absurd hq (by omega)⟩ (fun n h1 J => ?_) (fun n i h hi J hk => ?_)
  · have F1 : Fp oS h0 h1 := J.1.mo (fun o k h => by
      simp only [oS, Bool.or_eq_false_iff] at h; exact h.1.2)
    unfold Sums_stepByChoice_L2
    refine pk_le 8 8 (fun _ => c_openRoads (oS_k L0 F1) hw ?_) (fun c => absurd c (by omega))
    refine c_step (oS_k L0 F1) O hw (fun r hr => opn_tb.mp hr) (opn_lt O) (c := c) (least := least) (size := size) ?_ hs hl J.2 (fun h2 l' s' f2 => k h2 l' s' (F1.tr f2))
    obtain ⟨t1, t2, t3, t4⟩ := T
    exact ⟨by rw [J.1.1 92 3 rfl]; exact t1, by rw [J.1.1 92 4 rfl]; exact t2, fun k p hk hp => by rw [J.1.1 93 _ rfl]; exact t3 k p hk hp, t4⟩
  · have F1 : Fp oS h0 h := J.1.mo (fun o k h => by
      simp only [oS, Bool.or_eq_false_iff] at h; exact h.1.2)
    unfold Sums_stepByChoice_L2
    refine pk_le 8 i (fun c => absurd c (by omega)) (fun _ => c_openFrom (oS_k L0 F1) O hw hi ?_)
    rintro J27 rfl
    have fin : ∀ y : Int32, y = nI (lyC a w i) → vp_in (nI i) 8 ∧ ∀ h8 : Hp, h8 = sI h 94 (nI i).toNatClampNeg y → ∀ v9 : Int32, v9 = (nI i + 1) → Sums_stepByChoice_L2 (nI w) Q n v9 h8 := by
      rintro _ rfl
      refine ⟨pk_in i 8 hi, ?_⟩
      rw [cl i]
      rintro _ rfl _ rfl
      rw [nI_1 i]
      refine hk _ ⟨Fp.sI J.1 rfl, fun q hq => ?_⟩
      by_cases e : q = i
      · subst e; rw [sI_s]
      · rw [sI_k e]; exact J.2 q (by omega)
    have ol := obs_lt O w i
    have e : nI (obs a w i) = 0 ↔ obs a w i = 0 := nI_eq (a := obs a w i) (b := 0) (by omega) (by omega)
    rw [e]
    refine ⟨fun c => fin _ ?_, fun c => fin _ ?_⟩
    · unfold lyC; rw [if_neg c]; rfl
    · unfold lyC; rw [if_pos c]; rfl
theorem c_countRows {h0 : Hp} {Q : Hp → Prop} {a : Row} {w t n : Nat} (L0 : Lnd h0 a) (O : LandOK a) (hw : w < 10) (ht : t < 8) (hn : n ≤ 6) (e0 : gI h0 20 0 = nI t) (e3 : gI h0 20 3 = nI w) (k : ∀ h1 l s, Fp oS h0 h1 → TabR h1 (cC a w t n) l s → -594 ≤ l → l ≤ 0 → 1 ≤ s → s ≤ 1189 → Q h1) : C_countRows (nI n) h0 Q := by
  unfold C_countRows
  rw [e0]
  refine c_begin ht a w (fun h1 f1 T1 => ?_)
  refine pk_loop (σ := Hp) (fun n' i h => C_countRows_L16 (nI n) Q n' (nI i) h) (fun i h => Fp oS h0 h ∧ ∃ (l : Int) (s : Nat), TabR h (cC a w t i) l s ∧ -99 * (i : Int) ≤ l ∧ l ≤ 0 ∧ 1 ≤ s ∧ s ≤ 1 + 198 * i) n 0 h1 (by omega) ⟨f1, 0, 1, T1, by omega, by omega, by omega, by omega⟩ (fun n' h2 J => ?_) (fun n' i h hi J hk => ?_)
  · obtain ⟨F, l, s, T, b1, b2, b3, b4⟩ := J
    unfold C_countRows_L16
    exact pk_le n n (fun _ => k h2 l s F T (by omega) b2 b3 (by omega)) (fun c => absurd c (by omega))
  · obtain ⟨F, l, s, T, b1, b2, b3, b4⟩ := J
    unfold C_countRows_L16
    refine pk_le n i (fun c => absurd c (by omega)) (fun _ => ?_)
    rw [F.1 20 3 rfl, e3]
    refine c_choice (oS_k L0 F) O hw T ⟨b3, by omega⟩ ⟨by omega, b2⟩ (fun h2 l' s' f2 T2 d1 d2 d3 d4 => ?_)
    rintro _ rfl
    rw [nI_1 i]
    exact hk h2 ⟨F.tr f2, l', s', T2, by omega, by omega, by omega, by omega⟩
