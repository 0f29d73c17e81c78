/-! stands, and what was -/
def PastC (h : Hp) (m nx : Nat) (D : Nat → Row) : Prop := m ≤ 10 ∧ nx < 10 ∧ gI h 24 2 = nI m ∧ gI h 24 1 = nI nx ∧ ∀ i, i < m → StdR h (26 + 2 * ((nx + 10 - m + i) % 10)) (27 + 2 * ((nx + 10 - m + i) % 10)) (D i)
def PastM (h : Hp) (m : Nat) (D : Nat → Row) : Prop := gI h 99 70 = nI m ∧ ∀ i, i < m → ∀ k, k < 12 → gI h 99 (71 + 12 * i + k) = D i k
def psh (m : Nat) (D : Nat → Row) (s : Row) : Nat → Row := if m < 10 then (fun i => if i = m then s else D i) else (fun i => if i = 9 then s else D (i + 1))
def mm (m : Nat) : Nat := if m < 10 then m + 1 else 10
theorem StdR_c {h : Hp} {o pl : Nat} {s s' : Row} (R : StdR h o pl s) (e : ∀ k, k < 12 → s' k = s k) : StdR h o pl s' := ⟨by rw [e 0 (by omega)]; exact R.1, by rw [e 1 (by omega)]; exact R.2.1, by rw [e 2 (by omega)]; exact R.2.2.1, by rw [e 3 (by omega)]; exact R.2.2.2.1, fun p hp => by rw [e _ (by omega)]; exact R.2.2.2.2 p hp⟩
theorem StdOK_c {a s s' : Row} {B : Int} (h : StdOK a s B) (e : ∀ k, k < 12 → s' k = s k) : StdOK a s' B := ⟨by rw [e 0 (by omega)]; exact h.1, by rw [e 3 (by omega)]; exact h.2.1, fun p hp => by rw [e _ (by omega)]; exact h.2.2.1 p hp, by rw [e 1 (by omega)]; exact h.2.2.2⟩
theorem iPast_of {B : Int} {h : Hp} {m nx : Nat} {D : Nat → Row} (C : PastC h m nx D) (M : PastM h m D) (k : ∀ i, i < m → StdOK (rowM h) (D i) B) : iPast B h :=
  ⟨m, nx, C.1, C.2.1, M.1, C.2.2.1, C.2.2.2.1, fun i hi => ⟨StdOK_c (k i hi) (fun j hj => M.2 i hi j hj), StdR_c (C.2.2.2.2 i hi) (fun j hj => M.2 i hi j hj)⟩⟩
theorem iPast_to {B : Int} {h : Hp} (I : iPast B h) : ∃ m nx, PastC h m nx (segM h) ∧ PastM h m (segM h) ∧ ∀ i, i < m → StdOK (rowM h) (segM h i) B := by
  obtain ⟨m, nx, a1, a2, a3, a4, a5, a6⟩ := I
  exact ⟨m, nx, ⟨a1, a2, a4, a5, fun i hi => (a6 i hi).2⟩, ⟨a3, fun i hi k hk => rfl⟩, fun i hi => (a6 i hi).1⟩
/-- what deeds may change beside the scratch -/
def scX : Nat → Nat → Bool := fun o k => sc2 o k || (o == 20 || o == 21 || (decide (24 ≤ o) && decide (o ≤ 45))) || (o == 99 && (decide (58 ≤ k) && decide (k < 191)))
theorem sc2_X (o k : Nat) (h : scX o k = false) : sc2 o k = false := by simp only [scX, Bool.or_eq_false_iff] at h; exact h.1.1
theorem scX_lo {o k : Nat} (h : o < 73) (h1 : o ≠ 22) (h2 : o ≠ 23) (h3 : o ≠ 20) (h4 : o ≠ 21) (h5 : ¬ (24 ≤ o ∧ o ≤ 45)) : scX o k = false := by
  have a1 : (o == 20) = false := by simp [h3]
  have a2 : (o == 21) = false := by simp [h4]
  have a3 : (o == 99) = false := by simp; omega
  have a4 : (decide (24 ≤ o) && decide (o ≤ 45)) = false := by simp; omega
  simp only [scX, sc2_lo h h1 h2, a1, a2, a3, a4, Bool.false_and, Bool.or_false]
theorem inv_deed {B C : Int} {h h2 : Hp} {s : Row} {m nx : Nat} {D : Nat → Row} (I : Inv B h) (hBC : B ≤ C) (F : Fp scX h h2) (sR : StdR h2 20 21 s) (sM : ∀ k, k < 12 → gI h2 99 (58 + k) = s k) (sO : StdOK (rowM h) s C) (pC : PastC h2 m nx D) (pM : PastM h2 m D) (pO : ∀ i, i < m → StdOK (rowM h) (D i) C) : Inv C h2 := by
  have I := Inv_B I hBC
  obtain ⟨i1, i2, i3, i4, i5, i6, i7, i8, i9⟩ := I
  have E : LSame (rowM h) (rowM h2) := fun k hk hn => F.1 99 k (by
    have : (decide (58 ≤ k) && decide (k < 191)) = false := by simp; omega
    simp only [scX, this, Bool.and_false, Bool.or_false]; rfl)
  have elo : ∀ o k, o < 73 → o ≠ 22 → o ≠ 23 → o ≠ 20 → o ≠ 21 → ¬ (24 ≤ o ∧ o ≤ 45) → gI h2 o k = gI h o k := fun o k a b c d e f => F.1 o k (scX_lo a b c d e f)
  have elj : ∀ o k, o < 73 → o ≠ 22 → o ≠ 23 → o ≠ 20 → o ≠ 21 → ¬ (24 ≤ o ∧ o ≤ 45) → gJ h2 o k = gJ h o k := fun o k a b c d e f => F.2 o k (scX_lo a b c d e f)
  refine ⟨kLand i1 E (fun o j h1 h2 => elo o j (by omega) (by omega) (by omega) (by omega) (by omega) (by omega)), ⟨?_, StdR_c sR sM⟩, iPast_of pC pM (fun i hi => le_std i1.1 E (pO i hi)), ?_, ?_, ?_, ?_, ?_, ?_⟩
  · exact StdOK_c (le_std i1.1 E sO) sM
  · refine kImg i4 (fun k hk => F.1 99 k ?_) (elo 0 15 (by omega) (by omega) (by omega) (by omega) (by omega) (by omega)) (fun i => F.1 100 i rfl) (fun o j h1 h2 => elo o j (by omega) (by omega) (by omega) (by omega) (by omega) (by omega)) (fun o j h1 h2 => elj o j (by omega) (by omega) (by omega) (by omega) (by omega) (by omega))
    have : (decide (58 ≤ k) && decide (k < 191)) = false := by simp; omega
    simp only [scX, this, Bool.and_false, Bool.or_false]; rfl
  · exact kTray i5 (fun t => F.1 124 t rfl) (fun t => F.1 125 t rfl) (fun t => F.2 126 t rfl) (fun o j h1 h2 => elo o j (by omega) (by omega) (by omega) (by omega) (by omega) (by omega)) (fun o j h1 h2 => elj o j (by omega) (by omega) (by omega) (by omega) (by omega) (by omega))
  · exact kTape i6 (elo 0 1 (by omega) (by omega) (by omega) (by omega) (by omega) (by omega)) (fun j => elo 1 j (by omega) (by omega) (by omega) (by omega) (by omega) (by omega)) (F.1 98 5 rfl) (fun j => F.1 101 j rfl)
  · exact kFlt i7 (elo 2 13 (by omega) (by omega) (by omega) (by omega) (by omega) (by omega)) (elo 2 14 (by omega) (by omega) (by omega) (by omega) (by omega) (by omega)) (F.1 98 13 rfl) (F.1 98 14 rfl)
  · refine kGame i8 i1.1 E (fun o j h1 h2 => F.1 o j ?_)
    have a1 : (o == 20) = false := by simp; omega
    have a2 : (o == 21) = false := by simp; omega
    have a3 : (o == 99) = false := by simp; omega
    have a4 : (decide (24 ≤ o) && decide (o ≤ 45)) = false := by simp; omega
    have b1 : (o == 22) = false := by simp; omega
    have b2 : (o == 23) = false := by simp; omega
    have b3 : (o == 98) = false := by simp; omega
    have b4 : decide (o ≤ 79) = false := by simp; omega
    have b5 : decide (86 ≤ o) = false := by simp; omega
    have b6 : decide (102 ≤ o) = false := by simp; omega
    simp only [scX, sc2, scC, scM, a1, a2, a3, a4, b1, b2, b3, b4, b5, b6, Bool.false_and, Bool.and_false, Bool.or_false]
  · exact (F.1 90 0 rfl).trans i9
def oP (x y : Nat) : Nat → Nat → Bool := fun o _ => o == x || o == y
theorem c_copy {h : Hp} {Q : Hp → Prop} {o0 p0 o1 p1 : Nat} {s : Row} (R : StdR h o1 p1 s) (e0 : rf o0 4 = p0) (e1 : rf o1 4 = p1) (d1 : o0 ≠ o1) (d2 : p0 ≠ o0) (d3 : p0 ≠ o1) (d4 : p0 ≠ p1) (d5 : o0 ≠ p1) (k : ∀ h1, Fp (oP o0 p0) h h1 → StdR h1 o0 p0 s → Q h1) : Stand_copy o0 o1 h Q := by
  unfold Stand_copy
  rintro _ rfl _ rfl _ rfl _ rfl
  refine ⟨by decide, ?_⟩
  rintro _ rfl
  rw [e0, e1]
  have f0 : oP o0 p0 o0 = fun _ => true := by funext j; simp [oP]
  have f1 : oP o0 p0 p0 = fun _ => true := by funext j; simp [oP]
  refine k _ ?_ ?_
  · exact Fp.cI (Fp.sI (Fp.sI (Fp.sJ (Fp.sI (Fp.rf _ h) (by rw [f0])) (by rw [f0])) (by rw [f0])) (by rw [f0])) (fun j _ _ => by rw [f1])
  · have ne1 : o1 ≠ o0 := fun q => d1 q.symm
    have ne2 : o0 ≠ p0 := fun q => d2 q.symm
    have ne3 : p1 ≠ o0 := fun q => d5 q.symm
    refine ⟨?_, ?_, ?_, ?_, fun p hp => ?_⟩
    · simp only [gI_cI, gI_sI, gI_sJ]
      simp [ne2, R.1]
    · simp only [gJ_cI, gJ_sI, gJ_sJ]
      simp [R.2.1]
    · simp only [gI_cI, gI_sI, gI_sJ]
      simp [ne2, ne1, R.2.2.1]
    · simp only [gI_cI, gI_sI, gI_sJ]
      simp [ne2, ne1, R.2.2.2.1]
    · rw [gI_cI, if_pos ⟨rfl, by show 0 ≤ p; omega, by show p < 0 + 8; omega⟩]
      simp only [gI_sI, gI_sJ]
      have e : (0 : Int32).toNatClampNeg + (p - (0 : Int32).toNatClampNeg) = p := by show 0 + (p - 0) = p; omega
      rw [e]
      simp [ne3, R.2.2.2.2 p hp]
theorem rf25 : ∀ j, j < 10 → rf 25 j = 26 + 2 * j ∧ rf (26 + 2 * j) 4 = 27 + 2 * j := by decide
def oK : Nat → Nat → Bool := fun o _ => decide (24 ≤ o) && decide (o ≤ 45)
theorem c_keep {h : Hp} {Q : Hp → Prop} {o pl m nx : Nat} {s : Row} {D : Nat → Row} (R : StdR h o pl s) (e1 : rf o 4 = pl) (ho : o < 24) (hpl : pl < 24) (C : PastC h m nx D) (k : ∀ h1, Fp oK h h1 → PastC h1 (mm m) ((nx + 1) % 10) (psh m D s) → Q h1) : Past_keep o h Q := by
  obtain ⟨c1, c2, c3, c4, c5⟩ := C
  obtain ⟨r1, r2⟩ := rf25 nx c2
  unfold Past_keep
  rw [c4]
  refine brF (nI_pos (by omega)) (pk_le 10 nx (fun q => absurd q (by omega)) (fun _ => ⟨pk_in nx 10 c2, ?_⟩))
  rw [cl nx, r1]
  refine c_copy R r2 e1 (by omega) (by omega) (by omega) (by omega) (by omega) (fun h1 f1 R1 => ?_)
  have fo : ∀ o j, o ≠ 26 + 2 * nx → o ≠ 27 + 2 * nx → gI h1 o j = gI h o j := fun o j a b => f1.1 o j (by simp [oP, a, b])
  have foj : ∀ o j, o ≠ 26 + 2 * nx → o ≠ 27 + 2 * nx → gJ h1 o j = gJ h o j := fun o j a b => f1.2 o j (by simp [oP, a, b])
  rintro h3 rfl
  have e24 : gI h1 24 1 = nI nx := (fo 24 1 (by omega) (by omega)).trans c4
  have e242 : gI h1 24 2 = nI m := (fo 24 2 (by omega) (by omega)).trans c3
  have en : gI h1 24 1 + 1 - (gI h1 24 1 + 1) / 10 * 10 = nI ((nx + 1) % 10) := by
    rw [e24, nI_1]
    exact pk_rem (by omega) (by decide) (by decide)
  rw [en]
  unfold J9_min_7cf53
  have e2 : gI (sI h1 24 1 (nI ((nx + 1) % 10))) 24 2 + 1 = nI (m + 1) := by rw [sI_k (by decide), e242, nI_1]
  rw [e2]
  have fin : ∀ x, x = nI (mm m) → Q (sI (sI h1 24 1 (nI ((nx + 1) % 10))) 24 2 x) := by
    rintro x rfl
    refine k _ ?_ ⟨?_, Nat.mod_lt _ (by decide), sI_s _ _ _ _, ?_, fun i hi => ?_⟩
    · refine Fp.sI (Fp.sI (f1.mo (fun o j q => ?_)) rfl) rfl
      simp only [oK, Bool.and_eq_false_iff, decide_eq_false_iff_not] at q
      simp only [oP, Bool.or_eq_false_iff, beq_eq_false_iff_ne]
      omega
    · unfold mm; split <;> omega
    · rw [sI_k (by decide), sI_s]
    · have idx : ((nx + 1) % 10 + 10 - mm m + i) % 10 = if i + 1 = mm m then nx else (nx + 10 - m + (if m < 10 then i else i + 1)) % 10 := by
        unfold mm at hi ⊢
        by_cases q : m < 10
        · rw [if_pos q] at hi ⊢
          rw [if_pos q]
          by_cases e : i + 1 = m + 1
          · rw [if_pos e]; omega
          · rw [if_neg e]; omega
        · rw [if_neg q] at hi ⊢
          rw [if_neg q]
          by_cases e : i + 1 = 10
          · rw [if_pos e]; omega
          · rw [if_neg e]; omega
      have kp : ∀ {x y : Nat} {s : Row}, 26 ≤ x → 26 ≤ y → StdR h1 x y s → StdR (sI (sI h1 24 1 (nI ((nx + 1) % 10))) 24 2 (nI (mm m))) x y s := fun hx hy R => StdR_k R (fun z j hz => by rw [sI_o (by omega), sI_o (by omega)]) rfl
      rw [idx]
      by_cases e : i + 1 = mm m
      · rw [if_pos e]
        refine kp (by omega) (by omega) ?_
        have : psh m D s i = s := by
          unfold psh; unfold mm at e
          by_cases q : m < 10
          · rw [if_pos q] at e ⊢; exact if_pos (by omega)
          · rw [if_neg q] at e ⊢; exact if_pos (by omega)
        rw [this]; exact R1
      · rw [if_neg e]
        refine kp (by omega) (by omega) ?_
        have : psh m D s i = D (if m < 10 then i else i + 1) := by
          unfold psh; unfold mm at e hi
          by_cases q : m < 10
          · rw [if_pos q] at e hi ⊢; rw [if_pos q]; exact if_neg (by omega)
          · rw [if_neg q] at e hi ⊢; rw [if_neg q]; exact if_neg (by omega)
        rw [this]
        have hj : (if m < 10 then i else i + 1) < m := by
          unfold mm at e hi
          by_cases q : m < 10
          · rw [if_pos q] at e hi ⊢; omega
          · rw [if_neg q] at e hi ⊢; omega
        have hne : (nx + 10 - m + (if m < 10 then i else i + 1)) % 10 ≠ nx := by
          clear idx
          by_cases q : m < 10
          · rw [if_pos q] at hj ⊢; omega
          · rw [if_neg q] at hj ⊢; omega
        have := c5 _ hj
        exact StdR_k this (fun z j hz => fo z j (by omega) (by omega)) (foj _ 1 (by omega) (by omega))
  refine ⟨fun q => ?_, fun q => ?_⟩
  · have q : nI 10 < nI (m + 1) := q
    rw [nI_ltI (by omega) (by omega)] at q
    rintro _ rfl
    refine fin 10 ?_
    unfold mm; rw [if_neg (by omega)]; rfl
  · have q : ¬ nI 10 < nI (m + 1) := q
    rw [nI_ltI (by omega) (by omega)] at q
    rintro _ rfl
    refine fin _ ?_
    unfold mm; rw [if_pos (by omega)]
/-! the reference: stores, notes -/
theorem m_stores {h : Hp} {Q : Hp → Prop} (k : ∀ h1, Fp (fun o _ => o == 109) h h1 → (∀ j, j < 12 → gI h1 109 j = gI h 99 (58 + j)) → Q h1) : M_stores h Q := by
  unfold M_stores
  refine pk_loop (σ := Hp) (fun n i h1 => M_stores_L2 Q n (nI i) h1) (fun i h1 => Fp (fun o _ => o == 109) h h1 ∧ ∀ j, j < i → gI h1 109 j = gI h 99 (58 + j)) 12 0 h (by omega) ⟨Fp.rf _ h, fun j hj => absurd hj (by omega)⟩ (fun n h1 I => ?_) (fun n i h1 hi I hk => ?_)
  · unfold M_stores_L2
    exact pk_le 12 12 (fun _ => k h1 I.1 I.2) (fun q => absurd q (by omega))
  · unfold M_stores_L2
    have e58 : (58 : Int32) + nI i = nI (58 + i) := nI_add 58 i
    rw [e58]
    refine pk_le 12 i (fun q => absurd q (by omega)) (fun _ => ⟨pk_in (58 + i) 3276 (by omega), pk_in i 12 (by omega), ?_⟩)
    rintro _ rfl _ rfl
    rw [nI_1, cl i, cl (58 + i)]
    refine hk _ ⟨Fp.sI I.1 rfl, fun j hj => ?_⟩
    by_cases e : j = i
    · subst e; rw [sI_s]; exact I.1.1 99 _ rfl
    · rw [sI_k e]; exact I.2 j (by omega)
theorem m_isAgain {h : Hp} {Q : Hp → Prop} (k : ∀ h1, Fp (fun o j => o == 99 && (decide (58 ≤ j) && decide (j < 70))) h h1 → (∀ j, j < 12 → gI h1 99 (58 + j) = gI h 109 j) → Q h1) : M_isAgain h Q := by
  unfold M_isAgain
  refine pk_loop (σ := Hp) (fun n i h1 => M_isAgain_L2 Q n (nI i) h1) (fun i h1 => Fp (fun o j => o == 99 && (decide (58 ≤ j) && decide (j < 70))) h h1 ∧ ∀ j, j < i → gI h1 99 (58 + j) = gI h 109 j) 12 0 h (by omega) ⟨Fp.rf _ h, fun j hj => absurd hj (by omega)⟩ (fun n h1 I => ?_) (fun n i h1 hi I hk => ?_)
  · unfold M_isAgain_L2
    exact pk_le 12 12 (fun _ => k h1 I.1 I.2) (fun q => absurd q (by omega))
  · unfold M_isAgain_L2
    have e58 : (58 : Int32) + nI i = nI (58 + i) := nI_add 58 i
    rw [e58]
    refine pk_le 12 i (fun q => absurd q (by omega)) (fun _ => ⟨pk_in i 12 (by omega), pk_in (58 + i) 3276 (by omega), ?_⟩)
    rintro _ rfl _ rfl
    rw [nI_1, cl i, cl (58 + i)]
    refine hk _ ⟨Fp.sI I.1 (by simp; omega), fun j hj => ?_⟩
    by_cases e : j = i
    · subst e; rw [sI_s]; exact I.1.1 109 _ rfl
    · rw [sI_k (by omega)]; exact I.2 j (by omega)
def oN : Nat → Nat → Bool := fun o j => o == 99 && (decide (70 ≤ j) && decide (j < 191))
theorem m_notes57 {h : Hp} {Q : Hp → Prop} {m : Nat} {s : Row} {D : Nat → Row} (hm : m < 10) (M : PastM h m D) (hs : ∀ k, k < 12 → gI h 109 k = s k) (k : ∀ h1, Fp oN h h1 → PastM h1 (m + 1) (fun i => if i = m then s else D i) → Q h1) : ∃ n, M_notes_L57 Q n 0 h := by
  refine pk_loop (σ := Hp) (fun n i h1 => M_notes_L57 Q n (nI i) h1) (fun i h1 => Fp oN h h1 ∧ PastM h1 m D ∧ ∀ j, j < i → gI h1 99 (71 + 12 * m + j) = s j) 12 0 h (by omega) ⟨Fp.rf _ h, M, fun j hj => absurd hj (by omega)⟩ (fun n h1 I => ?_) (fun n i h1 hi I hk => ?_)
  · unfold M_notes_L57
    refine pk_le 12 12 (fun _ => ?_) (fun q => absurd q (by omega))
    rintro _ rfl
    rw [I.2.1.1, nI_1]
    refine k _ (Fp.sI I.1 (by decide)) ⟨sI_s _ _ _ _, fun i hi j hj => ?_⟩
    rw [sI_k (by omega)]
    by_cases e : i = m
    · subst e; simp only [if_true]; exact I.2.2 j hj
    · simp only [if_neg e]; exact I.2.1.2 i (by omega) j hj
  · unfold M_notes_L57
    have e12 : (71 : Int32) + 12 * gI h1 99 70 + nI i = nI (71 + 12 * m + i) := by
      rw [I.2.1.1]
      show nI 71 + nI 12 * nI m + nI i = _
      rw [pk_mul, nI_add, nI_add]
    rw [e12]
    refine pk_le 12 i (fun q => absurd q (by omega)) (fun _ => ⟨pk_in i 12 (by omega), pk_in (71 + 12 * m + i) 3276 (by omega), ?_⟩)
    rintro _ rfl _ rfl
    rw [nI_1, cl i, cl (71 + 12 * m + i)]
    refine hk _ ⟨Fp.sI I.1 (by simp [oN]; omega), ⟨by rw [sI_k (by omega)]; exact I.2.1.1, fun i' hi' j hj => ?_⟩, fun j hj => ?_⟩
    · rw [sI_k (by omega)]; exact I.2.1.2 i' hi' j hj
    · by_cases e : j = i
      · subst e; rw [sI_s, I.1.1 109 _ rfl]; exact hs j (by omega)
      · rw [sI_k (by omega)]; exact I.2.2 j (by omega)
theorem m_notes {h : Hp} {Q : Hp → Prop} {m : Nat} {s : Row} {D : Nat → Row} (hm : m ≤ 10) (M : PastM h m D) (hs : ∀ k, k < 12 → gI h 109 k = s k) (k : ∀ h1, Fp oN h h1 → PastM h1 (mm m) (psh m D s) → Q h1) : M_notes h Q := by
  unfold M_notes
  rintro J rfl
  rw [M.1]
  have e10 : nI m = 10 ↔ m = 10 := nI_eq (a := m) (b := 10) (by omega) (by omega)
  rw [e10]
  refine ⟨fun q => ?_, fun q => ?_⟩
  · refine m_notes57 (by omega) M hs (fun h1 f1 M1 => k h1 f1 ?_)
    unfold mm psh
    rw [if_pos (by omega), if_pos (by omega)]
    exact M1
  · subst q
    refine pk_loop (σ := Hp) (fun n i h1 => M_notes_L14 (fun h9 => ∀ h10 : Hp, h10 = sI h9 99 70 ((gI h9 99 70) - 1) → ∃ n5, M_notes_L57 Q n5 0 h10) n (nI i) h1) (fun i h1 => Fp oN h h1 ∧ gI h1 99 70 = nI 10 ∧ (∀ j, j < i → gI h1 99 (71 + j) = gI h 99 (83 + j)) ∧ ∀ j, i ≤ j → j < 120 → gI h1 99 (71 + j) = gI h 99 (71 + j)) 108 0 h (by omega) ⟨Fp.rf _ h, M.1, fun j hj => absurd hj (by omega), fun j _ _ => rfl⟩ (fun n h1 I => ?_) (fun n i h1 hi I hk => ?_)
    · unfold M_notes_L14
      refine pk_le 108 108 (fun _ => ?_) (fun q => absurd q (by omega))
      rintro _ rfl
      rw [I.2.1]
      have e9 : nI 10 - 1 = nI 9 := rfl
      rw [e9]
      refine m_notes57 (m := 9) (D := fun i => D (i + 1)) (s := s) (by omega) ⟨sI_s _ _ _ _, fun i hi j hj => ?_⟩ (fun j hj => ?_) (fun h2 f2 M2 => k h2 ((Fp.sI I.1 (by decide)).tr f2) ?_)
      · rw [sI_k (by omega), show 71 + 12 * i + j = 71 + (12 * i + j) by omega, I.2.2.1 _ (by omega)]
        rw [show 83 + (12 * i + j) = 71 + 12 * (i + 1) + j by omega]
        exact M.2 (i + 1) (by omega) j hj
      · rw [sI_o (by decide), I.1.1 109 _ rfl]; exact hs j hj
      · unfold mm psh
        rw [if_neg (by omega), if_neg (by omega)]
        exact M2
    · unfold M_notes_L14
      have e83 : (83 : Int32) + nI i = nI (83 + i) := nI_add 83 i
      have e71 : (71 : Int32) + nI i = nI (71 + i) := nI_add 71 i
      rw [e83, e71]
      refine pk_le 108 i (fun q => absurd q (by omega)) (fun _ => ⟨pk_in (83 + i) 3276 (by omega), pk_in (71 + i) 3276 (by omega), ?_⟩)
      rintro _ rfl _ rfl
      rw [nI_1, cl (83 + i), cl (71 + i)]
      refine hk _ ⟨Fp.sI I.1 (by simp [oN]; omega), by rw [sI_k (by omega)]; exact I.2.1, fun j hj => ?_, fun j h1 h2 => ?_⟩
      · by_cases e : j = i
        · subst e; rw [sI_s, show 83 + j = 71 + (12 + j) by omega]; exact I.2.2.2 _ (by omega) (by omega)
        · rw [sI_k (by omega)]; exact I.2.2.1 j (by omega)
      · rw [sI_k (by omega)]; exact I.2.2.2 j (by omega) h2
