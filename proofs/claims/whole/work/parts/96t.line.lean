/-! a line of the text, read by the reference -/
def MF : Nat → Nat → Bool := fun o k => (o == 98 && (k == 6 || k == 7 || k == 9 || k == 10 || k == 11 || k == 12)) || (o == 102 && (decide (k < 58) || decide (191 ≤ k)))
theorem MF_1 {o k : Nat} (h : MF o k = false) : (o == 98 && (k == 6 || k == 7 || k == 9 || k == 10 || k == 11 || k == 12)) = false ∧ (o ≠ 102 ∨ (58 ≤ k ∧ k < 191)) := by
  simp only [MF, Bool.or_eq_false_iff] at h
  refine ⟨h.1, ?_⟩
  have h2 := h.2
  simp only [Bool.and_eq_false_iff, Bool.or_eq_false_iff, decide_eq_false_iff_not, beq_eq_false_iff_ne] at h2
  rcases h2 with q | ⟨q1, q2⟩
  · exact Or.inl q
  · exact Or.inr ⟨by omega, by omega⟩
theorem MF_m (s o k : Nat) (h : MF o k = false) : mF s o k = false := by
  obtain ⟨h1, h2⟩ := MF_1 h
  simp only [mF, h1, Bool.false_or, Bool.and_eq_false_iff, Bool.or_eq_false_iff, decide_eq_false_iff_not, beq_eq_false_iff_ne]
  rcases h2 with q | ⟨q1, q2⟩
  · exact Or.inl q
  · exact Or.inr ⟨by omega, by omega⟩
theorem MF_p (s o k : Nat) (h : MF o k = false) : pmF s o k = false := by
  have m := MF_m s o k h
  obtain ⟨h1, h2⟩ := MF_1 h
  simp only [pmF, m, Bool.false_or, Bool.and_eq_false_iff, Bool.or_eq_false_iff, beq_eq_false_iff_ne]
  rcases h2 with q | ⟨q1, q2⟩
  · exact Or.inl q
  · exact Or.inr ⟨by omega, by omega⟩
theorem MF_r (s o k : Nat) (h : MF o k = false) : rmF s o k = false := by
  have m := MF_m s o k h
  obtain ⟨h1, h2⟩ := MF_1 h
  simp only [rmF, m, Bool.false_or, Bool.and_eq_false_iff, Bool.or_eq_false_iff, decide_eq_false_iff_not, beq_eq_false_iff_ne]
  rcases h2 with q | ⟨q1, q2⟩
  · exact Or.inl q
  · exact Or.inr ⟨by omega, Or.inr (by omega)⟩
theorem MF_l (s o k : Nat) (h : MF o k = false) : lmF s o k = false := by
  have m := MF_m s o k h
  obtain ⟨h1, h2⟩ := MF_1 h
  simp only [lmF, m, Bool.false_or, Bool.and_eq_false_iff, decide_eq_false_iff_not, beq_eq_false_iff_ne]
  rcases h2 with q | ⟨q1, q2⟩
  · exact Or.inl q
  · exact Or.inr (Or.inr (by omega))
theorem mF_code {s k : Nat} (h : k < 192 + s) (h1 : 192 ≤ k) : mF s 102 k = false := by
  simp only [mF, Bool.or_eq_false_iff, Bool.and_eq_false_iff, decide_eq_false_iff_not, beq_eq_false_iff_ne]
  exact ⟨Or.inl (by decide), Or.inr ⟨by omega, by omega⟩⟩
def LwM (h : Hp) (law : Nat) (L : List Nat) (s : Nat) : Prop := (L = [] ∧ gI h 102 (4 + law) = 0) ∨ (L ≠ [] ∧ gI h 102 (4 + law) = 1 ∧ ∃ p, p + L.length ≤ s ∧ gI h 102 (6 + law) = nI p ∧ gI h 102 (8 + law) = nI L.length ∧ ∀ i, i < L.length → gI h 102 (192 + p + i) = nI (L.getD i 0))
theorem LwM_k {h h1 : Hp} {law s s1 : Nat} {L : List Nat} (M : LwM h law L s) (hs : s ≤ s1) (e4 : gI h1 102 (4 + law) = gI h 102 (4 + law)) (e6 : gI h1 102 (6 + law) = gI h 102 (6 + law)) (e8 : gI h1 102 (8 + law) = gI h 102 (8 + law)) (ec : ∀ k, 192 ≤ k → k < 192 + s → gI h1 102 k = gI h 102 k) : LwM h1 law L s1 := by
  rcases M with ⟨m1, m2⟩ | ⟨m1, m2, p, m3, m4, m5, m6⟩
  · exact Or.inl ⟨m1, e4.trans m2⟩
  · exact Or.inr ⟨m1, e4.trans m2, p, by omega, e6.trans m4, e8.trans m5, fun i hi => (ec _ (by omega) (by omega)).trans (m6 i hi)⟩
def MI (b : Nat → Nat) (n : Nat) (h : Hp) (st : Tx) : Prop := TpM h b n ∧ MSr st.2.2.2.2.1 h st.1 ∧ ((∃ p, st.1 = .inl p) → (gI h 102 1 = nI st.2.1.1 ∧ gI h 102 3 = nI st.2.1.2.1 ∧ gI h 102 2 = nI st.2.1.2.2 ∧ gI h 102 0 = nI st.2.2.2.2.2) ∧ (∀ i, i < st.2.1.2.2 → gI h 102 (10 + i) = (st.2.2.1 i).1 ∧ gI h 102 (26 + i) = (st.2.2.1 i).2.1 ∧ gI h 102 (42 + i) = (st.2.2.1 i).2.2) ∧ LwM h 0 st.2.2.2.1.1 st.2.2.2.2.1 ∧ LwM h 1 st.2.2.2.1.2 st.2.2.2.2.1)
theorem MI_k {b : Nat → Nat} {n : Nat} {h h1 : Hp} {r r1 : Rs} {A : (Nat × Nat × Nat) × (Nat → Int32 × Int32 × Int32) × (List Nat × List Nat) × Nat × Nat} (nr16 : (∃ p, r = .inl p) → A.1.2.2 ≤ 16) (C : MI b n h (r, A)) (F : Fq (mF A.2.2.2.1) h h1) (S : MSr A.2.2.2.1 h1 r1) (ok : (∃ p, r1 = .inl p) → ∃ p, r = .inl p) : MI b n h1 (r1, A) := by
  obtain ⟨T, _, C2⟩ := C
  refine ⟨TpM_k T F (mF_T _), S, fun z => ?_⟩
  have n16 := nr16 (ok z)
  obtain ⟨⟨a1, a2, a3, a4⟩, a5, a6, a7⟩ := C2 (ok z)
  have lo : ∀ j, j < 191 → gI h1 102 j = gI h 102 j := fun j hj => F.1.1 102 j (mF_lo hj)
  refine ⟨⟨(lo 1 (by omega)).trans a1, (lo 3 (by omega)).trans a2, (lo 2 (by omega)).trans a3, (lo 0 (by omega)).trans a4⟩, fun i hi => ?_, ?_, ?_⟩
  · have hi : i < A.1.2.2 := hi
    exact ⟨(lo _ (by omega)).trans (a5 i hi).1, (lo _ (by omega)).trans (a5 i hi).2.1, (lo _ (by omega)).trans (a5 i hi).2.2⟩
  · exact LwM_k a6 (Nat.le_refl _) (lo _ (by omega)) (lo _ (by omega)) (lo _ (by omega)) (fun k h1 h2 => F.1.1 102 k (mF_code h2 h1))
  · exact LwM_k a7 (Nat.le_refl _) (lo _ (by omega)) (lo _ (by omega)) (lo _ (by omega)) (fun k h1 h2 => F.1.1 102 k (mF_code h2 h1))
theorem n_close {b : Nat → Nat} {n : Nat} {h : Hp} {st : Tx} {Q : Hp → Prop} (B : TpB b n) (C : MI b n h st) (I : SI b n st) (k : ∀ h1, Fq MF h h1 → MI b n h1 (nlS b n st) → Q h1) : M_closes h Q := by
  have W : MW b n h := ⟨B, C.1⟩
  unfold M_closes
  refine n_expJ (kk := 30) W I.1 (⟨Fq.rf _ _, C.2.1⟩ : MS st.2.2.2.2.1 h h _) rfl (by decide) (fun h3 S3 => ?_)
  intro h4 g4
  have M3 : MI b n h3 (exS b n st) := MI_k (r := st.1) (fun ok => (I.2.2 ok).1.2.1) C S3.1 S3.2 (fun z => by
    obtain ⟨p1, z⟩ := z
    obtain ⟨p0, e0, _⟩ := ex_in z
    exact ⟨p0, e0⟩)
  refine k h4 (by rw [g4]; exact Fq.sI (S3.1.mo (MF_m _)) rfl) ?_
  obtain ⟨T, S, D⟩ := M3
  refine ⟨by rw [g4]; exact TpM_o T, by rw [g4]; exact MSr_2 S (by omega), fun ok1 => ?_⟩
  obtain ⟨⟨a1, a2, a3, a4⟩, a5, a6, a7⟩ := D ok1
  have q : ∀ j, j ≠ 0 → gI h4 102 j = gI h3 102 j := fun j hj => by rw [g4, sI_k hj]
  refine ⟨⟨(q 1 (by decide)).trans a1, (q 3 (by decide)).trans a2, (q 2 (by decide)).trans a3, ?_⟩, fun i hi => ⟨(q _ (by omega)).trans (a5 i hi).1, (q _ (by omega)).trans (a5 i hi).2.1, (q _ (by omega)).trans (a5 i hi).2.2⟩, ?_, ?_⟩
  · rw [g4, sI_s, a4]; exact nI_1 _
  · exact LwM_k a6 (Nat.le_refl _) (q _ (by omega)) (q _ (by omega)) (q _ (by omega)) (fun k h1 h2 => q k (by omega))
  · exact LwM_k a7 (Nat.le_refl _) (q _ (by omega)) (q _ (by omega)) (q _ (by omega)) (fun k h1 h2 => q k (by omega))
theorem MSr_s {s : Nat} {h : Hp} {r : Rs} (S : MSr s h r) : MSr (s + lnR r) h (cl0 r) := by
  rcases r with p | y
  · exact ⟨S.1, S.2.1, S.2.2.1, fun i hi => absurd hi (by simp)⟩
  · exact S
theorem n_line {b : Nat → Nat} {n : Nat} {h : Hp} {st st1 : Tx} {Q : Hp → Prop} (B : TpB b n) (C : MI b n h st) (I : SI b n st) (ok : ∃ p, st.1 = .inl p) (l : LN b n st st1) (k : ∀ h1, Fq MF h h1 → MI b n h1 st1 → Q h1) : M_readLine h Q := by
  obtain ⟨r, ⟨np, mi, nr⟩, rd, ⟨L0, L1⟩, s, c⟩ := st
  obtain ⟨p, hp⟩ := ok
  have hp : r = .inl p := hp
  subst hp
  have CC := C
  obtain ⟨T, S, C2⟩ := C
  obtain ⟨⟨a1, a2, a3, a4⟩, a5, a6, a7⟩ := C2 ⟨p, rfl⟩
  have K : ROK b n (.inl p) := I.1
  have z0 : (Sum.inl (p.1, []) : Rs) = .inl p := I.2.1
  obtain ⟨⟨i1, i2, i3⟩, ⟨i4, i6⟩, i7, i8, i9⟩ := I.2.2 ⟨p, rfl⟩
  have i1 : np ≤ 8 := i1
  have i2 : nr ≤ 16 := i2
  have i6 : s ≤ lvR n (.inl p) := i6
  have a1 : gI h 102 1 = nI np := a1
  have a2 : gI h 102 3 = nI mi := a2
  have a3 : gI h 102 2 = nI nr := a3
  have a4 : gI h 102 0 = nI c := a4
  have a5 : ∀ i, i < nr → gI h 102 (10 + i) = (rd i).1 ∧ gI h 102 (26 + i) = (rd i).2.1 ∧ gI h 102 (42 + i) = (rd i).2.2 := a5
  have a6 : LwM h 0 L0 s := a6
  have a7 : LwM h 1 L1 s := a7
  have S : MSr s h (.inl p) := S
  have W : MW b n h := ⟨B, T⟩
  have S0 : MS s h h (.inl p) := ⟨Fq.rf _ _, S⟩
  have e9 : gI h 98 9 = nI p.1.2.2.1 := S.2.1.2.2.1
  have law : ∀ (x w : Nat) (r1 : Rs), (x = 0 ∧ w = 3) ∨ (x = 1 ∧ w = 5) → p.1.2.2.1 = 8 + x → Rl b n w 0 (exR b n 31 (nxR b n (.inl p))) r1 → st1 = (cl0 r1, (np, mi, nr), rd, (if x = 0 then (cdR r1, L1) else (L0, cdR r1)), s + lnR r1, c) → M_readLaw ((gI h 98 9) - 8) h (fun h8 => Q h8) := by
    intro x w r1 hx hk R hst
    have ex : (gI h 98 9) - 8 = nI x := by
      rw [e9, hk]
      rcases hx with ⟨rfl, _⟩ | ⟨rfl, _⟩ <;> decide
    rw [ex]
    have MK0 : MK b n s (.inl (p.1, [])) := by
      rw [z0]
      have := cl0_ln (r := .inl p) z0
      exact ⟨K, by omega⟩
    rw [← z0] at R
    have S00 : MSr s h (.inl (p.1, [])) := by rw [z0]; exact S
    refine n_law hx W MK0 S00 R (fun h1 F1 S1 v1 => ?_)
    have T1 : TpM h1 b n := TpM_k T F1 (fun o k hh => by rcases hh with ⟨rfl, rfl⟩ | rfl <;> rfl)
    refine k h1 (F1.mo (MF_l s)) ?_
    rw [hst]
    refine ⟨T1, MSr_s S1, fun ok1 => ?_⟩
    have ok2 := cl0_in (r := r1) ok1
    obtain ⟨w1, w2, w3, w4⟩ := v1 ok2
    have ne : cdR r1 ≠ [] := (law_ne (w := w) (by rcases hx with ⟨_, z⟩ | ⟨_, z⟩ <;> omega) (r := .inl (p.1, [])) (by rw [z0]; exact K) rfl R ok2).1
    have lo : ∀ j, j < 191 → j ≠ 4 + x → j ≠ 6 + x → j ≠ 8 + x → gI h1 102 j = gI h 102 j := w4
    have cd : ∀ j, 192 ≤ j → j < 192 + s → gI h1 102 j = gI h 102 j := fun j h1 h2 => F1.1.1 102 j (by
      have := mF_code h2 h1
      simp only [lmF, this, Bool.false_or, Bool.and_eq_false_iff, decide_eq_false_iff_not]
      exact Or.inr (Or.inr (by omega)))
    have new : LwM h1 x (cdR r1) (s + lnR r1) := by
      refine Or.inr ⟨ne, w1, s, by rw [cd_ln]; exact Nat.le_refl _, w2, by rw [cd_ln]; exact w3, ?_⟩
      obtain ⟨p1, e1⟩ := ok2
      rw [e1] at S1 ⊢
      exact S1.2.2.2
    refine ⟨⟨(lo 1 (by omega) (by omega) (by omega) (by omega)).trans a1, (lo 3 (by omega) (by omega) (by omega) (by omega)).trans a2, (lo 2 (by omega) (by omega) (by omega) (by omega)).trans a3, (lo 0 (by omega) (by omega) (by omega) (by omega)).trans a4⟩, fun i hi => ?_, ?_⟩
    · have hi : i < nr := hi
      exact ⟨(lo _ (by omega) (by omega) (by omega) (by omega)).trans (a5 i hi).1, (lo _ (by omega) (by omega) (by omega) (by omega)).trans (a5 i hi).2.1, (lo _ (by omega) (by omega) (by omega) (by omega)).trans (a5 i hi).2.2⟩
    · rcases hx with ⟨rfl, _⟩ | ⟨rfl, _⟩
      · exact ⟨new, LwM_k a7 (Nat.le_add_right s (lnR r1)) (lo _ (by omega) (by omega) (by omega) (by omega)) (lo _ (by omega) (by omega) (by omega) (by omega)) (lo _ (by omega) (by omega) (by omega) (by omega)) cd⟩
      · exact ⟨LwM_k a6 (Nat.le_add_right s (lnR r1)) (lo _ (by omega) (by omega) (by omega) (by omega)) (lo _ (by omega) (by omega) (by omega) (by omega)) (lo _ (by omega) (by omega) (by omega) (by omega)) cd, new⟩
  unfold M_readLine
  refine brT S.1 ?_
  rcases l with ⟨z, hst⟩ | ⟨z, hst⟩ | ⟨z, r1, R, hst⟩ | ⟨z, r1, R, hst⟩ | ⟨⟨z1, z2, z3, z4⟩, hst⟩
  · have z : kdR (.inl p) = 2 := z
    refine n_is (kk := 2) K S0 rfl (by decide) (fun _ => brF (by decide) ?_) (fun q => absurd z q)
    refine n_place W K S a1 i1 a2 (fun h1 F1 S1 v1 => k h1 (F1.mo (MF_p s)) ?_)
    rw [hst]
    refine ⟨TpM_k T F1 (fun o k hh => by rcases hh with ⟨rfl, rfl⟩ | rfl <;> rfl), S1, fun ok1 => ?_⟩
    obtain ⟨w1, w2⟩ := v1 ok1
    have lo : ∀ j, j < 191 → j ≠ 1 → j ≠ 3 → gI h1 102 j = gI h 102 j := fun j hj q1 q2 => F1.1.1 102 j (by
      simp only [pmF, mF_lo hj, Bool.false_or, Bool.and_eq_false_iff, Bool.or_eq_false_iff, beq_eq_false_iff_ne]
      exact Or.inr ⟨q1, q2⟩)
    have cd : ∀ j, 192 ≤ j → j < 192 + s → gI h1 102 j = gI h 102 j := fun j h1 h2 => F1.1.1 102 j (by
      simp only [pmF, mF_code h2 h1, Bool.false_or, Bool.and_eq_false_iff, Bool.or_eq_false_iff, beq_eq_false_iff_ne]
      exact Or.inr ⟨by omega, by omega⟩)
    refine ⟨⟨w1, w2, (lo 2 (by omega) (by omega) (by omega)).trans a3, (lo 0 (by omega) (by omega) (by omega)).trans a4⟩, fun i hi => ?_, ?_, ?_⟩
    · have hi : i < nr := hi
      exact ⟨(lo _ (by omega) (by omega) (by omega)).trans (a5 i hi).1, (lo _ (by omega) (by omega) (by omega)).trans (a5 i hi).2.1, (lo _ (by omega) (by omega) (by omega)).trans (a5 i hi).2.2⟩
    · exact LwM_k a6 (Nat.le_refl _) (lo _ (by omega) (by omega) (by omega)) (lo _ (by omega) (by omega) (by omega)) (lo _ (by omega) (by omega) (by omega)) cd
    · exact LwM_k a7 (Nat.le_refl _) (lo _ (by omega) (by omega) (by omega)) (lo _ (by omega) (by omega) (by omega)) (lo _ (by omega) (by omega) (by omega)) cd
  · have z : kdR (.inl p) = 5 := z
    refine n_is (kk := 2) K S0 rfl (by decide) (fun q => absurd (z.symm.trans q) (by decide)) (fun _ => brT rfl ?_)
    refine n_is (kk := 5) K S0 rfl (by decide) (fun _ => brF (by decide) ?_) (fun q => absurd z q)
    refine n_road W K S a1 i1 a3 i2 (fun h1 F1 S1 v1 => k h1 (F1.mo (MF_r s)) ?_)
    rw [hst]
    refine ⟨TpM_k T F1 (fun o k hh => by rcases hh with ⟨rfl, rfl⟩ | rfl <;> rfl), S1, fun ok1 => ?_⟩
    have ok1 : ∃ p1, rdR b n np nr (.inl p) = .inl p1 := ok1
    obtain ⟨n16, _, _⟩ := rd_in ok1
    obtain ⟨w1, ⟨w2, w3, w4⟩, lo⟩ := v1 ok1
    have cd : ∀ j, 192 ≤ j → j < 192 + s → gI h1 102 j = gI h 102 j := fun j h1 h2 => F1.1.1 102 j (by
      simp only [rmF, mF_code h2 h1, Bool.false_or, Bool.and_eq_false_iff, Bool.or_eq_false_iff, decide_eq_false_iff_not, beq_eq_false_iff_ne]
      exact Or.inr ⟨by omega, Or.inr (by omega)⟩)
    refine ⟨⟨(lo 1 (by omega) (by omega) (by omega) (by omega) (by omega)).trans a1, (lo 3 (by omega) (by omega) (by omega) (by omega) (by omega)).trans a2, w1, (lo 0 (by omega) (by omega) (by omega) (by omega) (by omega)).trans a4⟩, fun i hi => ?_, ?_, ?_⟩
    · have hi : i < nr + 1 := hi
      show gI h1 102 (10 + i) = (rdS b n np nr (.inl p) rd i).1 ∧ gI h1 102 (26 + i) = (rdS b n np nr (.inl p) rd i).2.1 ∧ gI h1 102 (42 + i) = (rdS b n np nr (.inl p) rd i).2.2
      unfold rdS
      by_cases e : i = nr
      · subst e
        rw [if_pos rfl]
        exact ⟨w2, w3, w4⟩
      · rw [if_neg e]
        obtain ⟨x1, x2, x3⟩ := a5 i (by omega)
        exact ⟨(lo _ (by omega) (by omega) (by omega) (by omega) (by omega)).trans x1, (lo _ (by omega) (by omega) (by omega) (by omega) (by omega)).trans x2, (lo _ (by omega) (by omega) (by omega) (by omega) (by omega)).trans x3⟩
    · exact LwM_k a6 (Nat.le_refl _) (lo _ (by omega) (by omega) (by omega) (by omega) (by omega)) (lo _ (by omega) (by omega) (by omega) (by omega) (by omega)) (lo _ (by omega) (by omega) (by omega) (by omega) (by omega)) cd
    · exact LwM_k a7 (Nat.le_refl _) (lo _ (by omega) (by omega) (by omega) (by omega) (by omega)) (lo _ (by omega) (by omega) (by omega) (by omega) (by omega)) (lo _ (by omega) (by omega) (by omega) (by omega) (by omega)) cd
  · have z : kdR (.inl p) = 8 := z
    refine n_is (kk := 2) K S0 rfl (by decide) (fun q => absurd (z.symm.trans q) (by decide)) (fun _ => brT rfl ?_)
    refine n_is (kk := 5) K S0 rfl (by decide) (fun q => absurd (z.symm.trans q) (by decide)) (fun _ => brT rfl ?_)
    refine n_is (kk := 8) K S0 rfl (by decide) (fun _ => ?_) (fun q => absurd z q)
    rintro J56 rfl
    exact brF' (by decide) (law 0 3 r1 (Or.inl ⟨rfl, rfl⟩) z R hst)
  · have z : kdR (.inl p) = 9 := z
    refine n_is (kk := 2) K S0 rfl (by decide) (fun q => absurd (z.symm.trans q) (by decide)) (fun _ => brT rfl ?_)
    refine n_is (kk := 5) K S0 rfl (by decide) (fun q => absurd (z.symm.trans q) (by decide)) (fun _ => brT rfl ?_)
    refine n_is (kk := 8) K S0 rfl (by decide) (fun q => absurd (z.symm.trans q) (by decide)) (fun _ => ?_)
    rintro J56 rfl
    refine brT' rfl (n_is (kk := 9) K S0 rfl (by decide) (fun _ => brF (by decide) ?_) (fun q => absurd z q))
    exact law 1 5 r1 (Or.inr ⟨rfl, rfl⟩) z R hst
  · refine n_is (kk := 2) K S0 rfl (by decide) (fun q => absurd q z1) (fun _ => brT rfl ?_)
    refine n_is (kk := 5) K S0 rfl (by decide) (fun q => absurd q z2) (fun _ => brT rfl ?_)
    refine n_is (kk := 8) K S0 rfl (by decide) (fun q => absurd q z3) (fun _ => ?_)
    rintro J56 rfl
    refine brT' rfl (n_is (kk := 9) K S0 rfl (by decide) (fun q => absurd q z4) (fun _ => brT rfl ?_))
    refine n_fails (kk := 2) K S0 rfl (fun h1 S1 => k h1 (S1.1.mo (MF_m s)) ?_)
    rw [hst]
    exact MI_k (r := .inl p) (fun _ => i2) CC S1.1 S1.2 (fun q => absurd q fl_no)
theorem n_text {b : Nat → Nat} {n : Nat} {st st1 : Tx} (B : TpB b n) (T : TX b n st st1) : ∃ N, ∀ (h : Hp) (K : Hp → Prop), MI b n h st → SI b n st → (∀ h1, Fq MF h h1 → MI b n h1 st1 → K h1) → M_land_L97 K N h := by
  refine T (fun st st1 => ∃ N, ∀ (h : Hp) (K : Hp → Prop), MI b n h st → SI b n st → (∀ h1, Fq MF h h1 → MI b n h1 st1 → K h1) → M_land_L97 K N h) (fun s e => ⟨1, fun h K C I k => ?_⟩) (fun s s1 s2 h24 h99 l ih => ?_)
  · have fin := k h (Fq.rf _ _) C
    have S := C.2.1
    have KK := I.1
    unfold M_land_L97
    rcases hr : s.1 with p | y
    · rw [hr] at S KK e
      have S : gI h 98 11 = 0 ∧ MT h p.1 ∧ _ := S
      refine brT' S.1 (brT ?_ fin)
      have e : p.1.2.2.1 = 24 := by
        rcases e with e | e
        · exact e
        · have := tk_lt KK.1
          have e : p.1.2.2.1 = 99 := e
          omega
      rw [S.2.1.2.2.1, e]; rfl
    · rw [hr] at S KK
      have S : gI h 98 11 = nI y.1 ∧ _ := S
      exact brF' (fun q => w_ne KK (S.1.symm.trans q)) fin
  · obtain ⟨N, ih⟩ := ih
    refine ⟨N + 1, fun h K C I k => ?_⟩
    have ok : ∃ p, s.1 = .inl p := by
      rcases hq : s.1 with p | y
      · exact ⟨p, rfl⟩
      · rw [hq] at h99; exact absurd rfl h99
    obtain ⟨p, hr⟩ := ok
    have S := C.2.1
    have KK := I.1
    rw [hr] at S KK
    have S : gI h 98 11 = 0 ∧ MT h p.1 ∧ _ := S
    have k24 : ¬ gI h 98 9 = 24 := by
      rw [S.2.1.2.2.1]
      intro z
      have := tk_lt KK.1
      have z := (nI_eq (a := p.1.2.2.1) (b := 24) (by omega) (by omega)).mp z
      rw [hr] at h24
      exact h24 z
    unfold M_land_L97
    refine brT' S.1 (brF k24 ?_)
    refine n_line B C I ⟨p, hr⟩ l (fun h1 F1 C1 => n_close B C1 (si_ln I ⟨p, hr⟩ l).1 (fun h2 F2 C2 => ?_))
    exact ih h2 K C2 (ln_lt I ⟨p, hr⟩ h24 l).1 (fun h3 F3 C3 => k h3 ((F1.tr F2).tr F3) C3)
