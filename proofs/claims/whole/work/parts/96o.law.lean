/-! a law's line, read by the reference -/
def lmF (s : Nat) : Nat → Nat → Bool := fun o k => mF s o k || (o == 102 && (decide (4 ≤ k) && decide (k < 10)))
theorem lmF_m (s o k : Nat) (h : lmF s o k = false) : mF s o k = false := by
  simp only [lmF, Bool.or_eq_false_iff] at h
  exact h.1
theorem lmF_y {s k : Nat} (h : 4 ≤ k ∧ k < 10) : lmF s 102 k = true := by
  simp only [lmF, Bool.or_eq_true, Bool.and_eq_true, decide_eq_true_eq, beq_iff_eq]
  exact Or.inr ⟨trivial, h⟩
theorem n_law {s x w : Nat} {b : Nat → Nat} {n : Nat} {h : Hp} {t : Nat × Nat × Nat × Nat} {r1 : Rs} {Q : Hp → Prop} (hx : (x = 0 ∧ w = 3) ∨ (x = 1 ∧ w = 5)) (W : MW b n h) (K : MK b n s (.inl (t, []))) (S : MSr s h (.inl (t, []))) (R : Rl b n w 0 (exR b n 31 (nxR b n (.inl (t, [])))) r1) (k : ∀ h1, Fq (lmF s) h h1 → MSr s h1 r1 → ((∃ p1, r1 = .inl p1) → gI h1 102 (4 + x) = 1 ∧ gI h1 102 (6 + x) = nI s ∧ gI h1 102 (8 + x) = nI (lnR r1) ∧ ∀ j, j < 191 → j ≠ 4 + x → j ≠ 6 + x → j ≠ 8 + x → gI h1 102 j = gI h 102 j) → Q h1) : M_readLaw (nI x) h Q := by
  have S0 : MS s h h (.inl (t, [])) := ⟨Fq.rf _ _, S⟩
  have K1 := MK_nx K
  have K2 := MK_ex (k := 31) K1
  have K3 := MK_rl K2 R
  have B1 := W.1.1
  have lo : ∀ {g g1 : Hp} {r : Rs}, MS s g g1 r → ∀ j, j < 191 → gI g1 102 j = gI g 102 j := fun S j hj => S.1.1.1 102 j (mF_lo hj)
  have x1 : x ≤ 1 := by omega
  unfold M_readLaw
  refine n_next W K.1.1 S0 (fun h1 S1 => n_expJ (kk := 31) W K1.1 S1 rfl (by decide) (fun h4 S4 => ?_))
  intro v5 hv5
  rintro J44 rfl
  have fin : ∀ h6, MS s h h6 r1 → ((gI h6 98 11) = 0 → vp_in ((4 : Int32) + nI x) 1092 ∧ ∀ h7 : Hp, h7 = sI h6 102 (((4 : Int32) + nI x)).toNatClampNeg 1 → vp_in ((6 : Int32) + nI x) 1092 ∧ ∀ h8 : Hp, h8 = sI h7 102 (((6 : Int32) + nI x)).toNatClampNeg v5 → vp_in ((8 : Int32) + nI x) 1092 ∧ ∀ h9 : Hp, h9 = sI h8 102 (((8 : Int32) + nI x)).toNatClampNeg ((gI h8 102 191) - v5) → Q h9) ∧ (¬ (gI h6 98 11) = 0 → Q h6) := by
    intro h6 S6
    have SK := S6
    rcases hr : r1 with p1 | y1
    · rw [hr] at S6
      refine brT S6.2.1 ?_
      obtain ⟨p2, hp2⟩ : ∃ p2, exR b n 31 (nxR b n (.inl (t, []))) = .inl p2 := by
        rcases hq : exR b n 31 (nxR b n (.inl (t, []))) with p2 | y2
        · exact ⟨p2, rfl⟩
        · have := (rl_iv R).1 y2 hq
          rw [hr] at this; cases this
      obtain ⟨p3, e3, f3⟩ := ex_in hp2
      obtain ⟨p4, e4, f4⟩ := nx_in e3
      have ev : v5 = nI s := by
        rw [hv5]
        rw [hp2] at S4
        have := S4.2.2.2.1
        rw [f3, f4] at this
        cases e4
        exact this
      rw [show (4 : Int32) = nI 4 from rfl, show (6 : Int32) = nI 6 from rfl, show (8 : Int32) = nI 8 from rfl, nI_add, nI_add, nI_add, cl (4 + x), cl (6 + x), cl (8 + x), ev]
      refine ⟨pk_in (4 + x) 1092 (by omega), ?_⟩
      intro h7 g7
      refine ⟨pk_in (6 + x) 1092 (by omega), ?_⟩
      intro h8 g8
      refine ⟨pk_in (8 + x) 1092 (by omega), ?_⟩
      intro h9 g9
      have l8 : gI h8 102 191 = nI (s + p1.2.length) := by rw [g8, sI_k (by omega), g7, sI_k (by omega)]; exact S6.2.2.2.1
      rw [l8, pk_sub (by omega), show s + p1.2.length - s = p1.2.length by omega] at g9
      refine k h9 ?_ ?_ (fun _ => ⟨?_, ?_, ?_, fun j hj q1 q2 q3 => ?_⟩)
      · rw [g9, g8, g7]; exact Fq.sI (Fq.sI (Fq.sI (SK.1.mo (lmF_m s)) (lmF_y (by omega))) (lmF_y (by omega))) (lmF_y (by omega))
      · rw [g9, g8, g7]; exact MSr_2 (MSr_2 (MSr_2 SK.2 (by omega)) (by omega)) (by omega)
      · rw [g9, sI_k (by omega), g8, sI_k (by omega), g7, sI_s]
      · rw [g9, sI_k (by omega), g8, sI_s]
      · rw [g9, sI_s, hr]; rfl
      · rw [g9, sI_k q3, g8, sI_k q2, g7, sI_k q1]; exact lo SK j hj
    · rw [hr] at S6
      refine brF (fun z => ?_) (k h6 (SK.1.mo (lmF_m s)) SK.2 (fun z => ?_))
      · have K3 := K3.1
        rw [hr] at K3
        exact w_ne K3 (S6.2.1.symm.trans z)
      · obtain ⟨p1, z⟩ := z
        rw [hr] at z; cases z
  have ex0 : nI x = 0 ↔ x = 0 := nI_eq (a := x) (b := 0) (by omega) (by omega)
  rw [ex0]
  have M := m_rl (s := s) W R
  rcases hx with ⟨rfl, rfl⟩ | ⟨rfl, rfl⟩
  · refine brT' rfl ?_
    have M : MP b n s h 3 0 (exR b n 31 (nxR b n (.inl (t, [])))) r1 := M
    exact M 64 h4 _ (by omega) (by omega) K2 S4 fin
  · refine brF' (by decide) ?_
    have M : MP b n s h 5 0 (exR b n 31 (nxR b n (.inl (t, [])))) r1 := M
    exact M 64 h4 _ (by omega) (by omega) K2 S4 fin
