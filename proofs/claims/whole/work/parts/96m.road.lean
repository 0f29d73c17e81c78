/-! a road, read by the reference -/
theorem TpM_o {h : Hp} {b : Nat → Nat} {n j : Nat} {x : Int32} (T : TpM h b n) : TpM (sI h 102 j x) b n :=
  ⟨by rw [sI_o (by decide)]; exact T.1, fun k hk => by rw [sI_o (by decide)]; exact T.2 k hk⟩
def rmF (s : Nat) : Nat → Nat → Bool := fun o k => mF s o k || (o == 102 && (k == 2 || (decide (10 ≤ k) && decide (k < 58))))
theorem rmF_m (s o k : Nat) (h : rmF s o k = false) : mF s o k = false := by
  simp only [rmF, Bool.or_eq_false_iff] at h
  exact h.1
theorem rmF_y {s k : Nat} (h : k = 2 ∨ (10 ≤ k ∧ k < 58)) : rmF s 102 k = true := by
  simp only [rmF, Bool.or_eq_true, Bool.and_eq_true, decide_eq_true_eq, beq_iff_eq]
  exact Or.inr ⟨trivial, h⟩
theorem n_road {s : Nat} {b : Nat → Nat} {n np nr : Nat} {h : Hp} {p : (Nat × Nat × Nat × Nat) × List Nat} {Q : Hp → Prop} (W : MW b n h) (K : ROK b n (.inl p)) (S : MSr s h (.inl p)) (e1 : gI h 102 1 = nI np) (hn : np ≤ 8) (e2 : gI h 102 2 = nI nr) (hr : nr ≤ 16) (k : ∀ h1, Fq (rmF s) h h1 → MSr s h1 (rdR b n np nr (.inl p)) → ((∃ p1, rdR b n np nr (.inl p) = .inl p1) → gI h1 102 2 = nI (nr + 1) ∧ (gI h1 102 (10 + nr) = nI (vlR (nxR b n (.inl p))) ∧ gI h1 102 (26 + nr) = nI (vlR (nmR b n np (nxR b n (.inl p)))) ∧ gI h1 102 (42 + nr) = rdG b n np (.inl p)) ∧ ∀ j, j < 191 → j ≠ 2 → j ≠ 10 + nr → j ≠ 26 + nr → j ≠ 42 + nr → gI h1 102 j = gI h 102 j) → Q h1) : M_readRoad h Q := by
  have S0 : MS s h h (.inl p) := ⟨Fq.rf _ _, S⟩
  obtain ⟨K2, K3, K5⟩ := rd_iv (np := np) K
  unfold M_readRoad
  rintro _ rfl
  rintro J18 rfl
  rw [e2]
  have e16 : nI nr = 16 ↔ nr = 16 := nI_eq (a := nr) (b := 16) (by omega) (by omega)
  rw [e16]
  unfold rdR at k
  refine ⟨fun c => brT S.1 ?_, fun c => n_fails (kk := 4) K S0 rfl (fun h1 S1 => brF ?_ ?_)⟩
  · rw [if_pos (show nr < 16 by omega)] at k
    have K1 := (nx_iv K).1
    have lo : ∀ {g g1 : Hp} {r : Rs}, MS s g g1 r → ∀ j, j < 191 → gI g1 102 j = gI g 102 j := fun S j hj => S.1.1.1 102 j (mF_lo hj)
    refine n_next W K.1 S0 (fun h3 S3 => ?_)
    rw [(lo S3 1 (by omega)).trans e1, show (10 : Int32) = nI 10 from rfl, show (26 : Int32) = nI 26 from rfl, show (42 : Int32) = nI 42 from rfl, nI_add, nI_add, nI_add, cl (10 + nr), cl (26 + nr), cl (42 + nr)]
    refine n_takes (lim := np) W K1 S3 (np_1 hn) (fun h5 v S5 hv => ⟨pk_in (10 + nr) 1092 (by omega), ?_⟩)
    intro h6 g6
    have F6 : Fq (rmF s) h h6 := by rw [g6]; exact Fq.sI (S5.1.mo (rmF_m s)) (rmF_y (by omega))
    have W6 : MW b n h6 := ⟨W.1, by rw [g6]; exact TpM_o (MS_T W S5)⟩
    have S6 : MS s h6 h6 (nmR b n np (nxR b n (.inl p))) := ⟨Fq.rf _ _, by rw [g6]; exact MSr_2 S5.2 (by omega)⟩
    have b6 : ∀ j, j < 191 → j ≠ 10 + nr → gI h6 102 j = gI h 102 j := fun j hj hne => by rw [g6, sI_k hne]; exact lo S5 j hj
    have b6' : gI h6 102 (10 + nr) = v := by rw [g6, sI_s]
    rw [(b6 1 (by omega) (by omega)).trans e1]
    refine n_takes (lim := np) W6 K2 S6 (np_1 hn) (fun h8 u S8 hu => ⟨pk_in (26 + nr) 1092 (by omega), ?_⟩)
    intro h9 g9
    have F9 : Fq (rmF s) h h9 := by rw [g9]; exact Fq.sI (F6.tr (S8.1.mo (rmF_m s))) (rmF_y (by omega))
    have W9 : MW b n h9 := ⟨W.1, by rw [g9]; exact TpM_o (MS_T W6 S8)⟩
    have S9 : MS s h9 h9 (rd4 b n np (.inl p)) := ⟨Fq.rf _ _, by rw [g9]; exact MSr_2 S8.2 (by omega)⟩
    have b9 : ∀ j, j < 191 → j ≠ 26 + nr → gI h9 102 j = gI h6 102 j := fun j hj hne => by rw [g9, sI_k hne]; exact lo S8 j hj
    have b9' : gI h9 102 (26 + nr) = u := by rw [g9, sI_s]
    have fin : ∀ (x : Int32) (h14 : Hp), MS s h9 h14 (rd5 b n np (.inl p)) → ((x = 0 ∧ ¬ kdR (rd4 b n np (.inl p)) = 6) ∨ (¬ x = 0 ∧ kdR (rd4 b n np (.inl p)) = 6)) → M_takes 0 99 h14 (fun r15 h16 => ((gI h16 98 11) = 0 → ∀ J138 : Int32 → Hp → Prop, J138 = (fun s17 h18 => vp_in (nI (42 + nr)) 1092 ∧ ∀ h19 : Hp, h19 = sI h18 102 (42 + nr) s17 → ∀ h20 : Hp, h20 = sI h19 102 2 ((gI h19 102 2) + 1) → Q h20) → (x = 0 → J138 (-r15) h16) ∧ (¬ x = 0 → J138 r15 h16)) ∧ (¬ (gI h16 98 11) = 0 → Q h16)) := by
      intro x h14 S14 hx
      refine n_takes (lim := 100) W9 K5 S14 (by decide) (fun h16 y S16 hy => ?_)
      have KR := (nm_iv (lim := 100) K5).1
      have F16 : Fq (rmF s) h h16 := F9.tr (S16.1.mo (rmF_m s))
      refine ⟨fun ok0 => ?_, fun bad0 => ?_⟩
      · rintro J138 rfl
        have ok : ∃ p1, nmR b n 100 (rd5 b n np (.inl p)) = .inl p1 := by
          rcases hq : nmR b n 100 (rd5 b n np (.inl p)) with p1 | y1
          · exact ⟨p1, rfl⟩
          · rw [hq] at KR S16
            exact absurd (S16.2.1.symm.trans ok0) (w_ne KR)
        have go : ∀ z : Int32, z = rdG b n np (.inl p) → vp_in (nI (42 + nr)) 1092 ∧ ∀ h19 : Hp, h19 = sI h16 102 (42 + nr) z → ∀ h20 : Hp, h20 = sI h19 102 2 ((gI h19 102 2) + 1) → Q h20 := by
          intro z hz
          refine ⟨pk_in (42 + nr) 1092 (by omega), ?_⟩
          intro h19 g19 h20 g20
          have low : ∀ j, j < 191 → j ≠ 10 + nr → j ≠ 26 + nr → gI h16 102 j = gI h 102 j := fun j hj q1 q2 => by
            rw [lo S16 j hj, b9 j hj q2, b6 j hj q1]
          have m19 : gI h19 102 2 = nI nr := by rw [g19, sI_k (by omega), low 2 (by omega) (by omega) (by omega)]; exact e2
          rw [m19, nI_1 nr] at g20
          refine k h20 ?_ ?_ (fun _ => ⟨by rw [g20, sI_s], ⟨?_, ?_, ?_⟩, fun j hj q0 q1 q2 q3 => ?_⟩)
          · rw [g20, g19]; exact Fq.sI (Fq.sI F16 (rmF_y (by omega))) (rmF_y (by omega))
          · rw [g20, g19]; exact MSr_2 (MSr_2 S16.2 (by omega)) (by omega)
          · rw [g20, sI_k (by omega), g19, sI_k (by omega), lo S16 _ (by omega), b9 _ (by omega) (by omega), b6']
            exact (hv (nm_in (rd5_in (nm_in ok)))).1
          · rw [g20, sI_k (by omega), g19, sI_k (by omega), lo S16 _ (by omega), b9']
            exact (hu (rd5_in (nm_in ok))).1
          · rw [g20, sI_k (by omega), g19, sI_s]; exact hz
          · rw [g20, sI_k q0, g19, sI_k q3]; exact low j hj q1 q2
        rcases hx with ⟨x0, q⟩ | ⟨x0, q⟩
        · exact brT x0 (go (-y) (by rw [(hy ok).1]; unfold rdG; rw [if_neg q]))
        · exact brF x0 (go y (by rw [(hy ok).1]; unfold rdG; rw [if_pos q]))
      · refine k h16 F16 S16.2 (fun ok => ?_)
        obtain ⟨p1, hq⟩ := ok
        rw [hq] at S16
        exact absurd S16.2.1 bad0
    refine n_is K3 S9 (kk := 6) rfl (by decide) (fun z => n_eats W9 K3 S9 (kk := 6) rfl (by decide) (fun z2 h13 S13 => ?_) (fun z2 => absurd z z2)) (fun z => n_eats W9 K3 S9 (kk := 6) rfl (by decide) (fun z2 => absurd z2 z) (fun z2 => ?_))
    · rintro J104 rfl
      refine brF' (by decide) (fin 1 h13 ?_ (Or.inr ⟨by decide, z⟩))
      unfold rd5; rw [if_pos z]; exact S13
    · rintro J104 rfl
      refine brT' rfl (n_exp (kk := 7) W9 K3 S9 rfl (by decide) (fun h14 S14 => fin 0 h14 ?_ (Or.inl ⟨rfl, z⟩)))
      unfold rd5; rw [if_neg z]; exact S14
  · exact fun z => w_ne (fl_iv (k := 4) K (by omega) (by omega)).1 (S1.2.1.symm.trans z)
  · rw [if_neg (show ¬ nr < 16 by omega)] at k
    exact k h1 (S1.1.mo (rmF_m s)) S1.2 (fun z => absurd z fl_no)
