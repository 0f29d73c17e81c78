/-! a place, read by both -/
def plR (b : Nat → Nat) (n np : Nat) (r : Rs) : Rs := if np < 8 then (if kdR (nxR b n r) = 3 then nxR b n (nxR b n r) else exR b n 4 (nxR b n r)) else flR 4 r
def plM (b : Nat → Nat) (n : Nat) (r : Rs) : Bool := kdR (nxR b n r) == 3
theorem CT_o {h : Hp} {t : Nat × Nat × Nat × Nat} {o k : Nat} {x : Int32} (C : CT h t) (ho : 3 ≠ o) : CT (sI h o k x) t :=
  ⟨by rw [sI_o ho]; exact C.1, by rw [sI_o ho]; exact C.2.1, by rw [sI_o ho]; exact C.2.2.1, fun z => by rw [sI_o ho]; exact C.2.2.2 z⟩
theorem CSr_2 {q : Nat} {b : Nat → Nat} {n j : Nat} {h : Hp} {r : Rs} {x : Int32} (hq : q = 4 ∨ q = 7) (S : CSr q b n h r) (h1 : 13 ≠ j) (h2 : 14 ≠ j) : CSr q b n (sI h 2 j x) r := by
  have q2 : q ≠ 2 := by rcases hq with rfl | rfl <;> decide
  have q3 : q + 1 ≠ 2 := by rcases hq with rfl | rfl <;> decide
  rcases r with p | y
  · obtain ⟨s1, s2, s3, s4, s5⟩ := S
    exact ⟨by rw [sI_k h1]; exact s1, CT_o s2 (by decide), by rw [sI_o q2]; exact s3, fun i hi => by rw [sI_o q3]; exact s4 i hi, by rw [sI_k h2]; exact s5⟩
  · obtain ⟨s1, s2, m, t, s3, s4, s5, s6⟩ := S
    exact ⟨by rw [sI_k h1]; exact s1, by rw [sI_k h2]; exact s2, m, t, s3, by rw [sI_o q2]; exact s4, s5, CT_o s6 (by decide)⟩
def plF : Nat → Nat → Bool := fun o k => cF 4 o k || (o == 2 && (k == 4 || k == 5))
theorem plF_c (o k : Nat) (h : plF o k = false) : cF 4 o k = false := by
  simp only [plF, Bool.or_eq_false_iff] at h
  exact h.1
theorem r_place {b : Nat → Nat} {n np mi : Nat} {h : Hp} {p : (Nat × Nat × Nat × Nat) × List Nat} {Q : Hp → Prop} (B : TpB b n) (T : TpC h b n) (K : ROK b n (.inl p)) (S : CSr 4 b n h (.inl p)) (e4 : gI h 2 4 = nI np) (hn : np ≤ 8) (e5 : gI h 2 5 = nI mi) (k : ∀ h1, Fq plF h h1 → CSr 4 b n h1 (plR b n np (.inl p)) → (np < 8 → gI h1 2 4 = nI (np + 1) ∧ gI h1 2 5 = nI (if plM b n (.inl p) = true then mi ||| 2 ^ np else mi)) → Q h1) : Reader_readPlace h Q := by
  have W : CW 4 b n h := ⟨B, T, Or.inl rfl⟩
  have S0 : CS 4 b n h h (.inl p) := ⟨Fq.rf _ _, S⟩
  unfold Reader_readPlace
  rw [e4]
  unfold plR at k
  refine pk_lt np 8 (fun c => ?_) (fun c => ?_)
  · rw [if_pos c] at k
    have K1 := (nx_iv K).1
    refine r_adv W K S0 (fun h1 S1 => r_take W K1 S1 (by omega) (by omega) (fun z h3 S3 => ?_) (fun z => ?_))
    · have z : kdR (nxR b n (.inl p)) = 3 := z
      rw [if_pos z] at k
      rintro J55 rfl
      refine brF (by decide) ?_
      intro h7 g7 h5 g5
      have f4 : gI h3 2 4 = nI np := (S3.1.1.1 2 4 rfl).trans e4
      have f5 : gI h3 2 5 = nI mi := (S3.1.1.1 2 5 rfl).trans e5
      rw [f4, f5, z_1 np (by omega), z_or] at g7
      have f4' : gI h7 2 4 = nI np := by rw [g7, sI_k (by decide)]; exact f4
      rw [f4', nI_1 np] at g5
      refine k h5 ?_ ?_ (fun _ => ⟨?_, ?_⟩)
      · rw [g5, g7]; exact Fq.sI (Fq.sI (S3.1.mo plF_c) rfl) rfl
      · rw [g5, g7]; exact CSr_2 (Or.inl rfl) (CSr_2 (Or.inl rfl) S3.2 (by decide) (by decide)) (by decide) (by decide)
      · rw [g5, sI_s]
      · rw [g5, sI_k (by decide), g7, sI_s, if_pos (by unfold plM; rw [z]; rfl)]
    · have z : ¬ kdR (nxR b n (.inl p)) = 3 := z
      rw [if_neg z] at k
      rintro J55 rfl
      refine brT rfl (r_expect W K1 S1 (by omega) (by omega) (fun h3 S3 => ?_))
      intro h5 g5
      have f4 : gI h3 2 4 = nI np := (S3.1.1.1 2 4 rfl).trans e4
      have f5 : gI h3 2 5 = nI mi := (S3.1.1.1 2 5 rfl).trans e5
      rw [f4, nI_1 np] at g5
      refine k h5 ?_ ?_ (fun _ => ⟨?_, ?_⟩)
      · rw [g5]; exact Fq.sI (S3.1.mo plF_c) rfl
      · rw [g5]; exact CSr_2 (Or.inl rfl) S3.2 (by decide) (by decide)
      · rw [g5, sI_s]
      · rw [g5, sI_k (by decide), f5, if_neg (by unfold plM; simpa using z)]
  · rw [if_neg (show ¬ np < 8 by omega)] at k
    exact r_refuse (kk := 4) W K S0 rfl (fun h1 S1 => k h1 (S1.1.mo plF_c) S1.2 (fun z => absurd z (by omega)))
theorem MSr_2 {s j : Nat} {h : Hp} {r : Rs} {x : Int32} (S : MSr s h r) (hj : j < 191) : MSr s (sI h 102 j x) r := by
  have o1 : (98 : Nat) ≠ 102 := by decide
  rcases r with p | y
  · obtain ⟨s1, s2, s3, s4⟩ := S
    exact ⟨by rw [sI_o o1]; exact s1, ⟨by rw [sI_o o1]; exact s2.1, by rw [sI_o o1]; exact s2.2.1, by rw [sI_o o1]; exact s2.2.2.1, fun z => by rw [sI_o o1]; exact s2.2.2.2 z⟩, by rw [sI_k (by omega)]; exact s3, fun i hi => by rw [sI_k (by omega)]; exact s4 i hi⟩
  · exact ⟨by rw [sI_o o1]; exact S.1, by rw [sI_o o1]; exact S.2⟩
def pmF (s : Nat) : Nat → Nat → Bool := fun o k => mF s o k || (o == 102 && (k == 1 || k == 3))
theorem pmF_m (s o k : Nat) (h : pmF s o k = false) : mF s o k = false := by
  simp only [pmF, Bool.or_eq_false_iff] at h
  exact h.1
theorem mF_lo {s j : Nat} (hj : j < 191) : mF s 102 j = false := by
  simp only [mF, Bool.or_eq_false_iff, Bool.and_eq_false_iff, decide_eq_false_iff_not, beq_eq_false_iff_ne]
  exact ⟨Or.inl (by decide), Or.inr ⟨by omega, by omega⟩⟩
theorem n_place {s : Nat} {b : Nat → Nat} {n np mi : Nat} {h : Hp} {p : (Nat × Nat × Nat × Nat) × List Nat} {Q : Hp → Prop} (W : MW b n h) (K : ROK b n (.inl p)) (S : MSr s h (.inl p)) (e1 : gI h 102 1 = nI np) (hn : np ≤ 8) (e3 : gI h 102 3 = nI mi) (k : ∀ h1, Fq (pmF s) h h1 → MSr s h1 (plR b n np (.inl p)) → ((∃ p1, plR b n np (.inl p) = .inl p1) → gI h1 102 1 = nI (np + 1) ∧ gI h1 102 3 = nI (if plM b n (.inl p) = true then mi ||| 2 ^ np else mi)) → Q h1) : M_readPlace h Q := by
  have S0 : MS s h h (.inl p) := ⟨Fq.rf _ _, S⟩
  unfold M_readPlace
  rintro _ rfl
  rintro J18 rfl
  rw [e1]
  have e8 : nI np = 8 ↔ np = 8 := nI_eq (a := np) (b := 8) (by omega) (by omega)
  rw [e8]
  unfold plR at k
  refine ⟨fun c => brT S.1 ?_, fun c => n_fails (kk := 4) K S0 rfl (fun h1 S1 => brF ?_ ?_)⟩
  · rw [if_pos (show np < 8 by omega)] at k
    have K1 := (nx_iv K).1
    have fin : ∀ (x y : Int32) (r2 : Rs) (h8 : Hp), ROK b n r2 → MS s h h8 r2 → (∀ h1, Fq (pmF s) h h1 → MSr s h1 r2 → ((∃ p1, r2 = .inl p1) → gI h1 102 1 = nI (np + 1) ∧ gI h1 102 3 = nI (if plM b n (.inl p) = true then mi ||| 2 ^ np else mi)) → Q h1) → ((x = 0 ∧ plM b n (.inl p) = false) ∨ (¬ x = 0 ∧ plM b n (.inl p) = true)) → ((gI h8 98 11) = 0 → ∀ J83 : Int32 → Hp → Prop, J83 = (fun s9 h10 => ∀ h11 : Hp, h11 = sI h10 102 3 ((gI h8 102 3) ||| s9) → ∀ h12 : Hp, h12 = sI h11 102 1 ((gI h11 102 1) + 1) → Q h12) → (x = 0 → J83 0 h8) ∧ (¬ x = 0 → J83 ((1 : Int32) <<< (nI np &&& 31)) h8)) ∧ (¬ (gI h8 98 11) = 0 → Q h8) := by
      intro x y r2 h8 K2 S2 k2 hx
      rcases r2 with p2 | y2
      · refine brT S2.2.1 ?_
        rintro J83 rfl
        have f1 : gI h8 102 1 = nI np := (S2.1.1.1 102 1 (mF_lo (by omega))).trans e1
        have f3 : gI h8 102 3 = nI mi := (S2.1.1.1 102 3 (mF_lo (by omega))).trans e3
        have go : ∀ v : Nat, (v = if plM b n (.inl p) = true then mi ||| 2 ^ np else mi) → ∀ h11 : Hp, h11 = sI h8 102 3 (nI v) → ∀ h12 : Hp, h12 = sI h11 102 1 ((gI h11 102 1) + 1) → Q h12 := by
          intro v hv h11 g11 h12 g12
          have f11 : gI h11 102 1 = nI np := by rw [g11, sI_k (by decide)]; exact f1
          rw [f11, nI_1 np] at g12
          refine k2 h12 ?_ ?_ (fun _ => ⟨?_, ?_⟩)
          · rw [g12, g11]
            exact Fq.sI (Fq.sI (S2.1.mo (pmF_m s)) (by simp [pmF])) (by simp [pmF])
          · rw [g12, g11]; exact MSr_2 (MSr_2 S2.2 (by omega)) (by omega)
          · rw [g12, sI_s]
          · rw [g12, sI_k (by decide), g11, sI_s, hv]
        rw [f3]
        rcases hx with ⟨x0, pm⟩ | ⟨x0, pm⟩
        · refine brT x0 ?_
          have z0 : nI mi ||| 0 = nI mi := by
            have := z_or mi 0
            rw [Nat.or_zero] at this
            exact this
          intro h11 g11
          rw [z0] at g11
          exact go mi (by rw [pm]; rfl) h11 g11
        · refine brF x0 ?_
          intro h11 g11
          rw [z_1 np (by omega), z_or] at g11
          exact go (mi ||| 2 ^ np) (by rw [pm]; rfl) h11 g11
      · refine brF (fun z => w_ne K2 (S2.2.1.symm.trans z)) (k2 h8 (S2.1.mo (pmF_m s)) S2.2 (fun z => ?_))
        obtain ⟨_, z⟩ := z
        cases z
    refine n_next W K.1 S0 (fun h3 S3 => n_is K1 S3 (kk := 3) rfl (by decide) (fun z => n_eats W K1 S3 (kk := 3) rfl (by decide) (fun z2 h7 S7 => ?_) (fun z2 => absurd z z2)) (fun z => n_eats W K1 S3 (kk := 3) rfl (by decide) (fun z2 => absurd z2 z) (fun z2 => ?_)))
    · rintro J57 rfl
      rw [if_pos z] at k
      refine brF' (by decide) (fin 1 0 _ h7 (nx_iv K1).1 S7 k (Or.inr ⟨by decide, ?_⟩))
      unfold plM; rw [z]; rfl
    · rintro J57 rfl
      rw [if_neg z] at k
      refine brT' rfl (n_exp (kk := 4) W K1 S3 rfl (by decide) (fun h8 S8 => fin 0 0 _ h8 (ex_iv K1).1 S8 k (Or.inl ⟨rfl, ?_⟩)))
      unfold plM; simpa using z
  · exact fun z => w_ne (fl_iv (k := 4) K (by omega) (by omega)).1 (S1.2.1.symm.trans z)
  · rw [if_neg (show ¬ np < 8 by omega)] at k
    exact k h1 (S1.1.mo (pmF_m s)) S1.2 (fun z => absurd z fl_no)
