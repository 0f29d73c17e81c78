/-! a road, read by the class -/
def rd4 (b : Nat → Nat) (n np : Nat) (r : Rs) : Rs := nmR b n np (nmR b n np (nxR b n r))
def rd5 (b : Nat → Nat) (n np : Nat) (r : Rs) : Rs := if kdR (rd4 b n np r) = 6 then nxR b n (rd4 b n np r) else exR b n 7 (rd4 b n np r)
def rdR (b : Nat → Nat) (n np nr : Nat) (r : Rs) : Rs := if nr < 16 then nmR b n 100 (rd5 b n np r) else flR 4 r
def rdG (b : Nat → Nat) (n np : Nat) (r : Rs) : Int32 := if kdR (rd4 b n np r) = 6 then nI (vlR (rd5 b n np r)) else -nI (vlR (rd5 b n np r))
theorem nm_in {b : Nat → Nat} {n lim : Nat} {r : Rs} (h : ∃ p, nmR b n lim r = .inl p) : ∃ p, r = .inl p := by
  rcases r with p | y
  · exact ⟨p, rfl⟩
  · obtain ⟨_, h⟩ := h; cases (show (Sum.inr y : Rs) = .inl _ from h)
theorem rd5_in {b : Nat → Nat} {n np : Nat} {r : Rs} (h : ∃ p, rd5 b n np r = .inl p) : ∃ p, rd4 b n np r = .inl p := by
  obtain ⟨p, h⟩ := h
  unfold rd5 at h
  split at h
  · obtain ⟨p0, e, _⟩ := nx_in h; exact ⟨p0, e⟩
  · obtain ⟨p0, e, _⟩ := ex_in h; exact ⟨p0, e⟩
theorem rd_iv {b : Nat → Nat} {n np : Nat} {r : Rs} (K : ROK b n r) : ROK b n (nmR b n np (nxR b n r)) ∧ ROK b n (rd4 b n np r) ∧ ROK b n (rd5 b n np r) := by
  have k1 := (nx_iv K).1
  have k2 := (nm_iv (lim := np) k1).1
  have k3 := (nm_iv (lim := np) k2).1
  refine ⟨k2, k3, ?_⟩
  unfold rd5
  split
  · exact (nx_iv k3).1
  · exact (ex_iv k3).1
theorem CSr_o {q : Nat} {b : Nat → Nat} {n o j : Nat} {h : Hp} {r : Rs} {x : Int32} (S : CSr q b n h r) (h2 : 2 ≠ o) (h3 : 3 ≠ o) (h4 : q ≠ o) (h5 : q + 1 ≠ o) : CSr q b n (sI h o j x) r := by
  rcases r with p | y
  · obtain ⟨s1, s2, s3, s4, s5⟩ := S
    exact ⟨by rw [sI_o h2]; exact s1, CT_o s2 h3, by rw [sI_o h4]; exact s3, fun i hi => by rw [sI_o h5]; exact s4 i hi, by rw [sI_o h2]; exact s5⟩
  · obtain ⟨s1, s2, m, t, s3, s4, s5, s6⟩ := S
    exact ⟨by rw [sI_o h2]; exact s1, by rw [sI_o h2]; exact s2, m, t, s3, by rw [sI_o h4]; exact s4, s5, CT_o s6 h3⟩
theorem TpC_o {h : Hp} {b : Nat → Nat} {n o j : Nat} {x : Int32} (T : TpC h b n) (h1 : 1 ≠ o) (h3 : 3 ≠ o) : TpC (sI h o j x) b n :=
  ⟨T.1, by rw [sI_o h3]; exact T.2.1, fun k hk => by rw [sI_o h1]; exact T.2.2 k hk⟩
def rdF : Nat → Nat → Bool := fun o k => cF 4 o k || o == 10 || o == 11 || o == 12 || (o == 2 && k == 6)
theorem rdF_c (o k : Nat) (h : rdF o k = false) : cF 4 o k = false := by
  simp only [rdF, Bool.or_eq_false_iff] at h
  exact h.1.1.1.1
theorem np_1 {np : Nat} (h : np ≤ 8) : (nI np - 1).toInt = (np : Int) - 1 := by
  have e : (nI np).toInt = np := nI_toInt (by omega)
  have l : (1 : Int32).toInt = 1 := by decide
  rw [i_sub (by rw [e, l]; omega), e, l]
theorem r_road {b : Nat → Nat} {n np nr : Nat} {h : Hp} {p : (Nat × Nat × Nat × Nat) × List Nat} {Q : Hp → Prop} (B : TpB b n) (T : TpC h b n) (K : ROK b n (.inl p)) (S : CSr 4 b n h (.inl p)) (e4 : gI h 2 4 = nI np) (hn : np ≤ 8) (e6 : gI h 2 6 = nI nr) (hr : nr ≤ 16) (k : ∀ h1, Fq rdF h h1 → CSr 4 b n h1 (rdR b n np nr (.inl p)) → ((∃ p1, rdR b n np nr (.inl p) = .inl p1) → gI h1 2 6 = nI (nr + 1) ∧ (gI h1 10 nr = nI (vlR (nxR b n (.inl p))) ∧ gI h1 11 nr = nI (vlR (nmR b n np (nxR b n (.inl p)))) ∧ gI h1 12 nr = rdG b n np (.inl p)) ∧ ∀ i, i ≠ nr → gI h1 10 i = gI h 10 i ∧ gI h1 11 i = gI h 11 i ∧ gI h1 12 i = gI h 12 i) → Q h1) : Reader_readRoad h Q := by
  have W : CW 4 b n h := ⟨B, T, Or.inl rfl⟩
  have S0 : CS 4 b n h h (.inl p) := ⟨Fq.rf _ _, S⟩
  obtain ⟨K2, K3, K5⟩ := rd_iv (np := np) K
  unfold Reader_readRoad
  rw [e6]
  unfold rdR at k
  refine pk_lt nr 16 (fun c => ?_) (fun c => ?_)
  · rw [if_pos c] at k
    have K1 := (nx_iv K).1
    refine r_adv W K S0 (fun h1 S1 => ?_)
    have a4 : gI h1 2 4 = nI np := (S1.1.1.1 2 4 rfl).trans e4
    have a6 : gI h1 2 6 = nI nr := (S1.1.1.1 2 6 rfl).trans e6
    rw [a4, a6, cl nr]
    refine r_number (lim := np) W K1 S1 (np_1 hn) (fun h3 v S3 hv => ⟨pk_in nr 16 c, ?_⟩)
    intro h4 g4
    have F4 : Fq rdF h h4 := by rw [g4]; exact Fq.sI (S3.1.mo rdF_c) rfl
    have T4 : TpC h4 b n := by rw [g4]; exact TpC_o (CS_T W S3) (by decide) (by decide)
    have W4 : CW 4 b n h4 := ⟨B, T4, Or.inl rfl⟩
    have S4 : CS 4 b n h4 h4 (nmR b n np (nxR b n (.inl p))) := ⟨Fq.rf _ _, by rw [g4]; exact CSr_o S3.2 (by decide) (by decide) (by decide) (by decide)⟩
    have b4 : gI h4 2 4 = nI np := by rw [g4, sI_o (by decide)]; exact (S3.1.1.1 2 4 rfl).trans e4
    have b6 : gI h4 2 6 = nI nr := by rw [g4, sI_o (by decide)]; exact (S3.1.1.1 2 6 rfl).trans e6
    have d10 : ∀ i, i ≠ nr → gI h4 10 i = gI h 10 i := fun i hi => by rw [g4, sI_k hi]; exact S3.1.1.1 10 i rfl
    have d10' : gI h4 10 nr = v := by rw [g4, sI_s]
    have d11 : ∀ i, gI h4 11 i = gI h 11 i := fun i => by rw [g4, sI_o (by decide)]; exact S3.1.1.1 11 i rfl
    have d12 : ∀ i, gI h4 12 i = gI h 12 i := fun i => by rw [g4, sI_o (by decide)]; exact S3.1.1.1 12 i rfl
    rw [b4, b6, cl nr]
    refine r_number (lim := np) W4 K2 S4 (np_1 hn) (fun h6 u S6 hu => ⟨pk_in nr 16 c, ?_⟩)
    intro h7 g7
    have F7 : Fq rdF h h7 := by rw [g7]; exact Fq.sI (F4.tr (S6.1.mo rdF_c)) rfl
    have T7 : TpC h7 b n := by rw [g7]; exact TpC_o (CS_T W4 S6) (by decide) (by decide)
    have W7 : CW 4 b n h7 := ⟨B, T7, Or.inl rfl⟩
    have S7 : CS 4 b n h7 h7 (rd4 b n np (.inl p)) := ⟨Fq.rf _ _, by rw [g7]; exact CSr_o S6.2 (by decide) (by decide) (by decide) (by decide)⟩
    have c6 : gI h7 2 6 = nI nr := by rw [g7, sI_o (by decide)]; exact (S6.1.1.1 2 6 rfl).trans b6
    have f10 : ∀ i, gI h7 10 i = gI h4 10 i := fun i => by rw [g7, sI_o (by decide)]; exact S6.1.1.1 10 i rfl
    have f11 : ∀ i, i ≠ nr → gI h7 11 i = gI h4 11 i := fun i hi => by rw [g7, sI_k hi]; exact S6.1.1.1 11 i rfl
    have f11' : gI h7 11 nr = u := by rw [g7, sI_s]
    have f12 : ∀ i, gI h7 12 i = gI h4 12 i := fun i => by rw [g7, sI_o (by decide)]; exact S6.1.1.1 12 i rfl
    have fin : ∀ (x : Int32) (h10 : Hp), CS 4 b n h7 h10 (rd5 b n np (.inl p)) → ((x = 0 ∧ ¬ kdR (rd4 b n np (.inl p)) = 6) ∨ (¬ x = 0 ∧ kdR (rd4 b n np (.inl p)) = 6)) → Reader_number 99 h10 (fun r11 h12 => ∀ J102 : Int32 → Hp → Prop, J102 = (fun s13 h14 => vp_in (gI h12 2 6) 16 ∧ ∀ h15 : Hp, h15 = sI h14 12 ((gI h12 2 6)).toNatClampNeg s13 → ∀ h16 : Hp, h16 = sI h15 2 6 ((gI h15 2 6) + 1) → Q h16) → (x = 0 → J102 (-r11) h12) ∧ (¬ x = 0 → J102 r11 h12)) := by
      intro x h10 S10 hx
      refine r_number (lim := 100) W7 K5 S10 (by decide) (fun h12 y S12 hy => ?_)
      rintro J102 rfl
      have m6 : gI h12 2 6 = nI nr := (S12.1.1.1 2 6 rfl).trans c6
      have go : ∀ z : Int32, ((∃ p1, nmR b n 100 (rd5 b n np (.inl p)) = .inl p1) → z = rdG b n np (.inl p)) → vp_in (gI h12 2 6) 16 ∧ ∀ h15 : Hp, h15 = sI h12 12 ((gI h12 2 6)).toNatClampNeg z → ∀ h16 : Hp, h16 = sI h15 2 6 ((gI h15 2 6) + 1) → Q h16 := by
        intro z hz
        rw [m6, cl nr]
        refine ⟨pk_in nr 16 c, ?_⟩
        intro h15 g15 h16 g16
        have m15 : gI h15 2 6 = nI nr := by rw [g15, sI_o (by decide)]; exact m6
        rw [m15, nI_1 nr] at g16
        have o10 : ∀ i, gI h16 10 i = gI h7 10 i := fun i => by rw [g16, sI_o (by decide), g15, sI_o (by decide)]; exact S12.1.1.1 10 i rfl
        have o11 : ∀ i, gI h16 11 i = gI h7 11 i := fun i => by rw [g16, sI_o (by decide), g15, sI_o (by decide)]; exact S12.1.1.1 11 i rfl
        have o12 : ∀ i, i ≠ nr → gI h16 12 i = gI h7 12 i := fun i hi => by rw [g16, sI_o (by decide), g15, sI_k hi]; exact S12.1.1.1 12 i rfl
        refine k h16 ?_ ?_ (fun ok => ⟨by rw [g16, sI_s], ⟨?_, ?_, ?_⟩, fun i hi => ⟨?_, ?_, ?_⟩⟩)
        · rw [g16, g15]; exact Fq.sI (Fq.sI (F7.tr (S12.1.mo rdF_c)) rfl) rfl
        · rw [g16, g15]; exact CSr_2 (Or.inl rfl) (CSr_o S12.2 (by decide) (by decide) (by decide) (by decide)) (by decide) (by decide)
        · rw [o10, f10, d10']; exact (hv (nm_in (rd5_in (nm_in ok)))).1
        · rw [o11, f11']; exact (hu (rd5_in (nm_in ok))).1
        · rw [g16, sI_o (by decide), g15, sI_s]; exact hz ok
        · rw [o10, f10]; exact d10 i hi
        · rw [o11, f11 i hi]; exact d11 i
        · rw [o12 i hi, f12]; exact d12 i
      rcases hx with ⟨x0, q⟩ | ⟨x0, q⟩
      · exact brT x0 (go (-y) (fun ok => by rw [(hy ok).1]; unfold rdG; rw [if_neg q]))
      · exact brF x0 (go y (fun ok => by rw [(hy ok).1]; unfold rdG; rw [if_pos q]))
    refine r_take W7 K3 S7 (by omega) (by omega) (fun z h9 S9 => ?_) (fun z => ?_)
    · have z : kdR (rd4 b n np (.inl p)) = 6 := z
      rintro J77 rfl
      refine brF' (by decide) (fin 1 h9 ?_ (Or.inr ⟨by decide, z⟩))
      unfold rd5; rw [if_pos z]; exact S9
    · have z : ¬ kdR (rd4 b n np (.inl p)) = 6 := z
      rintro J77 rfl
      refine brT' rfl (r_expect W7 K3 S7 (by omega) (by omega) (fun h9 S9 => fin 0 h9 ?_ (Or.inl ⟨rfl, z⟩)))
      unfold rd5; rw [if_neg z]; exact S9
  · rw [if_neg (show ¬ nr < 16 by omega)] at k
    exact r_refuse (kk := 4) W K S0 rfl (fun h1 S1 => k h1 (S1.1.mo rdF_c) S1.2 (fun z => absurd z fl_no))
