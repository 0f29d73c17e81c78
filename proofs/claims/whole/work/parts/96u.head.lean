/-! the head of the text, read by both -/
def hr2 (b : Nat → Nat) (n : Nat) : Rs := exR b n 1 (exR b n 0 (.inl (tok b n 0, [])))
def wtR (b : Nat → Nat) (n : Nat) : Nat := vlR (hr2 b n)
def hd0 (b : Nat → Nat) (n : Nat) : Tx := (nmR b n 10 (hr2 b n), (0, 0, 0), (fun _ => (0, 0, 0)), ([], []), 0, 0)
theorem h0_iv {b : Nat → Nat} {n : Nat} : ROK b n (.inl (tok b n 0, [])) ∧ ROK b n (exR b n 0 (.inl (tok b n 0, []))) ∧ ROK b n (hr2 b n) ∧ ROK b n (nmR b n 10 (hr2 b n)) := by
  have k0 : ROK b n (.inl (tok b n 0, [])) := ⟨(tok_ok (Nat.zero_le n)).1, Nat.zero_le _⟩
  have k1 := (ex_iv (k := 0) k0).1
  have k2 := (ex_iv (k := 1) k1).1
  exact ⟨k0, k1, k2, (nm_iv (lim := 10) k2).1⟩
theorem hd_si {b : Nat → Nat} {n : Nat} : SI b n (hd0 b n) ∧ SI b n (nlS b n (hd0 b n)) := by
  have z : cl0 (nmR b n 10 (hr2 b n)) = nmR b n 10 (hr2 b n) := by
    unfold hr2
    rw [cl0_nm, cl0_ex, cl0_ex]; rfl
  have S : SI b n (hd0 b n) := ⟨h0_iv.2.2.2, z, fun _ => ⟨⟨Nat.zero_le _, Nat.zero_le _, show 0 < 2 ^ 0 by decide⟩, ⟨Nat.le_refl _, Nat.zero_le _⟩, fun i hi => absurd hi (Nat.not_lt_zero i), Or.inl rfl, Or.inl rfl⟩⟩
  exact ⟨S, (si_ex S).1⟩
theorem tx_ok {b : Nat → Nat} {n : Nat} {st st1 : Tx} (T : TX b n st st1) : (∃ p, st1.1 = .inl p) → ∃ p, st.1 = .inl p := by
  refine T (fun s s1 => (∃ p, s1.1 = .inl p) → ∃ p, s.1 = .inl p) (fun s _ z => z) (fun s s1 s2 h1 h2 l ih z => ?_)
  rcases hq : s.1 with p | y
  · exact ⟨p, rfl⟩
  · rw [hq] at h2; exact absurd rfl h2
theorem hd_wt {b : Nat → Nat} {n : Nat} {st1 : Tx} (X : TX b n (nlS b n (hd0 b n)) st1) (ok : ∃ p, st1.1 = .inl p) : ∃ p, nmR b n 10 (hr2 b n) = .inl p := by
  obtain ⟨p1, e1⟩ := tx_ok X ok
  have e1 : exR b n 30 (nmR b n 10 (hr2 b n)) = .inl p1 := e1
  obtain ⟨p0, e0, _⟩ := ex_in e1
  exact ⟨p0, e0⟩
theorem puC_nil (r : Rs) : puC [] r = cl0 r := by rcases r with p | y <;> rfl
def HF : Nat → Nat → Bool := fun o k => TF o k || (o == 2 && k == 12) || (o == 3 && k == 1)
theorem HF_T (o k : Nat) (h : HF o k = false) : TF o k = false := by
  simp only [HF, Bool.or_eq_false_iff] at h
  exact h.1.1
theorem r_head {b : Nat → Nat} {n : Nat} {h : Hp} {x : Int32} {Q : Hp → Prop} (B : TpB b n) (hx : x = nI n) (hb : ∀ k, k < n → gI h 1 k = sgB (b k)) (k : ∀ h1 st1, TX b n (nlS b n (hd0 b n)) st1 → Fp HF h h1 → CI b n h1 st1 → ((∃ p, st1.1 = .inl p) → gI h1 2 12 = nI (wtR b n)) → Q h1) : Reader_readText x h Q := by
  have B1 := B.1
  obtain ⟨K0, K1, K2, K3⟩ := h0_iv (b := b) (n := n)
  unfold Reader_readText
  intro h1 g1 h2 g2 h3 g3 h4 g4 h5 g5 h6 g6 h7 g7
  have F7 : Fp HF h h7 := by
    rw [g7, g6, g5, g4, g3, g2, g1]
    exact ((((((((Fp.rf HF h).sI rfl).sI rfl).sI rfl).sI rfl).sI rfl).sI rfl).sI rfl)
  have v13 : gI h7 2 13 = 0 := by
    rw [g7, sI_k (by decide), g6, sI_k (by decide), g5, sI_k (by decide), g4, sI_o (by decide), g3, sI_o (by decide), g2, sI_k (by decide), g1, sI_s]
  have v14 : gI h7 2 14 = -1 := by
    rw [g7, sI_k (by decide), g6, sI_k (by decide), g5, sI_k (by decide), g4, sI_o (by decide), g3, sI_o (by decide), g2, sI_s]
  have v43 : gI h7 4 3 = 0 := by
    rw [g7, sI_o (by decide), g6, sI_o (by decide), g5, sI_o (by decide), g4, sI_o (by decide), g3, sI_s]
  have v73 : gI h7 7 3 = 0 := by
    rw [g7, sI_o (by decide), g6, sI_o (by decide), g5, sI_o (by decide), g4, sI_s]
  have v24 : gI h7 2 4 = 0 := by
    rw [g7, sI_k (by decide), g6, sI_k (by decide), g5, sI_s]
  have v25 : gI h7 2 5 = 0 := by
    rw [g7, sI_k (by decide), g6, sI_s]
  have v26 : gI h7 2 6 = 0 := by
    rw [g7, sI_s]
  unfold Tokens_begin
  refine ⟨rfl, ?_⟩
  intro i1 j1
  have xi : x.toInt = n := by rw [hx]; exact nI_toInt (by omega)
  have l9 : (900 : Int32).toInt = 900 := by decide
  have l0 : (0 : Int32).toInt = 0 := by decide
  have go : ∀ h6' : Hp, h6' = sI i1 3 1 x → ∀ h7' : Hp, h7' = sI h6' 3 2 0 → Tokens_advance h7' (fun h8 => Reader_expect 1 h8 (fun h9 => Reader_expect 2 h9 (fun h10 => Reader_number 9 h10 (fun r11 h12 => ∀ h13 : Hp, h13 = sI h12 2 12 r11 → Reader_expect 3 h13 (fun h14 => ∀ h15 : Hp, h15 = sI h14 2 7 1 → ∃ n21, Reader_readText_L85 Q n21 0 h15))))) := by
    intro i6 j6 i7 j7
    have ci : ∀ o k, ¬ (o = 3 ∧ k = 1) → ¬ (o = 3 ∧ k = 2) → gI i7 o k = gI h7 o k := fun o k q1 q2 => by
      rw [j7, gI_sI, if_neg q2, j6, gI_sI, if_neg q1, j1]; rfl
    have F77 : Fp HF h i7 := by
      rw [j7, j6, j1]
      exact ((Fp.sR F7).sI rfl).sI rfl
    have T7 : TpC i7 b n := by
      refine ⟨?_, ?_, fun k hk => ?_⟩
      · rw [j7, j6, j1]
        show gR (sR h7 0 (some 1)) 0 = some 1
        rw [gR_sR, if_pos rfl]
      · rw [j7, sI_k (by decide), j6, sI_s, hx]
      · rw [ci 1 k (by omega) (by omega), F7.1 1 k rfl]; exact hb k hk
    refine c_advance B T7 (pos := 0) (by rw [j7, sI_s]; rfl) (Nat.zero_le n) (fun h8 F8 C8 => ?_)
    have T8 : TpC h8 b n := TpC_k T7 F8 o3t_T
    have W : CW 4 b n h8 := ⟨B, T8, Or.inl rfl⟩
    have c8 : ∀ o k, o ≠ 3 → gI h8 o k = gI h7 o k := fun o k ho => (F8.1.1 o k (by simp [o3t, ho])).trans (ci o k (by omega) (by omega))
    have S8 : CS 4 b n h8 h8 (.inl (tok b n 0, [])) := ⟨Fq.rf _ _, (c8 2 13 (by decide)).trans v13, C8, (c8 4 3 (by decide)).trans v43, fun i hi => absurd hi (by simp), (c8 2 14 (by decide)).trans v14⟩
    have F88 : Fp HF h h8 := F77.tr (F8.1.mo (fun o k hh => o3_cF 4 o k (TF_4 o k (HF_T o k hh))))
    refine r_expect W K0 S8 (by omega) (by omega) (fun h9 S9 => r_expect W K1 S9 (by omega) (by omega) (fun h10 S10 => r_number (lim := 10) W K2 S10 (by decide) (fun h12 v S12 hv => ?_)))
    intro h13 g13
    have T13 : TpC h13 b n := by rw [g13]; exact TpC_o (CS_T W S12) (by decide) (by decide)
    have S12 : CS 4 b n h8 h12 (nmR b n 10 (hr2 b n)) := S12
    have c13 : ∀ o k, cF 4 o k = false → ¬ (o = 2 ∧ k = 12) → gI h13 o k = gI h8 o k := fun o k q1 q2 => by
      rw [g13, gI_sI, if_neg q2]; exact S12.1.1.1 o k q1
    have F13 : Fp HF h h13 := by
      rw [g13]
      exact (F88.tr (S12.1.1.mo (fun o k hh => TF_4 o k (HF_T o k hh)))).sI rfl
    have W13 : CW 4 b n h13 := ⟨B, T13, Or.inl rfl⟩
    have S13 : CS 4 b n h13 h13 (nmR b n 10 (hr2 b n)) := ⟨Fq.rf _ _, by rw [g13]; exact CSr_2 (Or.inl rfl) S12.2 (by decide) (by decide)⟩
    refine r_expect W13 K3 S13 (by omega) (by omega) (fun h14 S14 => ?_)
    intro h15 g15
    have S14 : CS 4 b n h13 h14 (exR b n 30 (nmR b n 10 (hr2 b n))) := S14
    have c15 : ∀ o k, cF 4 o k = false → ¬ (o = 2 ∧ k = 7) → gI h15 o k = gI h13 o k := fun o k q1 q2 => by
      rw [g15, gI_sI, if_neg q2]; exact S14.1.1.1 o k q1
    have F15 : Fp HF h h15 := by
      rw [g15]
      exact (F13.tr (S14.1.1.mo (fun o k hh => TF_4 o k (HF_T o k hh)))).sI rfl
    have zz := (hd_si (b := b) (n := n)).2.2.1
    have C15 : CI b n h15 (nlS b n (hd0 b n)) := by
      refine ⟨by rw [g15]; exact TpC_o (CS_T W13 S14) (by decide) (by decide), ?_, fun _ => ⟨⟨?_, ?_, ?_, ?_⟩, fun i hi => absurd hi (Nat.not_lt_zero i), ?_, fun i hi => absurd hi (Nat.not_lt_zero i)⟩⟩
      · show CSr 4 b n h15 (puC [] (exR b n 30 (nmR b n 10 (hr2 b n))))
        have zz : cl0 (exR b n 30 (nmR b n 10 (hr2 b n))) = exR b n 30 (nmR b n 10 (hr2 b n)) := zz
        rw [puC_nil, zz, g15]
        exact CSr_2 (Or.inl rfl) S14.2 (by decide) (by decide)
      · show gI h15 2 4 = 0
        rw [c15 2 4 rfl (by omega), c13 2 4 rfl (by omega), c8 2 4 (by decide)]; exact v24
      · show gI h15 2 5 = 0
        rw [c15 2 5 rfl (by omega), c13 2 5 rfl (by omega), c8 2 5 (by decide)]; exact v25
      · show gI h15 2 6 = 0
        rw [c15 2 6 rfl (by omega), c13 2 6 rfl (by omega), c8 2 6 (by decide)]; exact v26
      · rw [g15, sI_s]; rfl
      · show gI h15 7 3 = 0
        rw [c15 7 3 rfl (by omega), c13 7 3 rfl (by omega), c8 7 3 (by decide)]; exact v73
    refine ⟨n + 1, r_text B n 0 h15 (nlS b n (hd0 b n)) (by omega) (Nat.zero_le _) C15 hd_si.2 (fun h16 st1 X F16 C16 => k h16 st1 X (F15.tr (F16.mo HF_T)) C16 (fun ok => ?_))⟩
    have hv := (hv (hd_wt X ok)).1
    rw [F16.1 2 12 rfl, c15 2 12 rfl (by omega), g13, sI_s, hv]; rfl
  unfold J9_min_7cf53 J9_max_7cf53
  refine ⟨fun c => absurd c (by rw [i_lt, xi, l9]; omega), fun _ => ⟨fun _ => go, fun c => ?_⟩⟩
  have x0 : (0 : Int32) = x := by
    rw [i_eq, xi, l0]
    rw [i_lt, xi, l0] at c
    omega
  intro i6 j6
  rw [x0] at j6
  exact go i6 j6
def NF : Nat → Nat → Bool := fun o k => (o == 98 && (k == 6 || k == 7 || k == 9 || k == 10 || k == 11 || k == 12)) || o == 102
theorem NF_M (o k : Nat) (h : NF o k = false) : MF o k = false := by
  simp only [NF, Bool.or_eq_false_iff] at h
  simp only [MF, h.1, h.2, Bool.false_and, Bool.or_false]
theorem NF_m (s o k : Nat) (h : NF o k = false) : mF s o k = false := MF_m s o k (NF_M o k h)
theorem n_head {b : Nat → Nat} {n : Nat} {h : Hp} {st1 : Tx} {K : Hp → Prop} (B : TpB b n) (T : TpM h b n) (e7 : gI h 98 7 = 0) (e11 : gI h 98 11 = 0) (X : TX b n (nlS b n (hd0 b n)) st1) (k : ∀ h1, Fq NF h h1 → MI b n h1 st1 → (∀ j, 58 ≤ j → j < 191 → j ≠ 61 → gI h1 102 j = if 62 ≤ j ∧ j < 70 then -1 else 0) → ((∃ p, st1.1 = .inl p) → gI h1 102 61 = nI (wtR b n)) → K h1) : M_plain 102 h (fun h8 => M_next h8 (fun h9 => M_eats 0 h9 (fun r10 h11 => ∀ J66 : Hp → Prop, J66 = (fun h12 => M_eats 1 h12 (fun r13 h14 => ∀ J79 : Hp → Prop, J79 = (fun h15 => M_takes 0 9 h15 (fun r16 h17 => ∀ h18 : Hp, h18 = sI h17 102 61 r16 → M_closes h18 (fun h19 => ∃ n22, M_land_L97 K n22 h19))) → (¬ r13 = 0 → J79 h14) ∧ (r13 = 0 → M_fails 2 h14 (fun h35 => J79 h35)))) → (¬ r10 = 0 → J66 h11) ∧ (r10 = 0 → M_fails 2 h11 (fun h36 => J66 h36))))) := by
  obtain ⟨K0, K1, K2, K3⟩ := h0_iv (b := b) (n := n)
  refine m_plain2 (fun h8 F8 P8 => ?_)
  have T8 : TpM h8 b n := TpM_k T F8 (fun o k hh => by rcases hh with ⟨rfl, rfl⟩ | rfl <;> rfl)
  refine m_next B T8 (pos := 0) ((F8.1.1 98 7 rfl).trans e7) (Nat.zero_le n) (fun h9 F9 C9 => ?_)
  have T9 : TpM h9 b n := TpM_k T8 F9 (fun o k hh => by rcases hh with ⟨rfl, rfl⟩ | rfl <;> rfl)
  have W : MW b n h9 := ⟨B, T9⟩
  have p9 : ∀ j, gI h9 102 j = gI h8 102 j := fun j => F9.1.1 102 j rfl
  have S9 : MS 0 h9 h9 (.inl (tok b n 0, [])) := ⟨Fq.rf _ _, (F9.1.1 98 11 rfl).trans ((F8.1.1 98 11 rfl).trans e11), C9, by rw [p9, P8 191 (by omega), if_neg (by omega)]; rfl, fun i hi => absurd hi (by simp)⟩
  have FN9 : Fq NF h h9 := (F8.mo (fun o k hh => by
    simp only [NF, Bool.or_eq_false_iff] at hh
    exact hh.2)).tr (F9.mo (fun o k hh => o98_mF 0 o k (NF_m 0 o k hh)))
  refine n_expJ (kk := 0) W K0 S9 rfl (by decide) (fun h12 S12 => n_expJ (kk := 1) W K1 S12 rfl (by decide) (fun h15 S15 => n_takes (lim := 10) W K2 S15 (by decide) (fun h17 v S17 hv => ?_)))
  intro h18 g18
  have S17 : MS 0 h9 h17 (nmR b n 10 (hr2 b n)) := S17
  have q18 : ∀ j, j < 191 → j ≠ 61 → gI h18 102 j = if 62 ≤ j ∧ j < 70 then -1 else 0 := fun j hj hne => by
    rw [g18, sI_k hne, S17.1.1.1 102 j (mF_lo hj), p9, P8 j (by omega)]
  have z18 : ∀ j, j < 58 → gI h18 102 j = 0 := fun j hj => by rw [q18 j (by omega) (by omega), if_neg (by omega)]
  have M18 : MI b n h18 (hd0 b n) := by
    refine ⟨by rw [g18]; exact TpM_o (MS_T W S17), by rw [g18]; exact MSr_2 S17.2 (by omega), fun _ => ⟨⟨z18 1 (by omega), z18 3 (by omega), z18 2 (by omega), z18 0 (by omega)⟩, fun i hi => absurd hi (Nat.not_lt_zero i), Or.inl ⟨rfl, z18 4 (by omega)⟩, Or.inl ⟨rfl, z18 5 (by omega)⟩⟩⟩
  have FN18 : Fq NF h h18 := by rw [g18]; exact (FN9.tr (S17.1.mo (NF_m 0))).sI rfl
  obtain ⟨N, tx⟩ := n_text B X
  refine n_close B M18 hd_si.1 (fun h19 F19 M19 => ⟨N, tx h19 K M19 hd_si.2 (fun h20 F20 M20 => ?_)⟩)
  have fr : ∀ j, 58 ≤ j → j < 191 → gI h20 102 j = gI h18 102 j := fun j h1 h2 => by
    have : MF 102 j = false := by
      simp only [MF, Bool.or_eq_false_iff, Bool.and_eq_false_iff, decide_eq_false_iff_not]
      exact ⟨Or.inl (by decide), Or.inr ⟨by omega, by omega⟩⟩
    rw [F20.1.1 102 j this, F19.1.1 102 j this]
  refine k h20 ((FN18.tr (F19.mo NF_M)).tr (F20.mo NF_M)) M20 (fun j h1 h2 h3 => by rw [fr j h1 h2]; exact q18 j h2 h3) (fun ok => ?_)
  rw [fr 61 (by omega) (by omega), g18, sI_s, (hv (hd_wt X ok)).1]; rfl
