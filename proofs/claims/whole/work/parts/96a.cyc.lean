/-! the reference follows the rules -/
def MP (b : Nat → Nat) (n s : Nat) (h0 : Hp) (w d : Nat) (r r1 : Rs) : Prop := match w with
  | 11 => ∃ m, ∀ (f : Nat) (h : Hp) (Q : Hp → Prop), 8 * (6 - d) + 5 ≤ f → d ≤ 6 → MK b n s r → MS s h0 h r → (∀ h1, MS s h0 h1 r1 → Q h1) → M_readBoth_L5 (nI d) (M_cyc f 0) (M_cyc f 1) (M_cyc f 2) (M_cyc f 3) (M_cyc f 4) (M_cyc f 5) (M_cyc f 6) Q m h
  | 13 => ∃ m, ∀ (f : Nat) (h : Hp) (Q : Hp → Prop), 8 * (6 - d) + 3 ≤ f → d ≤ 6 → MK b n s r → MS s h0 h r → (∀ h1, MS s h0 h1 r1 → Q h1) → M_readSum_L5 (nI d) (M_cyc f 0) (M_cyc f 1) (M_cyc f 2) (M_cyc f 3) (M_cyc f 4) (M_cyc f 5) (M_cyc f 6) Q m h
  | 14 => ∃ m, ∀ (f : Nat) (h : Hp) (Q : Hp → Prop), 8 * (6 - d) + 2 ≤ f → d ≤ 6 → MK b n s r → MS s h0 h r → (∀ h1, MS s h0 h1 r1 → Q h1) → M_readTerm_L5 (nI d) (M_cyc f 0) (M_cyc f 1) (M_cyc f 2) (M_cyc f 3) (M_cyc f 4) (M_cyc f 5) (M_cyc f 6) Q m h
  | 15 => ∃ m, ∀ (f : Nat) (h : Hp) (Q : Hp → Prop), 8 * (6 - d) + 6 ≤ f → d ≤ 6 → MK b n s r → MS s h0 h r → (∀ h1, MS s h0 h1 r1 → Q h1) → M_readTruth_L5 (nI d) (M_cyc f 0) (M_cyc f 1) (M_cyc f 2) (M_cyc f 3) (M_cyc f 4) (M_cyc f 5) (M_cyc f 6) Q m h
  | 0 => ∀ (f : Nat) (h : Hp) (Q : Hp → Prop), 8 * (6 - d) + 2 ≤ f → d ≤ 6 → MK b n s r → MS s h0 h r → (∀ h1, MS s h0 h1 r1 → Q h1) → M_cyc f 0 (nI d) h Q
  | 4 => ∀ (f : Nat) (h : Hp) (Q : Hp → Prop), 8 * (6 - d) + 3 ≤ f → d ≤ 6 → MK b n s r → MS s h0 h r → (∀ h1, MS s h0 h1 r1 → Q h1) → M_cyc f 4 (nI d) h Q
  | 3 => ∀ (f : Nat) (h : Hp) (Q : Hp → Prop), 8 * (6 - d) + 4 ≤ f → d ≤ 6 → MK b n s r → MS s h0 h r → (∀ h1, MS s h0 h1 r1 → Q h1) → M_cyc f 3 (nI d) h Q
  | 6 => ∀ (f : Nat) (h : Hp) (Q : Hp → Prop), 8 * (6 - d) + 5 ≤ f → d ≤ 6 → MK b n s r → MS s h0 h r → (∀ h1, MS s h0 h1 r1 → Q h1) → M_cyc f 6 (nI d) h Q
  | 1 => ∀ (f : Nat) (h : Hp) (Q : Hp → Prop), 8 * (6 - d) + 6 ≤ f → d ≤ 6 → MK b n s r → MS s h0 h r → (∀ h1, MS s h0 h1 r1 → Q h1) → M_cyc f 1 (nI d) h Q
  | 5 => ∀ (f : Nat) (h : Hp) (Q : Hp → Prop), 8 * (6 - d) + 7 ≤ f → d ≤ 6 → MK b n s r → MS s h0 h r → (∀ h1, MS s h0 h1 r1 → Q h1) → M_cyc f 5 (nI d) h Q
  | _ => True
theorem MK_rl {b : Nat → Nat} {n s w d : Nat} {r r1 : Rs} (K : MK b n s r) (R : Rl b n w d r r1) : MK b n s r1 := by
  obtain ⟨a, b1, c⟩ := (rl_iv R).2 K.1
  have := K.2
  exact ⟨a, by omega⟩
theorem MK_nx {b : Nat → Nat} {n s : Nat} {r : Rs} (K : MK b n s r) : MK b n s (nxR b n r) := by
  have a := nx_iv K.1
  have := K.2
  exact ⟨a.1, by omega⟩
theorem MK_ex {b : Nat → Nat} {n s k : Nat} {r : Rs} (K : MK b n s r) : MK b n s (exR b n k r) := by
  have a := ex_iv (k := k) K.1
  have := K.2
  exact ⟨a.1, by omega⟩
theorem MK_cm {b : Nat → Nat} {n s : Nat} {r : Rs} (K : MK b n s r) : MK b n s (cmR b n r) := by
  have a := cm_iv K.1
  have := K.2
  have l := rok_le K.1
  refine ⟨a.1, ?_⟩
  rcases a.2.2 with z | ⟨x, z⟩
  · omega
  · rw [z]; show s + 0 ≤ n; omega
/-- a turn of a loop -/
theorem MK_go {b : Nat → Nat} {n s w d c : Nat} {r r1 : Rs} (B : TpB b n) (K : MK b n s r) (hk : lkR w (kdR r) = true) (R1 : Rl b n (suR w) d (nxR b n r) r1) : MK b n s r1 ∧ s + lnR r1 < 900 ∧ MK b n s (adR c r1) := by
  obtain ⟨q1, q2⟩ := lk_kd hk
  have a := nx_iv K.1
  have a4 := a.2.2.2 q1 q2
  obtain ⟨b1, b2, b3⟩ := (rl_iv R1).2 a.1
  have l := K.2
  have l2 := rok_le b1
  have l0 := rok_le K.1
  have B1 := B.1
  obtain ⟨i1, i2, i3⟩ := ad_iv (c := c) b1 (Or.inl (by omega))
  exact ⟨⟨b1, by omega⟩, by omega, i1, by omega⟩
theorem MK_go2 {b : Nat → Nat} {n s w d c : Nat} {r r1 : Rs} (B : TpB b n) (K : MK b n s r) (q1 : kdR r ≠ 24) (q2 : kdR r ≠ 99) (R1 : Rl b n w d (nxR b n r) r1) : MK b n s r1 ∧ s + lnR r1 < 900 ∧ MK b n s (adR c r1) := by
  have a := nx_iv K.1
  have a4 := a.2.2.2 q1 q2
  obtain ⟨b1, b2, b3⟩ := (rl_iv R1).2 a.1
  have l := K.2
  have l2 := rok_le b1
  have l0 := rok_le K.1
  have B1 := B.1
  obtain ⟨i1, i2, i3⟩ := ad_iv (c := c) b1 (Or.inl (by omega))
  exact ⟨⟨b1, by omega⟩, by omega, i1, by omega⟩
theorem n_atom {b : Nat → Nat} {n s d : Nat} {h0 h : Hp} {r : Rs} {Q : Hp → Prop} {R0 R1 R2 R3 R4 R5 R6 : Int32 → Hp → (Hp → Prop) → Prop} (K : ROK b n r) (S : MS s h0 h r) (hk : kdR r ≠ 23) (hw : acR r = none) (k : M_is 35 h (fun r4 h5 => (r4 = 0 → M_is 10 h5 (fun r6 h7 => (r6 = 0 → M_fails 2 h7 (fun h8 => Q h8)) ∧ (¬ r6 = 0 → R2 (nI d) h7 (fun h9 => Q h9)))) ∧ (¬ r4 = 0 → M_goesIn (nI d) h5 (fun r10 h11 => (¬ r10 = 0 → R3 (nI d + 1) h11 (fun h12 => M_eats 36 h12 (fun r13 h14 => (¬ r13 = 0 → Q h14) ∧ (r13 = 0 → M_fails 2 h14 (fun h15 => Q h15))))) ∧ (r10 = 0 → Q h11))))) : M_readAtom_B R0 R1 R2 R3 R4 R5 R6 (nI d) h Q := by
  unfold M_readAtom_B
  refine n_is K S (kk := 23) rfl (by decide) (fun z => absurd z hk) (fun z => brT rfl ?_)
  rintro J64 rfl
  rcases r with p | y
  · refine brT' S.2.1 ?_
    rw [S.2.2.1.2.2.1]
    refine n_word (tk_lt K.1) ?_
    rw [(wd_ac hk).1 hw]
    exact brT rfl k
  · exact brF' (fun z => w_ne K (S.2.1.symm.trans z)) k
theorem n_cmpT {b : Nat → Nat} {n s : Nat} {h0 h : Hp} {r : Rs} {J : Hp → Prop} (W : MW b n h0) (K : ROK b n r) (S : MS s h0 h r) (k : ∀ h1, MS s h0 h1 (cmR b n r) → J h1) : M_is 39 h (fun r10 h11 => ∀ J151 : Hp → Prop, J151 = J → ∀ J139 : Hp → Prop, J139 = (fun h15 => M_next h15 (fun h16 => J151 h16)) → (¬ r10 = 0 → J139 h11) ∧ (r10 = 0 → M_is 40 h11 (fun r17 h18 => (¬ r17 = 0 → J139 h18) ∧ (r17 = 0 → M_is 41 h18 (fun r19 h20 => (r19 = 0 → M_fails 2 h20 (fun h21 => J151 h21)) ∧ (¬ r19 = 0 → J139 h20)))))) := by
  have nx : (kdR r = 39 ∨ kdR r = 40 ∨ kdR r = 41) → M_next h (fun h16 => J h16) := fun c => by
    unfold cmR at k
    rw [if_pos c] at k
    obtain ⟨p, rfl⟩ : ∃ p, r = .inl p := by
      rcases c with z | z | z
      · exact kd_in z (by omega)
      · exact kd_in z (by omega)
      · exact kd_in z (by omega)
    exact n_next W K.1 S k
  refine n_is K S (kk := 39) rfl (by decide) (fun z => ?_) (fun z => ?_)
  · rintro J151 rfl J139 rfl
    exact brF' (by decide) (nx (Or.inl z))
  · rintro J151 rfl J139 rfl
    refine brT' rfl (n_is K S (kk := 40) rfl (by decide) (fun z2 => brF' (by decide) (nx (Or.inr (Or.inl z2)))) (fun z2 => brT' rfl (n_is K S (kk := 41) rfl (by decide) (fun z3 => brF (by decide) (nx (Or.inr (Or.inr z3)))) (fun z3 => brT rfl ?_))))
    unfold cmR at k
    rw [if_neg (by omega)] at k
    exact n_fails K S rfl k
theorem ac_no {r : Rs} {k : Nat} (h : kdR r = k) (hk : k = 35 ∨ k = 10) : acR r = none ∧ kdR r ≠ 23 := by
  rcases r with p | y
  · have h : p.1.2.2.1 = k := h
    refine ⟨?_, ?_⟩
    · rcases hk with rfl | rfl <;> simp [acR, h]
    · show p.1.2.2.1 ≠ 23
      omega
  · exact ⟨rfl, by show (99 : Nat) ≠ 23; decide⟩
theorem n_codes2 {s : Nat} {n c : Nat} {x : Int32} {h0 h : Hp} {r : Rs} {Q : Hp → Prop} {b : Nat → Nat} (K : ROK b n r) (S : MS s h0 h r) (hx : x = nI c) (hl : (∃ x, r = .inr x) ∨ s + lnR r < 900) (k : ∀ h1, MS s h0 h1 (adR c r) → Q h1) : M_codes x h Q := by
  rcases hl with ⟨y, rfl⟩ | hl
  · unfold M_codes
    exact brF (fun z => w_ne K (S.2.1.symm.trans z)) (k h S)
  · exact n_codes K S hx hl k
theorem m_C {b : Nat → Nat} {n s : Nat} {h0 : Hp} (W : MW b n h0) : RlC b n (fun w d r r1 => Rl b n w d r r1 ∧ MP b n s h0 w d r r1) := by
  obtain ⟨c1, c2, c3, c4, c5, c6, c7, c8, c9, c10, c11, c12⟩ := rl_C b n
  have B1 := W.1.1
  refine ⟨?_, ?_, ?_, ?_, ?_, ?_, ?_, ?_, ?_, ?_, ?_, ?_⟩
  · intro w d r hw e
    refine ⟨c1 w d r hw e, ?_⟩
    rcases hw with rfl | rfl | rfl | rfl
    · refine ⟨1, fun f h Q hf hd K S k => ?_⟩
      unfold M_readBoth_L5
      exact n_eats W K.1 S rfl (by decide) (fun z => by rw [z] at e; cases e) (fun z => brT rfl (k h S))
    · refine ⟨1, fun f h Q hf hd K S k => ?_⟩
      unfold M_readSum_L5
      refine n_is K.1 S rfl (by decide) (fun z => by rw [z] at e; cases e) (fun z => ?_)
      rintro J23 rfl
      exact brT' rfl (n_is K.1 S rfl (by decide) (fun z => by rw [z] at e; cases e) (fun z => brT rfl (k h S)))
    · refine ⟨1, fun f h Q hf hd K S k => ?_⟩
      unfold M_readTerm_L5
      exact n_eats W K.1 S rfl (by decide) (fun z => by rw [z] at e; cases e) (fun z => brT rfl (k h S))
    · refine ⟨1, fun f h Q hf hd K S k => ?_⟩
      unfold M_readTruth_L5
      exact n_eats W K.1 S rfl (by decide) (fun z => by rw [z] at e; cases e) (fun z => brT rfl (k h S))
  · intro w d r r1 r2 hw e p1 p2
    refine ⟨c2 w d r r1 r2 hw e p1.1 p2.1, ?_⟩
    rcases hw with rfl | rfl | rfl | rfl
    · obtain ⟨m, p2⟩ := p2.2
      have p1' : MP b n s h0 6 d (nxR b n r) r1 := p1.2
      have e' : kdR r = 17 := by simpa [lkR] using e
      refine ⟨m + 1, fun f h Q hf hd K S k => ?_⟩
      obtain ⟨g1, g2, g3⟩ := MK_go (c := 3007) W.1 K e p1.1
      unfold M_readBoth_L5
      exact n_eats W K.1 S rfl (by decide) (fun z h1 S1 => brF (by decide) (p1' f h1 _ hf hd (MK_nx K) S1 (fun h2 S2 => n_codes (c := 3007) g1.1 S2 rfl g2 (fun h3 S3 => p2 f h3 Q hf hd g3 S3 k)))) (fun z => absurd e' z)
    · obtain ⟨m, p2⟩ := p2.2
      have p1' : MP b n s h0 4 d (nxR b n r) r1 := p1.2
      have e' : kdR r = 32 ∨ kdR r = 33 := by simpa [lkR] using e
      refine ⟨m + 1, fun f h Q hf hd K S k => ?_⟩
      obtain ⟨g1, g2, g3⟩ := MK_go (c := lcR 13 (kdR r)) W.1 K e p1.1
      obtain ⟨p, rfl⟩ : ∃ p, r = .inl p := by
        rcases e' with z | z
        · exact kd_in z (by omega)
        · exact kd_in z (by omega)
      have e9 : gI h 98 9 = 32 ↔ p.1.2.2.1 = 32 := by
        rw [S.2.2.1.2.2.1]
        exact nI_eq (a := p.1.2.2.1) (b := 32) (by have := tk_lt K.1.1; omega) (by omega)
      have go : ∀ x : Int32, x = nI (lcR 13 (kdR (.inl p))) → M_next h (fun h7 => M_cyc f 4 (nI d) h7 (fun h8 => M_codes x h8 (fun h9 => M_readSum_L5 (nI d) (M_cyc f 0) (M_cyc f 1) (M_cyc f 2) (M_cyc f 3) (M_cyc f 4) (M_cyc f 5) (M_cyc f 6) Q m h9))) := fun x hx =>
        n_next W K.1.1 S (fun h1 S1 => p1' f h1 _ hf hd (MK_nx K) S1 (fun h2 S2 => n_codes (c := lcR 13 (kdR (.inl p))) g1.1 S2 hx g2 (fun h3 S3 => p2 f h3 Q hf hd g3 S3 k)))
      unfold M_readSum_L5
      refine n_is K.1 S rfl (by decide) (fun z => ?_) (fun z => ?_)
      · rintro J23 rfl
        refine brF' (by decide) ?_
        rintro J41 rfl
        rw [e9]
        exact brT' z (go 3000 (by rw [z]; rfl))
      · rintro J23 rfl
        have z3 : kdR (.inl p) = 33 := by
          rcases e' with y | y
          · exact absurd y z
          · exact y
        refine brT' rfl (n_is K.1 S rfl (by decide) (fun z2 => brF (by decide) ?_) (fun z2 => absurd z3 z2))
        rintro J41 rfl
        rw [e9]
        exact brF' z (go 3001 (by rw [z3]; rfl))
    · obtain ⟨m, p2⟩ := p2.2
      have p1' : MP b n s h0 0 d (nxR b n r) r1 := p1.2
      have e' : kdR r = 34 := by simpa [lkR] using e
      refine ⟨m + 1, fun f h Q hf hd K S k => ?_⟩
      obtain ⟨g1, g2, g3⟩ := MK_go (c := 3002) W.1 K e p1.1
      unfold M_readTerm_L5
      exact n_eats W K.1 S rfl (by decide) (fun z h1 S1 => brF (by decide) (p1' f h1 _ hf hd (MK_nx K) S1 (fun h2 S2 => n_codes (c := 3002) g1.1 S2 rfl g2 (fun h3 S3 => p2 f h3 Q hf hd g3 S3 k)))) (fun z => absurd e' z)
    · obtain ⟨m, p2⟩ := p2.2
      have p1' : MP b n s h0 1 d (nxR b n r) r1 := p1.2
      have e' : kdR r = 18 := by simpa [lkR] using e
      refine ⟨m + 1, fun f h Q hf hd K S k => ?_⟩
      obtain ⟨g1, g2, g3⟩ := MK_go (c := 3008) W.1 K e p1.1
      unfold M_readTruth_L5
      exact n_eats W K.1 S rfl (by decide) (fun z h1 S1 => brF (by decide) (p1' f h1 _ hf hd (MK_nx K) S1 (fun h2 S2 => n_codes (c := 3008) g1.1 S2 rfl g2 (fun h3 S3 => p2 f h3 Q hf hd g3 S3 k)))) (fun z => absurd e' z)
  · intro w d r r1 r2 hw p1 p2
    refine ⟨c3 w d r r1 r2 hw p1.1 p2.1, ?_⟩
    rcases hw with rfl | rfl | rfl | rfl
    · obtain ⟨m, p2'⟩ := p2.2
      have p1' : MP b n s h0 6 d r r1 := p1.2
      intro f h Q hf hd K S k
      obtain ⟨g, rfl⟩ : ∃ g, f = g + 1 := ⟨f - 1, by omega⟩
      show M_readBoth_B (M_cyc g 0) (M_cyc g 1) (M_cyc g 2) (M_cyc g 3) (M_cyc g 4) (M_cyc g 5) (M_cyc g 6) (nI d) h Q
      unfold M_readBoth_B
      exact p1' g h _ (by omega) hd K S (fun h1 S1 => ⟨m, p2' g h1 Q (by omega) hd (MK_rl K p1.1) S1 k⟩)
    · obtain ⟨m, p2'⟩ := p2.2
      have p1' : MP b n s h0 4 d r r1 := p1.2
      intro f h Q hf hd K S k
      obtain ⟨g, rfl⟩ : ∃ g, f = g + 1 := ⟨f - 1, by omega⟩
      show M_readSum_B (M_cyc g 0) (M_cyc g 1) (M_cyc g 2) (M_cyc g 3) (M_cyc g 4) (M_cyc g 5) (M_cyc g 6) (nI d) h Q
      unfold M_readSum_B
      exact p1' g h _ (by omega) hd K S (fun h1 S1 => ⟨m, p2' g h1 Q (by omega) hd (MK_rl K p1.1) S1 k⟩)
    · obtain ⟨m, p2'⟩ := p2.2
      have p1' : MP b n s h0 0 d r r1 := p1.2
      intro f h Q hf hd K S k
      obtain ⟨g, rfl⟩ : ∃ g, f = g + 1 := ⟨f - 1, by omega⟩
      show M_readTerm_B (M_cyc g 0) (M_cyc g 1) (M_cyc g 2) (M_cyc g 3) (M_cyc g 4) (M_cyc g 5) (M_cyc g 6) (nI d) h Q
      unfold M_readTerm_B
      exact p1' g h _ (by omega) hd K S (fun h1 S1 => ⟨m, p2' g h1 Q (by omega) hd (MK_rl K p1.1) S1 k⟩)
    · obtain ⟨m, p2'⟩ := p2.2
      have p1' : MP b n s h0 1 d r r1 := p1.2
      intro f h Q hf hd K S k
      obtain ⟨g, rfl⟩ : ∃ g, f = g + 1 := ⟨f - 1, by omega⟩
      show M_readTruth_B (M_cyc g 0) (M_cyc g 1) (M_cyc g 2) (M_cyc g 3) (M_cyc g 4) (M_cyc g 5) (M_cyc g 6) (nI d) h Q
      unfold M_readTruth_B
      exact p1' g h _ (by omega) hd K S (fun h1 S1 => ⟨m, p2' g h1 Q (by omega) hd (MK_rl K p1.1) S1 k⟩)
  · intro d r c e
    refine ⟨c4 d r c e, ?_⟩
    intro f h Q hf hd K S k
    obtain ⟨q1, q2, p, rfl⟩ := ac_kd e
    obtain ⟨g, rfl⟩ : ∃ g, f = g + 1 := ⟨f - 1, by omega⟩
    have a4 := (nx_iv K.1).2.2.2 q1 q2
    have l2 := (rok_le (nx_iv K.1).1).2
    have l := K.2
    have tl := tk_lt K.1.1
    show M_readAtom_B (M_cyc g 0) (M_cyc g 1) (M_cyc g 2) (M_cyc g 3) (M_cyc g 4) (M_cyc g 5) (M_cyc g 6) (nI d) h Q
    unfold M_readAtom_B
    refine n_is K.1 S rfl (by decide) (fun z => brF (by decide) ?_) (fun z => brT rfl ?_)
    · have z : p.1.2.2.1 = 23 := z
      have ec : p.1.2.2.2 = c := by
        have : acR (.inl p) = some p.1.2.2.2 := if_pos z
        rw [this] at e; exact Option.some.inj e
      rw [S.2.2.1.2.2.2 z, ec]
      exact n_codes (c := c) K.1 S rfl (by omega) (fun h1 S1 => n_next (p := (p.1, p.2 ++ [c])) W K.1.1 S1 k)
    · obtain ⟨w1, w2⟩ := (wd_ac z).2 c e
      rintro J64 rfl
      refine brT' S.2.1 ?_
      rw [S.2.2.1.2.2.1]
      refine n_word tl (brF w1 ?_)
      rw [S.2.2.1.2.2.1]
      exact n_word tl (n_codes (c := c) K.1 S w2 (by omega) (fun h1 S1 => n_next (p := (p.1, p.2 ++ [c])) W K.1.1 S1 k))
  · intro d r r1 e hd6 p1
    refine ⟨c5 d r r1 e hd6 p1.1, ?_⟩
    have p1' : MP b n s h0 3 (d + 1) (nxR b n r) r1 := p1.2
    intro f h Q hf hd K S k
    obtain ⟨p, rfl⟩ := kd_in e (by omega)
    obtain ⟨g, rfl⟩ : ∃ g, f = g + 1 := ⟨f - 1, by omega⟩
    obtain ⟨a1, a2⟩ := ac_no e (Or.inl rfl)
    show M_readAtom_B (M_cyc g 0) (M_cyc g 1) (M_cyc g 2) (M_cyc g 3) (M_cyc g 4) (M_cyc g 5) (M_cyc g 6) (nI d) h Q
    refine n_atom K.1 S a2 a1 (n_is K.1 S (kk := 35) rfl (by decide) (fun z => brF (by decide) (n_goes W K.1 S hd (fun z2 h1 S1 => brF' (by decide) ?_) (fun z2 => absurd z2 (by omega)))) (fun z => absurd e z))
    rw [nI_1 d]
    exact p1' g h1 _ (by omega) (by omega) (MK_nx K) S1 (fun h2 S2 => n_exp (kk := 36) W (MK_rl (MK_nx K) p1.1).1 S2 rfl (by decide) k)
  · intro d r r1 r2 r3 e hd6 p1 p2 p3
    refine ⟨c6 d r r1 r2 r3 e hd6 p1.1 p2.1 p3.1, ?_⟩
    have p1' : MP b n s h0 5 (d + 1) (nxR b n r) r1 := p1.2
    have p2' : MP b n s h0 3 (d + 1) (exR b n 11 r1) r2 := p2.2
    have p3' : MP b n s h0 3 (d + 1) (exR b n 12 r2) r3 := p3.2
    intro f h Q hf hd K S k
    obtain ⟨p, rfl⟩ := kd_in e (by omega)
    obtain ⟨g, rfl⟩ : ∃ g, f = g + 1 + 1 := ⟨f - 2, by omega⟩
    obtain ⟨a1, a2⟩ := ac_no e (Or.inr rfl)
    have ne : kdR (.inl p) ≠ 35 := fun z => by rw [e] at z; omega
    have k0 := MK_nx K
    have k1 := MK_rl k0 p1.1
    have x1 := MK_ex (k := 11) k1
    have k2 := MK_rl x1 p2.1
    have x2 := MK_ex (k := 12) k2
    have k3 := MK_rl x2 p3.1
    have x3 := MK_ex (k := 13) k3
    have bound : s + lnR (exR b n 13 r3) < 900 := by
      have u0 := nx_iv K.1
      have u4 := u0.2.2.2 (by rw [e]; decide) (by rw [e]; decide)
      have v1 := (rl_iv p1.1).2 k0.1
      have v2 := ex_iv (k := 11) k1.1
      have v3 := (rl_iv p2.1).2 x1.1
      have v4 := ex_iv (k := 12) k2.1
      have v5 := (rl_iv p3.1).2 x2.1
      have v6 := ex_iv (k := 13) k3.1
      have l := K.2
      have l2 := rok_le x3.1
      omega
    show M_readAtom_B (M_cyc (g + 1) 0) (M_cyc (g + 1) 1) (M_cyc (g + 1) 2) (M_cyc (g + 1) 3) (M_cyc (g + 1) 4) (M_cyc (g + 1) 5) (M_cyc (g + 1) 6) (nI d) h Q
    refine n_atom K.1 S a2 a1 (n_is K.1 S (kk := 35) rfl (by decide) (fun z => absurd z ne) (fun z => brT rfl (n_is K.1 S (kk := 10) rfl (by decide) (fun z2 => brF (by decide) ?_) (fun z2 => absurd e z2))))
    show M_readIf_B (M_cyc g 0) (M_cyc g 1) (M_cyc g 2) (M_cyc g 3) (M_cyc g 4) (M_cyc g 5) (M_cyc g 6) (nI d) h Q
    unfold M_readIf_B
    refine n_goes W K.1 S hd (fun z2 h1 S1 => brF' (by decide) ?_) (fun z2 => absurd z2 (by omega))
    rw [nI_1 d]
    refine p1' g h1 _ (by omega) (by omega) k0 S1 (fun h2 S2 => n_expJ (kk := 11) W k1.1 S2 rfl (by decide) (fun h3 S3 => ?_))
    refine p2' g h3 _ (by omega) (by omega) x1 S3 (fun h4 S4 => n_expJ (kk := 12) W k2.1 S4 rfl (by decide) (fun h5 S5 => ?_))
    refine p3' g h5 _ (by omega) (by omega) x2 S5 (fun h6 S6 => n_expJ (kk := 13) W k3.1 S6 rfl (by decide) (fun h7 S7 => ?_))
    exact n_codes (c := 3009) x3.1 S7 rfl bound k
  · intro d r e hd6
    refine ⟨c7 d r e hd6, ?_⟩
    intro f h Q hf hd K S k
    obtain ⟨p, rfl⟩ : ∃ p, r = .inl p := by
      rcases e with z | z
      · exact kd_in z (by omega)
      · exact kd_in z (by omega)
    obtain ⟨g, rfl⟩ : ∃ g, f = g + 1 + 1 := ⟨f - 2, by omega⟩
    obtain ⟨a1, a2⟩ : acR (.inl p) = none ∧ kdR (.inl p) ≠ 23 := by
      rcases e with z | z
      · exact ac_no z (Or.inl rfl)
      · exact ac_no z (Or.inr rfl)
    show M_readAtom_B (M_cyc (g + 1) 0) (M_cyc (g + 1) 1) (M_cyc (g + 1) 2) (M_cyc (g + 1) 3) (M_cyc (g + 1) 4) (M_cyc (g + 1) 5) (M_cyc (g + 1) 6) (nI d) h Q
    refine n_atom K.1 S a2 a1 (n_is K.1 S (kk := 35) rfl (by decide) (fun z => brF (by decide) (n_goes W K.1 S hd (fun z2 => absurd z2 (by omega)) (fun z2 h1 S1 => brT' rfl (k h1 S1)))) (fun z => brT rfl (n_is K.1 S (kk := 10) rfl (by decide) (fun z2 => brF (by decide) ?_) (fun z2 => ?_))))
    · show M_readIf_B (M_cyc g 0) (M_cyc g 1) (M_cyc g 2) (M_cyc g 3) (M_cyc g 4) (M_cyc g 5) (M_cyc g 6) (nI d) h Q
      unfold M_readIf_B
      exact n_goes W K.1 S hd (fun z2 => absurd z2 (by omega)) (fun z2 h1 S1 => brT' rfl (k h1 S1))
    · rcases e with y | y
      · exact absurd y z
      · exact absurd y z2
  · intro d r e1 e2 e3
    refine ⟨c8 d r e1 e2 e3, ?_⟩
    intro f h Q hf hd K S k
    obtain ⟨g, rfl⟩ : ∃ g, f = g + 1 := ⟨f - 1, by omega⟩
    have ne : kdR r ≠ 23 := fun z => by
      obtain ⟨p, rfl⟩ := kd_in z (by omega)
      have : acR (.inl p) = some p.1.2.2.2 := if_pos z
      rw [this] at e1; cases e1
    show M_readAtom_B (M_cyc g 0) (M_cyc g 1) (M_cyc g 2) (M_cyc g 3) (M_cyc g 4) (M_cyc g 5) (M_cyc g 6) (nI d) h Q
    exact n_atom K.1 S ne e1 (n_is K.1 S (kk := 35) rfl (by decide) (fun z => absurd z e2) (fun z => brT rfl (n_is K.1 S (kk := 10) rfl (by decide) (fun z2 => absurd z2 e3) (fun z2 => brT rfl (n_fails K.1 S rfl k)))))
  · intro d r r1 e hd6 p1
    refine ⟨c9 d r r1 e hd6 p1.1, ?_⟩
    have p1' : MP b n s h0 6 (d + 1) (nxR b n r) r1 := p1.2
    intro f h Q hf hd K S k
    obtain ⟨p, rfl⟩ := kd_in e (by omega)
    obtain ⟨g, rfl⟩ : ∃ g, f = g + 1 := ⟨f - 1, by omega⟩
    obtain ⟨g1, g2, g3⟩ := MK_go2 (c := 3006) W.1 K (by rw [e]; decide) (by rw [e]; decide) p1.1
    show M_readUnit_B (M_cyc g 0) (M_cyc g 1) (M_cyc g 2) (M_cyc g 3) (M_cyc g 4) (M_cyc g 5) (M_cyc g 6) (nI d) h Q
    unfold M_readUnit_B
    refine n_is K.1 S (kk := 19) rfl (by decide) (fun z => brF (by decide) (n_goes W K.1 S hd (fun z2 h1 S1 => brF' (by decide) ?_) (fun z2 => absurd z2 (by omega)))) (fun z => absurd e z)
    rw [nI_1 d]
    exact p1' g h1 _ (by omega) (by omega) (MK_nx K) S1 (fun h2 S2 => n_codes (c := 3006) g1.1 S2 rfl g2 k)
  · intro d r r1 e hd6 p1
    refine ⟨c10 d r r1 e hd6 p1.1, ?_⟩
    have p1' : MP b n s h0 5 (d + 1) (nxR b n r) r1 := p1.2
    intro f h Q hf hd K S k
    obtain ⟨p, rfl⟩ := kd_in e (by omega)
    obtain ⟨g, rfl⟩ : ∃ g, f = g + 1 := ⟨f - 1, by omega⟩
    have ne : kdR (.inl p) ≠ 19 := fun z => by rw [e] at z; omega
    show M_readUnit_B (M_cyc g 0) (M_cyc g 1) (M_cyc g 2) (M_cyc g 3) (M_cyc g 4) (M_cyc g 5) (M_cyc g 6) (nI d) h Q
    unfold M_readUnit_B
    refine n_is K.1 S (kk := 19) rfl (by decide) (fun z => absurd z ne) (fun z => brT rfl (n_is K.1 S (kk := 37) rfl (by decide) (fun z => brF (by decide) (n_goes W K.1 S hd (fun z2 h1 S1 => brF' (by decide) ?_) (fun z2 => absurd z2 (by omega)))) (fun z => absurd e z)))
    rw [nI_1 d]
    exact p1' g h1 _ (by omega) (by omega) (MK_nx K) S1 (fun h2 S2 => n_exp (kk := 38) W (MK_rl (MK_nx K) p1.1).1 S2 rfl (by decide) k)
  · intro d r e hd6
    refine ⟨c11 d r e hd6, ?_⟩
    intro f h Q hf hd K S k
    obtain ⟨p, rfl⟩ : ∃ p, r = .inl p := by
      rcases e with z | z
      · exact kd_in z (by omega)
      · exact kd_in z (by omega)
    obtain ⟨g, rfl⟩ : ∃ g, f = g + 1 := ⟨f - 1, by omega⟩
    show M_readUnit_B (M_cyc g 0) (M_cyc g 1) (M_cyc g 2) (M_cyc g 3) (M_cyc g 4) (M_cyc g 5) (M_cyc g 6) (nI d) h Q
    unfold M_readUnit_B
    refine n_is K.1 S (kk := 19) rfl (by decide) (fun z => brF (by decide) (n_goes W K.1 S hd (fun z2 => absurd z2 (by omega)) (fun z2 h1 S1 => brT' rfl (k h1 S1)))) (fun z => brT rfl (n_is K.1 S (kk := 37) rfl (by decide) (fun z2 => brF (by decide) (n_goes W K.1 S hd (fun z2 => absurd z2 (by omega)) (fun z2 h1 S1 => brT' rfl (k h1 S1)))) (fun z2 => ?_)))
    rcases e with y | y
    · exact absurd y z
    · exact absurd y z2
  · intro d r r1 r2 e1 e2 p1 p2
    refine ⟨c12 d r r1 r2 e1 e2 p1.1 p2.1, ?_⟩
    have p1' : MP b n s h0 3 d r r1 := p1.2
    have p2' : MP b n s h0 3 d (cmR b n r1) r2 := p2.2
    intro f h Q hf hd K S k
    obtain ⟨g, rfl⟩ : ∃ g, f = g + 1 := ⟨f - 1, by omega⟩
    have k1 := MK_rl K p1.1
    have x1 := MK_cm k1
    have k2 := MK_rl x1 p2.1
    have bound : (∃ x, r2 = .inr x) ∨ s + lnR r2 < 900 := by
      have v1 := (rl_iv p1.1).2 K.1
      have v2 := cm_iv k1.1
      have v3 := (rl_iv p2.1).2 x1.1
      have l := K.2
      have l0 := rok_le K.1
      have l1 := rok_le k1.1
      have l2 := rok_le k2.1
      rcases v2.2.2 with z | ⟨x, z⟩
      · exact Or.inr (by omega)
      · exact Or.inl ⟨x, (rl_iv p2.1).1 x z⟩
    have cmp : ∀ h5, MS s h0 h5 r1 → ∀ x : Int32, x = nI (ccR r1) → M_is 39 h5 (fun r10 h11 => ∀ J151 : Hp → Prop, J151 = (fun h12 => M_cyc g 3 (nI d) h12 (fun h13 => M_codes x h13 (fun h14 => Q h14))) → ∀ J139 : Hp → Prop, J139 = (fun h15 => M_next h15 (fun h16 => J151 h16)) → (¬ r10 = 0 → J139 h11) ∧ (r10 = 0 → M_is 40 h11 (fun r17 h18 => (¬ r17 = 0 → J139 h18) ∧ (r17 = 0 → M_is 41 h18 (fun r19 h20 => (r19 = 0 → M_fails 2 h20 (fun h21 => J151 h21)) ∧ (¬ r19 = 0 → J139 h20)))))) := fun h5 S5 x hx =>
      n_cmpT W k1.1 S5 (fun h6 S6 => p2' g h6 _ (by omega) hd x1 S6 (fun h7 S7 => n_codes2 (c := ccR r1) k2.1 S7 hx bound k))
    show M_readUnit_B (M_cyc g 0) (M_cyc g 1) (M_cyc g 2) (M_cyc g 3) (M_cyc g 4) (M_cyc g 5) (M_cyc g 6) (nI d) h Q
    unfold M_readUnit_B
    refine n_is K.1 S (kk := 19) rfl (by decide) (fun z => absurd z e1) (fun z => brT rfl (n_is K.1 S (kk := 37) rfl (by decide) (fun z2 => absurd z2 e2) (fun z2 => brT rfl ?_)))
    refine p1' g h _ (by omega) hd K S (fun h5 S5 => n_is k1.1 S5 (kk := 39) rfl (by decide) (fun z => ?_) (fun z => ?_))
    · rintro J111 rfl
      exact brF (by decide) (cmp h5 S5 3003 (by unfold ccR; rw [if_pos z]; rfl))
    · rintro J111 rfl
      refine brT rfl (n_is k1.1 S5 (kk := 40) rfl (by decide) (fun z2 => brF (by decide) ?_) (fun z2 => brT rfl ?_))
      · exact cmp h5 S5 3004 (by unfold ccR; rw [if_neg z, if_pos z2]; rfl)
      · exact cmp h5 S5 3005 (by unfold ccR; rw [if_neg z, if_neg z2]; rfl)
theorem m_rl {b : Nat → Nat} {n s w d : Nat} {h0 : Hp} {r r1 : Rs} (W : MW b n h0) (R : Rl b n w d r r1) : MP b n s h0 w d r r1 := (R _ (m_C W)).2
