/-! the class's reading keeps the rules -/
theorem rl_bad {b : Nat → Nat} {n d : Nat} {x : Nat × Nat} : Rl b n 0 d (.inr x) (.inr x) ∧ Rl b n 4 d (.inr x) (.inr x) ∧ Rl b n 3 d (.inr x) (.inr x) ∧ Rl b n 6 d (.inr x) (.inr x) ∧ Rl b n 1 d (.inr x) (.inr x) ∧ Rl b n 5 d (.inr x) (.inr x) := by
  obtain ⟨c1, c2, c3, c4, c5, c6, c7, c8, c9, c10, c11, c12⟩ := rl_C b n
  have a0 : Rl b n 0 d (.inr x) (.inr x) := c8 d (.inr x) rfl (show (99 : Nat) ≠ 35 by decide) (show (99 : Nat) ≠ 10 by decide)
  have a4 : Rl b n 4 d (.inr x) (.inr x) := c3 4 d _ _ _ (by omega) a0 (c1 14 d (.inr x) (by omega) rfl)
  have a3 : Rl b n 3 d (.inr x) (.inr x) := c3 3 d _ _ _ (by omega) a4 (c1 13 d (.inr x) (by omega) rfl)
  have a6 : Rl b n 6 d (.inr x) (.inr x) := c12 d (.inr x) (.inr x) (.inr x) (show (99 : Nat) ≠ 19 by decide) (show (99 : Nat) ≠ 37 by decide) a3 a3
  have a1 : Rl b n 1 d (.inr x) (.inr x) := c3 1 d _ _ _ (by omega) a6 (c1 11 d (.inr x) (by omega) rfl)
  have a5 : Rl b n 5 d (.inr x) (.inr x) := c3 5 d _ _ _ (by omega) a1 (c1 15 d (.inr x) (by omega) rfl)
  exact ⟨a0, a4, a3, a6, a1, a5⟩
/-- what a step of reading has to do -/
def RC (q : Nat) (b : Nat → Nat) (n : Nat) (h0 : Hp) (w d : Nat) (A : Hp → (Hp → Prop) → Prop) : Prop := ∀ (h : Hp) (r : Rs) (Q : Hp → Prop), ROK b n r → CS q b n h0 h r → (∀ h1 r1, Rl b n w d r r1 → CS q b n h0 h1 r1 → Q h1) → A h Q
theorem ln9 {b : Nat → Nat} {n : Nat} {r : Rs} (B : TpB b n) (h : lnR r + 1 ≤ lvR n r) (K : ROK b n r) : lnR r < 900 := by
  have := rok_le K
  have := B.1
  omega
theorem lk_end {b : Nat → Nat} {n w : Nat} {r : Rs} (K : ROK b n r) (h : n ≤ lvR n r) : lkR w (kdR r) = false := by
  cases e : lkR w (kdR r) with
  | false => rfl
  | true =>
    obtain ⟨q1, q2⟩ := lk_kd e
    have a := nx_iv K
    have a4 := a.2.2.2 q1 q2
    have := (rok_le a.1).2
    omega
/-- a turn of a loop: behind its token and what follows it one more code fits -/
theorem go_iv {b : Nat → Nat} {n w d : Nat} {r r1 : Rs} (K : ROK b n r) (hk : lkR w (kdR r) = true) (R1 : Rl b n (suR w) d (nxR b n r) r1) : ROK b n r1 ∧ lnR r1 + 1 ≤ lvR n r1 ∧ lvR n r + 1 ≤ lvR n r1 := by
  obtain ⟨q1, q2⟩ := lk_kd hk
  have a := nx_iv K
  have a4 := a.2.2.2 q1 q2
  obtain ⟨b1, b2, b3⟩ := (rl_iv R1).2 a.1
  have l := rok_le K
  exact ⟨b1, by omega, by omega⟩
theorem r_loop {q : Nat} {b : Nat → Nat} {n w d o : Nat} {h0 : Hp} {x : Int32} {Q : Hp → Prop} {A : Hp → (Hp → Prop) → Prop} {LP : Nat → Int32 → Hp → Prop} (W : CW q b n h0) (G : gR h0 1 = some q) (hw : w = 11 ∨ w = 13 ∨ w = 14 ∨ w = 15) (ho : o < 33) (ho1 : 1 ≤ o) (hk : ∀ k, lkR w k = true ↔ k = stK o) (hx : x = nI (cvC (lcR w (stK o)))) (hA : RC q b n h0 (suR w) d A)
    (hLP : ∀ (m : Nat) (y : Int32) (h : Hp), ((900 ≤ y → Q h) ∧ (¬ 900 ≤ y → Reader_take o h (fun r2 h3 => (r2 = 0 → Q h3) ∧ (¬ r2 = 0 → A h3 (fun h4 => ∃ q5, gR h4 1 = some q5 ∧ SH q5 = .inl 3 ∧ Law_add q5 x h4 (fun h6 => ∀ v7 : Int32, v7 = (y + 1) → LP m v7 h6)))))) → LP (m + 1) y h) : ∀ (m c : Nat) (h : Hp) (r : Rs), n - lvR n r ≤ m → c ≤ lvR n r → ROK b n r → CS q b n h0 h r → (∀ h1 r1, Rl b n w d r r1 → CS q b n h0 h1 r1 → Q h1) → LP (m + 1) (nI c) h := by
  have B1 := W.1.1
  have sq := (q_SH W.2.2).1
  intro m
  induction m with
  | zero =>
    intro c h r hm hc K S k
    have l := rok_le K
    have e := lk_end (w := w) K (by omega)
    have fin := k h r ((rl_C b n).1 w d r hw e) S
    refine hLP 0 (nI c) h ⟨fun _ => fin, fun _ => r_take W K S ho ho1 (fun z => ?_) (fun _ => brT rfl fin)⟩
    rw [(hk _).mpr z] at e; cases e
  | succ m ih =>
    intro c h r hm hc K S k
    have l := rok_le K
    refine hLP (m + 1) (nI c) h (pk_le 900 c (fun z => ?_) (fun z => r_take W K S ho ho1 (fun z h1 S1 => ?_) (fun z => ?_)))
    · exact k h r ((rl_C b n).1 w d r hw (lk_end K (by omega))) S
    · refine brF (by decide) (hA h1 _ _ (nx_iv K).1 S1 (fun h2 r1 R1 S2 => ⟨q, CS_q G S2, sq, ?_⟩))
      have e := (hk _).mpr z
      obtain ⟨g1, g2, g3⟩ := go_iv K e R1
      refine r_add (c := lcR w (stK o)) W S2 hx (ln9 W.1 g2 g1) (fun h3 S3 => ?_)
      rintro _ rfl
      rw [nI_1 c]
      obtain ⟨i1, i2, i3⟩ := ad_iv (c := lcR w (stK o)) g1 (Or.inl g2)
      refine ih (c + 1) h3 _ (by omega) (by omega) i1 S3 (fun h4 r2 R2 S4 => k h4 r2 ((rl_C b n).2.1 w d r r1 r2 hw e R1 ?_) S4)
      rw [z]; exact R2
    · refine brT rfl (k h r ((rl_C b n).1 w d r hw ?_) S)
      cases e : lkR w (kdR r) with
      | false => rfl
      | true => exact absurd ((hk _).mp e) z
theorem r_sumL {q : Nat} {b : Nat → Nat} {n d : Nat} {h0 : Hp} {Q : Hp → Prop} {A : Hp → (Hp → Prop) → Prop} {LP : Nat → Int32 → Hp → Prop} (W : CW q b n h0) (G : gR h0 1 = some q) (hA : RC q b n h0 4 d A)
    (hLP : ∀ (m : Nat) (y : Int32) (h : Hp), ((900 ≤ y → Q h) ∧ (¬ 900 ≤ y → Reader_take 30 h (fun r2 h3 => ∀ J35 : Hp → Prop, J35 = (fun h4 => A h4 (fun h5 => ∃ q6, gR h5 1 = some q6 ∧ SH q6 = .inl 3 ∧ ∀ J57 : Int32 → Hp → Prop, J57 = (fun s7 h8 => Law_add q6 s7 h8 (fun h9 => ∀ v10 : Int32, v10 = (y + 1) → LP m v10 h9)) → (r2 = 0 → J57 1011 h5) ∧ (¬ r2 = 0 → J57 1010 h5))) → (¬ r2 = 0 → J35 h3) ∧ (r2 = 0 → Reader_take 31 h3 (fun r11 h12 => (¬ r11 = 0 → J35 h12) ∧ (r11 = 0 → Q h12)))))) → LP (m + 1) y h) : ∀ (m c : Nat) (h : Hp) (r : Rs), n - lvR n r ≤ m → c ≤ lvR n r → ROK b n r → CS q b n h0 h r → (∀ h1 r1, Rl b n 13 d r r1 → CS q b n h0 h1 r1 → Q h1) → LP (m + 1) (nI c) h := by
  have B1 := W.1.1
  have sq := (q_SH W.2.2).1
  have lk : ∀ k, lkR 13 k = true ↔ k = 32 ∨ k = 33 := fun k => by simp [lkR]
  have lkf : ∀ k, k ≠ 32 → k ≠ 33 → lkR 13 k = false := fun k h1 h2 => by simp [lkR, h1, h2]
  intro m
  induction m with
  | zero =>
    intro c h r hm hc K S k
    have l := rok_le K
    have e := lk_end (w := 13) K (by omega)
    have fin := k h r ((rl_C b n).1 13 d r (by omega) e) S
    refine hLP 0 (nI c) h ⟨fun _ => fin, fun _ => r_take W K S (by omega) (by omega) (fun z => ?_) (fun _ => ?_)⟩
    · rw [(lk _).mpr (Or.inl z)] at e; cases e
    · rintro J35 rfl
      refine brT' rfl (r_take W K S (by omega) (by omega) (fun z => ?_) (fun _ => brT' rfl fin))
      rw [(lk _).mpr (Or.inr z)] at e; cases e
  | succ m ih =>
    intro c h r hm hc K S k
    have l := rok_le K
    refine hLP (m + 1) (nI c) h (pk_le 900 c (fun z => ?_) (fun z => r_take W K S (by omega) (by omega) (fun z h1 S1 => ?_) (fun z => ?_)))
    · exact k h r ((rl_C b n).1 13 d r (by omega) (lk_end K (by omega))) S
    · have z : kdR r = 32 := z
      rintro J35 rfl
      refine brF' (by decide) ?_
      refine hA h1 _ _ (nx_iv K).1 S1 (fun h2 r1 R1 S2 => ⟨q, CS_q G S2, sq, ?_⟩)
      rintro J57 rfl
      have e := (lk (kdR r)).mpr (Or.inl z)
      refine brF (by decide) ?_
      obtain ⟨g1, g2, g3⟩ := go_iv (w := 13) K e R1
      refine r_add (c := lcR 13 (kdR r)) W S2 (by rw [z]; rfl) (ln9 W.1 g2 g1) (fun h3 S3 => ?_)
      rintro _ rfl
      rw [nI_1 c]
      obtain ⟨i1, i2, i3⟩ := ad_iv (c := lcR 13 (kdR r)) g1 (Or.inl g2)
      exact ih (c + 1) h3 _ (by omega) (by omega) i1 S3 (fun h4 r2 R2 S4 => k h4 r2 ((rl_C b n).2.1 13 d r r1 r2 (by omega) e R1 R2) S4)
    · have z : kdR r ≠ 32 := z
      rintro J35 rfl
      refine brT' rfl (r_take W K S (by omega) (by omega) (fun z2 h1 S1 => ?_) (fun z2 => ?_))
      · have z2 : kdR r = 33 := z2
        refine brF' (by decide) ?_
        refine hA h1 _ _ (nx_iv K).1 S1 (fun h2 r1 R1 S2 => ⟨q, CS_q G S2, sq, ?_⟩)
        rintro J57 rfl
        have e := (lk (kdR r)).mpr (Or.inr z2)
        refine brT rfl ?_
        obtain ⟨g1, g2, g3⟩ := go_iv (w := 13) K e R1
        refine r_add (c := lcR 13 (kdR r)) W S2 (by rw [z2]; rfl) (ln9 W.1 g2 g1) (fun h3 S3 => ?_)
        rintro _ rfl
        rw [nI_1 c]
        obtain ⟨i1, i2, i3⟩ := ad_iv (c := lcR 13 (kdR r)) g1 (Or.inl g2)
        exact ih (c + 1) h3 _ (by omega) (by omega) i1 S3 (fun h4 r2 R2 S4 => k h4 r2 ((rl_C b n).2.1 13 d r r1 r2 (by omega) e R1 R2) S4)
      · exact brT' rfl (k h r ((rl_C b n).1 13 d r (by omega) (lkf _ z z2)) S)
