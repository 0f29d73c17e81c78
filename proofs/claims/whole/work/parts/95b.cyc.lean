/-! the class's reading, all steps -/
def ndC (w d : Nat) : Nat := 8 * (6 - d) + (if w = 0 then 1 else if w = 4 then 2 else if w = 3 then 3 else if w = 6 then 4 else if w = 1 then 5 else 6)
theorem nm_ac {p : (Nat × Nat × Nat × Nat) × List Nat} (h : p.1.2.2.1 ≠ 23) : (acR (.inl p) = none ∧ nmC p.1.2.2.1 = -1) ∨ ∃ c, acR (.inl p) = some c ∧ nmC p.1.2.2.1 = nI (cvC c) ∧ nmC p.1.2.2.1 ≠ -1 ∧ kdR (.inl p) ≠ 24 ∧ kdR (.inl p) ≠ 99 := by
  have a : acR (.inl p) = if p.1.2.2.1 = 14 then some 1000 else if p.1.2.2.1 = 15 then some 1001 else if p.1.2.2.1 = 16 then some 1002 else if p.1.2.2.1 = 5 then some 1003 else if p.1.2.2.1 = 1 then some 1004 else none := if_neg h
  have kd : kdR (.inl p) = p.1.2.2.1 := rfl
  rw [a, kd]
  generalize p.1.2.2.1 = k
  by_cases c1 : k = 14
  · subst c1; exact Or.inr ⟨1000, rfl, rfl, by decide, by decide, by decide⟩
  by_cases c2 : k = 15
  · subst c2; exact Or.inr ⟨1001, rfl, rfl, by decide, by decide, by decide⟩
  by_cases c3 : k = 16
  · subst c3; exact Or.inr ⟨1002, rfl, rfl, by decide, by decide, by decide⟩
  by_cases c4 : k = 5
  · subst c4; exact Or.inr ⟨1003, rfl, rfl, by decide, by decide, by decide⟩
  by_cases c5 : k = 1
  · subst c5; exact Or.inr ⟨1004, rfl, rfl, by decide, by decide, by decide⟩
  left
  unfold nmC
  rw [if_neg c1, if_neg c2, if_neg c3, if_neg c4, if_neg c5, if_neg c1, if_neg c2, if_neg c3, if_neg c4, if_neg c5]
  exact ⟨rfl, rfl⟩
theorem r_cyc {q : Nat} {b : Nat → Nat} {n : Nat} {h0 : Hp} (W : CW q b n h0) (G : gR h0 1 = some q) : ∀ (f w d : Nat), w = 0 ∨ w = 1 ∨ w = 3 ∨ w = 4 ∨ w = 5 ∨ w = 6 → d ≤ 6 → ndC w d ≤ f → RC q b n h0 w d (Reader_cyc f w (nI d)) := by
  obtain ⟨c1, c2, c3, c4, c5, c6, c7, c8, c9, c10, c11, c12⟩ := rl_C b n
  have B1 := W.1.1
  have sq := (q_SH W.2.2).1
  intro f
  induction f using Nat.strongRecOn with
  | ind f ih =>
    intro w d hw hd hn
    have one : 1 ≤ ndC w d := by
      unfold ndC
      (repeat' split) <;> omega
    obtain ⟨g, rfl⟩ : ∃ g, f = g + 1 := ⟨f - 1, by omega⟩
    have sub : ∀ w' d', w' = 0 ∨ w' = 1 ∨ w' = 3 ∨ w' = 4 ∨ w' = 5 ∨ w' = 6 → d' ≤ 6 → ndC w' d' ≤ g → RC q b n h0 w' d' (Reader_cyc g w' (nI d')) := fun w' d' h1 h2 h3 => ih g (by omega) w' d' h1 h2 h3
    intro h r Q K S k
    rcases hw with rfl | rfl | rfl | rfl | rfl | rfl
    · show Reader_atom_B (Reader_cyc g 0) (Reader_cyc g 1) (Reader_cyc g 2) (Reader_cyc g 3) (Reader_cyc g 4) (Reader_cyc g 5) (Reader_cyc g 6) (nI d) h Q
      have hn : 8 * (6 - d) + 1 ≤ g + 1 := hn
      unfold Reader_atom_B
      rcases r with p | x
      · have tl := rok_le K
        refine brT S.2.1 (r_num S (fun c => brF (by decide) ⟨q, CS_q G S, sq, ?_⟩) (fun c => brT rfl (r_is W K S (by omega) (by omega) (fun e => brF (by decide) (r_deep W K S hd (fun e2 => brF (by decide) (r_adv W K S (fun h1 S1 => ?_))) (fun e2 h1 S1 => brT rfl ?_))) (fun e => brT rfl (r_is W K S (by omega) (by omega) (fun e2 => brF (by decide) (r_deep W K S hd (fun e3 => brF (by decide) (r_adv W K S (fun h1 S1 => ?_))) (fun e3 h1 S1 => brT rfl ?_))) (fun e2 => brT rfl ?_))))))
        · have e : acR (.inl p) = some p.1.2.2.2 := if_pos c
          have a4 := (nx_iv K).2.2.2 (show p.1.2.2.1 ≠ 24 by omega) (show p.1.2.2.1 ≠ 99 by omega)
          have l2 := (rok_le (nx_iv K).1).2
          have v := K.1.2.2.2.2.2.2.1 c
          have cv : cvC p.1.2.2.2 = p.1.2.2.2 := if_pos (by omega)
          rw [S.2.2.1.2.2.2 c]
          refine r_add (c := p.1.2.2.2) W S (by rw [cv]) (by omega) (fun h1 S1 => ?_)
          exact r_adv0 (p := (p.1, p.2 ++ [p.1.2.2.2])) W K.1 S1 (fun h2 S2 => k h2 _ (c4 d _ _ e) S2)
        · rw [nI_1 d]
          have a := nx_iv K
          refine sub 3 (d + 1) (by omega) (by omega) (by show 8 * (6 - (d + 1)) + 3 ≤ g; omega) h1 _ _ a.1 S1 (fun h2 r1 R1 S2 => ?_)
          exact r_expect W ((rl_iv R1).2 a.1).1 S2 (by omega) (by omega) (fun h3 S3 => k h3 _ (c5 d _ r1 e e2 R1) S3)
        · exact k h1 _ (c7 d _ (Or.inl e) e2) S1
        · rw [nI_1 d]
          have a := nx_iv K
          have a4 := a.2.2.2 (show p.1.2.2.1 ≠ 24 by have e2 : p.1.2.2.1 = 10 := e2; omega) (show p.1.2.2.1 ≠ 99 by have e2 : p.1.2.2.1 = 10 := e2; omega)
          obtain ⟨g', rfl⟩ : ∃ g', g = g' + 1 := ⟨g - 1, by omega⟩
          have t5 := ih g' (by omega) 5 (d + 1) (by omega) (by omega) (by show 8 * (6 - (d + 1)) + 6 ≤ g'; omega)
          have t3 := ih g' (by omega) 3 (d + 1) (by omega) (by omega) (by show 8 * (6 - (d + 1)) + 3 ≤ g'; omega)
          show Reader_choice_B (Reader_cyc g' 0) (Reader_cyc g' 1) (Reader_cyc g' 2) (Reader_cyc g' 3) (Reader_cyc g' 4) (Reader_cyc g' 5) (Reader_cyc g' 6) (nI (d + 1)) h1 _
          unfold Reader_choice_B
          refine t5 h1 _ _ a.1 S1 (fun h2 r1 R1 S2 => ?_)
          obtain ⟨b1, b2, b3⟩ := (rl_iv R1).2 a.1
          refine r_expect W b1 S2 (by omega) (by omega) (fun h3 S3 => ?_)
          obtain ⟨x1, x2, x3⟩ := ex_iv (k := 11) b1
          refine t3 h3 _ _ x1 S3 (fun h4 r2 R2 S4 => ?_)
          obtain ⟨d1, d2, d3⟩ := (rl_iv R2).2 x1
          refine r_expect W d1 S4 (by omega) (by omega) (fun h5 S5 => ?_)
          obtain ⟨y1, y2, y3⟩ := ex_iv (k := 12) d1
          refine t3 h5 _ _ y1 S5 (fun h6 r3 R3 S6 => ?_)
          obtain ⟨f1, f2, f3⟩ := (rl_iv R3).2 y1
          refine r_expect W f1 S6 (by omega) (by omega) (fun h7 S7 => ⟨q, CS_q G S7, sq, ?_⟩)
          obtain ⟨z1, z2, z3⟩ := ex_iv (k := 13) f1
          refine r_add (c := 3009) W S7 rfl (ln9 W.1 ?_ z1) (fun h8 S8 => k h8 _ (c6 d _ r1 r2 r3 e2 e3 R1 R2 R3) S8)
          show lnR (exR b n 13 r3) + 1 ≤ lvR n (exR b n 13 r3)
          omega
        · exact k h1 _ (c7 d _ (Or.inr e2) e3) S1
        · rcases nm_ac c with ⟨n1, n2⟩ | ⟨cc, n1, n2, n3, n4⟩
          · refine r_name W K S ?_
            rw [n2]
            exact brT rfl (r_refuse W K S rfl (fun h1 S1 => k h1 _ (c8 d _ n1 e e2) S1))
          · refine r_name W K S (brF n3 ⟨q, CS_q G S, sq, r_name W K S ?_⟩)
            have a4 := (nx_iv K).2.2.2 n4.1 n4.2
            have l2 := (rok_le (nx_iv K).1).2
            refine r_add (c := cc) W S n2 (by omega) (fun h1 S1 => ?_)
            exact r_adv0 (p := (p.1, p.2 ++ [cc])) W K.1 S1 (fun h2 S2 => k h2 _ (c4 d _ _ n1) S2)
      · exact brF (fun z => w_ne K (S.2.1.symm.trans z)) (k h _ rl_bad.1 S)
    · show Reader_both_B (Reader_cyc g 0) (Reader_cyc g 1) (Reader_cyc g 2) (Reader_cyc g 3) (Reader_cyc g 4) (Reader_cyc g 5) (Reader_cyc g 6) (nI d) h Q
      have hn : 8 * (6 - d) + 5 ≤ g + 1 := hn
      have s6 := sub 6 d (by omega) hd (by show 8 * (6 - d) + 4 ≤ g; omega)
      unfold Reader_both_B
      refine s6 h r _ K S (fun h1 r1 R1 S1 => ⟨n - lvR n r1 + 1, r_loop (w := 11) (o := 21) (A := Reader_cyc g 6 (nI d)) (LP := Reader_both_L7 (nI d) (Reader_cyc g 0) (Reader_cyc g 1) (Reader_cyc g 2) (Reader_cyc g 3) (Reader_cyc g 4) (Reader_cyc g 5) (Reader_cyc g 6) Q) W G (by omega) (by omega) (by omega) (fun k => by simp [lkR, stK]) rfl s6 (fun m y h z => z) _ 0 h1 r1 (Nat.le_refl _) (Nat.zero_le _) ((rl_iv R1).2 K).1 S1 (fun h2 r2 R2 S2 => k h2 r2 (c3 1 d r r1 r2 (by omega) R1 R2) S2)⟩)
    · show Reader_sum_B (Reader_cyc g 0) (Reader_cyc g 1) (Reader_cyc g 2) (Reader_cyc g 3) (Reader_cyc g 4) (Reader_cyc g 5) (Reader_cyc g 6) (nI d) h Q
      have hn : 8 * (6 - d) + 3 ≤ g + 1 := hn
      have s4 := sub 4 d (by omega) hd (by show 8 * (6 - d) + 2 ≤ g; omega)
      unfold Reader_sum_B
      refine s4 h r _ K S (fun h1 r1 R1 S1 => ⟨n - lvR n r1 + 1, r_sumL (A := Reader_cyc g 4 (nI d)) (LP := Reader_sum_L7 (nI d) (Reader_cyc g 0) (Reader_cyc g 1) (Reader_cyc g 2) (Reader_cyc g 3) (Reader_cyc g 4) (Reader_cyc g 5) (Reader_cyc g 6) Q) W G s4 (fun m y h z => z) _ 0 h1 r1 (Nat.le_refl _) (Nat.zero_le _) ((rl_iv R1).2 K).1 S1 (fun h2 r2 R2 S2 => k h2 r2 (c3 3 d r r1 r2 (by omega) R1 R2) S2)⟩)
    · show Reader_term_B (Reader_cyc g 0) (Reader_cyc g 1) (Reader_cyc g 2) (Reader_cyc g 3) (Reader_cyc g 4) (Reader_cyc g 5) (Reader_cyc g 6) (nI d) h Q
      have hn : 8 * (6 - d) + 2 ≤ g + 1 := hn
      have s0 := sub 0 d (by omega) hd (by show 8 * (6 - d) + 1 ≤ g; omega)
      unfold Reader_term_B
      refine s0 h r _ K S (fun h1 r1 R1 S1 => ⟨n - lvR n r1 + 1, r_loop (w := 14) (o := 29) (A := Reader_cyc g 0 (nI d)) (LP := Reader_term_L7 (nI d) (Reader_cyc g 0) (Reader_cyc g 1) (Reader_cyc g 2) (Reader_cyc g 3) (Reader_cyc g 4) (Reader_cyc g 5) (Reader_cyc g 6) Q) W G (by omega) (by omega) (by omega) (fun k => by simp [lkR, stK]) rfl s0 (fun m y h z => z) _ 0 h1 r1 (Nat.le_refl _) (Nat.zero_le _) ((rl_iv R1).2 K).1 S1 (fun h2 r2 R2 S2 => k h2 r2 (c3 4 d r r1 r2 (by omega) R1 R2) S2)⟩)
    · show Reader_truth_B (Reader_cyc g 0) (Reader_cyc g 1) (Reader_cyc g 2) (Reader_cyc g 3) (Reader_cyc g 4) (Reader_cyc g 5) (Reader_cyc g 6) (nI d) h Q
      have hn : 8 * (6 - d) + 6 ≤ g + 1 := hn
      have s1 := sub 1 d (by omega) hd (by show 8 * (6 - d) + 5 ≤ g; omega)
      unfold Reader_truth_B
      refine s1 h r _ K S (fun h1 r1 R1 S1 => ⟨n - lvR n r1 + 1, r_loop (w := 15) (o := 22) (A := Reader_cyc g 1 (nI d)) (LP := Reader_truth_L7 (nI d) (Reader_cyc g 0) (Reader_cyc g 1) (Reader_cyc g 2) (Reader_cyc g 3) (Reader_cyc g 4) (Reader_cyc g 5) (Reader_cyc g 6) Q) W G (by omega) (by omega) (by omega) (fun k => by simp [lkR, stK]) rfl s1 (fun m y h z => z) _ 0 h1 r1 (Nat.le_refl _) (Nat.zero_le _) ((rl_iv R1).2 K).1 S1 (fun h2 r2 R2 S2 => k h2 r2 (c3 5 d r r1 r2 (by omega) R1 R2) S2)⟩)
    · show Reader_unit_B (Reader_cyc g 0) (Reader_cyc g 1) (Reader_cyc g 2) (Reader_cyc g 3) (Reader_cyc g 4) (Reader_cyc g 5) (Reader_cyc g 6) (nI d) h Q
      have hn : 8 * (6 - d) + 4 ≤ g + 1 := hn
      unfold Reader_unit_B
      rcases r with p | x
      · refine brT S.2.1 (r_is W K S (by omega) (by omega) (fun e => brF (by decide) (r_deep W K S hd (fun e2 => brF (by decide) (r_adv W K S (fun h1 S1 => ?_))) (fun e2 h1 S1 => brT rfl ?_))) (fun e => brT rfl (r_is W K S (by omega) (by omega) (fun e2 => brF (by decide) (r_deep W K S hd (fun e3 => brF (by decide) (r_adv W K S (fun h1 S1 => ?_))) (fun e3 h1 S1 => brT rfl ?_))) (fun e2 => brT rfl ?_))))
        · rw [nI_1 d]
          have a := nx_iv K
          have a4 := a.2.2.2 (show p.1.2.2.1 ≠ 24 by have e : p.1.2.2.1 = 19 := e; omega) (show p.1.2.2.1 ≠ 99 by have e : p.1.2.2.1 = 19 := e; omega)
          refine sub 6 (d + 1) (by omega) (by omega) (by show 8 * (6 - (d + 1)) + 4 ≤ g; omega) h1 _ _ a.1 S1 (fun h2 r1 R1 S2 => ⟨q, CS_q G S2, sq, ?_⟩)
          obtain ⟨b1, b2, b3⟩ := (rl_iv R1).2 a.1
          have l := rok_le K
          exact r_add (c := 3006) W S2 rfl (ln9 W.1 (by omega) b1) (fun h3 S3 => k h3 _ (c9 d _ r1 e e2 R1) S3)
        · exact k h1 _ (c11 d _ (Or.inl e) e2) S1
        · rw [nI_1 d]
          have a := nx_iv K
          refine sub 5 (d + 1) (by omega) (by omega) (by show 8 * (6 - (d + 1)) + 6 ≤ g; omega) h1 _ _ a.1 S1 (fun h2 r1 R1 S2 => ?_)
          obtain ⟨b1, b2, b3⟩ := (rl_iv R1).2 a.1
          exact r_expect W b1 S2 (by omega) (by omega) (fun h3 S3 => k h3 _ (c10 d _ r1 e2 e3 R1) S3)
        · exact k h1 _ (c11 d _ (Or.inr e2) e3) S1
        · have s3 := sub 3 d (by omega) hd (by show 8 * (6 - d) + 3 ≤ g; omega)
          refine s3 h _ _ K S (fun h1 r1 R1 S1 => r_cmp W ((rl_iv R1).2 K).1 S1 (fun h2 S2 => ?_))
          obtain ⟨b1, b2, b3⟩ := (rl_iv R1).2 K
          obtain ⟨m1, m2, m3⟩ := cm_iv b1
          refine s3 h2 _ _ m1 S2 (fun h3 r2 R2 S3 => ⟨q, CS_q G S3, sq, ?_⟩)
          obtain ⟨d1, d2, d3⟩ := (rl_iv R2).2 m1
          have l := rok_le K
          have lr : lnR r2 < 900 := by
            rcases m3 with z | ⟨x, z⟩
            · exact ln9 W.1 (by omega) d1
            · rw [(rl_iv R2).1 x z]; show 0 < 900; omega
          exact r_add (c := ccR r1) W S3 rfl lr (fun h4 S4 => k h4 _ (c12 d _ r1 r2 e e2 R1 R2) S4)
      · exact brF (fun z => w_ne K (S.2.1.symm.trans z)) (k h _ rl_bad.2.2.2.1 S)
