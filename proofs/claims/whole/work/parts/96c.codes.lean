/-! what the rules add is whole -/
theorem nx_in {b : Nat → Nat} {n : Nat} {r : Rs} {p : (Nat × Nat × Nat × Nat) × List Nat} (h : nxR b n r = .inl p) : ∃ p0, r = .inl p0 ∧ p.2 = p0.2 := by
  rcases r with p0 | y
  · have h : (Sum.inl (tok b n p0.1.2.1, p0.2) : Rs) = .inl p := h
    cases h
    exact ⟨p0, rfl, rfl⟩
  · cases (show (Sum.inr y : Rs) = .inl p from h)
theorem ad_in {c : Nat} {r : Rs} {p : (Nat × Nat × Nat × Nat) × List Nat} (h : adR c r = .inl p) : ∃ p0, r = .inl p0 ∧ p.2 = p0.2 ++ [c] := by
  rcases r with p0 | y
  · have h : (Sum.inl (p0.1, p0.2 ++ [c]) : Rs) = .inl p := h
    cases h
    exact ⟨p0, rfl, rfl⟩
  · cases (show (Sum.inr y : Rs) = .inl p from h)
theorem fl_in {k : Nat} {r : Rs} {p : (Nat × Nat × Nat × Nat) × List Nat} (h : flR k r = .inl p) : False := by
  rcases r with p0 | y
  · cases (show (Sum.inr _ : Rs) = .inl p from h)
  · cases (show (Sum.inr y : Rs) = .inl p from h)
theorem ex_in {b : Nat → Nat} {n k : Nat} {r : Rs} {p : (Nat × Nat × Nat × Nat) × List Nat} (h : exR b n k r = .inl p) : ∃ p0, r = .inl p0 ∧ p.2 = p0.2 := by
  unfold exR at h
  split at h
  · exact nx_in h
  · exact (fl_in h).elim
theorem cm_in {b : Nat → Nat} {n : Nat} {r : Rs} {p : (Nat × Nat × Nat × Nat) × List Nat} (h : cmR b n r = .inl p) : ∃ p0, r = .inl p0 ∧ p.2 = p0.2 := by
  unfold cmR at h
  split at h
  · exact nx_in h
  · exact (fl_in h).elim
def cdO (l : List Nat) : Prop := ∀ c, c ∈ l → c < 1005 ∨ (3000 ≤ c ∧ c ≤ 3009)
theorem cdO_app {a c : List Nat} (h1 : cdO a) (h2 : cdO c) : cdO (a ++ c) := fun x hx => by
  rcases List.mem_append.mp hx with h | h
  · exact h1 x h
  · exact h2 x h
theorem cdO_1 {c : Nat} (h : c < 1005 ∨ (3000 ≤ c ∧ c ≤ 3009)) : cdO [c] := fun x hx => by rw [List.mem_singleton.mp hx]; exact h
/-- how high the stack grows -/
def grR (w d : Nat) : Nat := 1 + 5 * (6 - d) + (if w = 0 then 0 else if w = 4 ∨ w = 14 then 1 else if w = 3 ∨ w = 13 then 2 else if w = 6 then 3 else if w = 1 ∨ w = 11 then 4 else 5)
def PhR (w g : Nat) (l : List Nat) : Prop := if w < 10 then PhW g l ∧ l ≠ [] else PhL g l
def CdR (b : Nat → Nat) (n w d : Nat) (r r1 : Rs) : Prop := ROK b n r → d ≤ 6 → ∀ p p1, r = .inl p → r1 = .inl p1 → ∃ l, p1.2 = p.2 ++ l ∧ cdO l ∧ PhR w (grR w d) l
/-- into a rule's part -/
theorem cd_use {b : Nat → Nat} {n w d : Nat} {r r1 : Rs} {p1 : (Nat × Nat × Nat × Nat) × List Nat} (hp : Rl b n w d r r1 ∧ CdR b n w d r r1) (K : ROK b n r) (hd : d ≤ 6) (e : r1 = .inl p1) : ∃ p l, r = .inl p ∧ p1.2 = p.2 ++ l ∧ cdO l ∧ PhR w (grR w d) l := by
  rcases r with p | x
  · obtain ⟨l, h⟩ := hp.2 K hd p p1 rfl e
    exact ⟨p, l, rfl, h⟩
  · rw [(rl_iv hp.1).1 x rfl] at e; cases e
theorem b2_all : bin2 3000 ∧ bin2 3001 ∧ bin2 3002 ∧ bin2 3003 ∧ bin2 3004 ∧ bin2 3005 ∧ bin2 3007 ∧ bin2 3008 := by
  unfold bin2
  decide
theorem b2_lc {w k : Nat} (hw : w = 11 ∨ w = 13 ∨ w = 14 ∨ w = 15) : bin2 (lcR w k) ∧ (3000 ≤ lcR w k ∧ lcR w k ≤ 3009) := by
  obtain ⟨a0, a1, a2, a3, a4, a5, a7, a8⟩ := b2_all
  rcases hw with rfl | rfl | rfl | rfl
  · exact ⟨a7, show 3000 ≤ 3007 by decide, show 3007 ≤ 3009 by decide⟩
  · by_cases c : k = 32
    · subst c; exact ⟨a0, by decide, by decide⟩
    · have : lcR 13 k = 3001 := by
        show (if k = 32 then 3000 else 3001) = 3001
        rw [if_neg c]
      rw [this]; exact ⟨a1, by decide, by decide⟩
  · exact ⟨a2, show 3000 ≤ 3002 by decide, show 3002 ≤ 3009 by decide⟩
  · exact ⟨a8, show 3000 ≤ 3008 by decide, show 3008 ≤ 3009 by decide⟩
theorem b2_cc (r : Rs) : bin2 (ccR r) ∧ (3000 ≤ ccR r ∧ ccR r ≤ 3009) := by
  obtain ⟨a0, a1, a2, a3, a4, a5, a7, a8⟩ := b2_all
  unfold ccR
  split
  · exact ⟨a3, by decide, by decide⟩
  · split
    · exact ⟨a4, by decide, by decide⟩
    · exact ⟨a5, by decide, by decide⟩
theorem gr_su {w d : Nat} (hw : w = 11 ∨ w = 13 ∨ w = 14 ∨ w = 15) : suR w < 10 ∧ grR (suR w) d + 1 ≤ grR w d ∧ 1 ≤ grR w d := by
  rcases hw with rfl | rfl | rfl | rfl
  · exact ⟨by decide, by show 1 + 5 * (6 - d) + 3 + 1 ≤ 1 + 5 * (6 - d) + 4; omega, by show 1 ≤ 1 + 5 * (6 - d) + 4; omega⟩
  · exact ⟨by decide, by show 1 + 5 * (6 - d) + 1 + 1 ≤ 1 + 5 * (6 - d) + 2; omega, by show 1 ≤ 1 + 5 * (6 - d) + 2; omega⟩
  · exact ⟨by decide, by show 1 + 5 * (6 - d) + 0 + 1 ≤ 1 + 5 * (6 - d) + 1; omega, by show 1 ≤ 1 + 5 * (6 - d) + 1; omega⟩
  · exact ⟨by decide, by show 1 + 5 * (6 - d) + 4 + 1 ≤ 1 + 5 * (6 - d) + 5; omega, by show 1 ≤ 1 + 5 * (6 - d) + 5; omega⟩
theorem PhR_y {w g : Nat} {l : List Nat} (hw : w < 10) : PhR w g l ↔ PhW g l ∧ l ≠ [] := by unfold PhR; rw [if_pos hw]
theorem PhR_n {w g : Nat} {l : List Nat} (hw : ¬ w < 10) : PhR w g l ↔ PhL g l := by unfold PhR; rw [if_neg hw]
theorem nI_3k {c : Nat} (h : c < 1005) : ¬ (3000 : Int32) ≤ nI c := by
  rw [i_le, nI_toInt (by omega)]
  have : (3000 : Int32).toInt = 3000 := by decide
  omega
theorem app_ne {a : List Nat} {c : Nat} : a ++ [c] ≠ [] := by simp
theorem rl_codes {b : Nat → Nat} {n w d : Nat} {r r1 : Rs} (h : Rl b n w d r r1) : CdR b n w d r r1 := by
  obtain ⟨c1, c2, c3, c4, c5, c6, c7, c8, c9, c10, c11, c12⟩ := rl_C b n
  refine (h (fun w d r r1 => Rl b n w d r r1 ∧ CdR b n w d r r1) ⟨?_, ?_, ?_, ?_, ?_, ?_, ?_, ?_, ?_, ?_, ?_, ?_⟩).2
  · intro w d r hw e
    refine ⟨c1 w d r hw e, fun K hd p p1 e1 e2 => ⟨[], ?_, fun c hc => absurd hc (by simp), ?_⟩⟩
    · rw [e1] at e2; cases e2; simp
    · rw [PhR_n (by omega)]; exact ph_nil (gr_su hw).2.2
  · intro w d r r1 r2 hw e p1 p2
    refine ⟨c2 w d r r1 r2 hw e p1.1 p2.1, fun K hd p q e1 e2 => ?_⟩
    obtain ⟨g1, g2, g3⟩ := go_iv K e p1.1
    have K2 := (ad_iv (c := lcR w (kdR r)) g1 (Or.inl g2)).1
    obtain ⟨pa, l2, f1, f2, f3, f4⟩ := cd_use p2 K2 hd e2
    obtain ⟨pb, f5, f6⟩ := ad_in f1
    obtain ⟨pc, l1, f7, f8, f9, f10⟩ := cd_use p1 (nx_iv K).1 hd f5
    obtain ⟨pd, f11, f12⟩ := nx_in f7
    rw [e1] at f11
    cases f11
    obtain ⟨s1, s2, s3⟩ := gr_su (d := d) hw
    obtain ⟨t1, t2⟩ := b2_lc (k := kdR r) hw
    rw [PhR_y s1] at f10
    rw [PhR_n (by omega)] at f4
    refine ⟨l1 ++ [lcR w (kdR r)] ++ l2, ?_, cdO_app (cdO_app f9 (cdO_1 (Or.inr t2))) f3, ?_⟩
    · rw [f2, f6, f8, f12]; simp
    · rw [PhR_n (by omega)]; exact ph_go f10.1 t1 f4 s2
  · intro w d r r1 r2 hw p1 p2
    refine ⟨c3 w d r r1 r2 hw p1.1 p2.1, fun K hd p q e1 e2 => ?_⟩
    have K1 := ((rl_iv p1.1).2 K).1
    obtain ⟨pa, l2, f1, f2, f3, f4⟩ := cd_use p2 K1 hd e2
    obtain ⟨pb, l1, f5, f6, f7, f8⟩ := cd_use p1 K hd f1
    rw [e1] at f5
    cases f5
    have hw' : w + 10 = 11 ∨ w + 10 = 13 ∨ w + 10 = 14 ∨ w + 10 = 15 := by omega
    obtain ⟨s1, s2, s3⟩ := gr_su (d := d) hw'
    have gw : grR (w + 10) d = grR w d := by rcases hw with rfl | rfl | rfl | rfl <;> rfl
    rw [PhR_y s1] at f8
    rw [PhR_n (by omega), gw] at f4
    refine ⟨l1 ++ l2, ?_, cdO_app f7 f3, ?_⟩
    · rw [f2, f6]; simp
    · rw [PhR_y (by omega)]
      refine ⟨ph_app (ph_mo f8.1 (by omega)) f4, fun z => f8.2 (List.append_eq_nil_iff.mp z).1⟩
  · intro d r c e
    refine ⟨c4 d r c e, fun K hd p q e1 e2 => ?_⟩
    obtain ⟨pa, f1, f2⟩ := ad_in e2
    obtain ⟨pb, f3, f4⟩ := nx_in f1
    rw [e1] at f3
    cases f3
    subst e1
    have hc : c < 1005 := by
      by_cases z : p.1.2.2.1 = 23
      · have v := K.1.2.2.2.2.2.2.1 z
        have : acR (.inl p) = some p.1.2.2.2 := if_pos z
        rw [this] at e
        cases e
        omega
      · rcases nm_ac z with ⟨n1, _⟩ | ⟨cc, n1, n2, _⟩
        · rw [n1] at e; cases e
        · have a : acR (.inl p) = if p.1.2.2.1 = 14 then some 1000 else if p.1.2.2.1 = 15 then some 1001 else if p.1.2.2.1 = 16 then some 1002 else if p.1.2.2.1 = 5 then some 1003 else if p.1.2.2.1 = 1 then some 1004 else none := if_neg z
          rw [a] at e
          revert e
          (repeat' split) <;> intro e <;> cases e <;> omega
    refine ⟨[c], by rw [f2, f4], cdO_1 (Or.inl hc), ?_⟩
    rw [PhR_y (by omega)]
    exact ⟨ph_mo (ph_one (nI_3k hc)) (by show 1 ≤ 1 + 5 * (6 - d) + 0; omega), by simp⟩
  · intro d r r1 e hd6 p1
    refine ⟨c5 d r r1 e hd6 p1.1, fun K hd p q e1 e2 => ?_⟩
    obtain ⟨pa, f1, f2⟩ := ex_in e2
    obtain ⟨pb, l1, f3, f4, f5, f6⟩ := cd_use p1 (nx_iv K).1 (by omega) f1
    obtain ⟨pd, f7, f8⟩ := nx_in f3
    rw [e1] at f7
    cases f7
    rw [PhR_y (by omega)] at f6
    refine ⟨l1, by rw [f2, f4, f8], f5, ?_⟩
    rw [PhR_y (by omega)]
    exact ⟨ph_mo f6.1 (by show 1 + 5 * (6 - (d + 1)) + 2 ≤ 1 + 5 * (6 - d) + 0; omega), f6.2⟩
  · intro d r r1 r2 r3 e hd6 p1 p2 p3
    refine ⟨c6 d r r1 r2 r3 e hd6 p1.1 p2.1 p3.1, fun K hd p q e1 e2 => ?_⟩
    have k0 := (nx_iv K).1
    have k1 := ((rl_iv p1.1).2 k0).1
    have x1 := (ex_iv (k := 11) k1).1
    have k2 := ((rl_iv p2.1).2 x1).1
    have x2 := (ex_iv (k := 12) k2).1
    obtain ⟨pa, f1, f2⟩ := ad_in e2
    obtain ⟨pb, f3, f4⟩ := ex_in f1
    obtain ⟨pc, l3, f5, f6, f7, f8⟩ := cd_use p3 x2 (by omega) f3
    obtain ⟨pd, f9, f10⟩ := ex_in f5
    obtain ⟨pe, l2, f11, f12, f13, f14⟩ := cd_use p2 x1 (by omega) f9
    obtain ⟨pf, f15, f16⟩ := ex_in f11
    obtain ⟨pg, l1, f17, f18, f19, f20⟩ := cd_use p1 k0 (by omega) f15
    obtain ⟨ph, f21, f22⟩ := nx_in f17
    rw [e1] at f21
    cases f21
    rw [PhR_y (by omega)] at f8 f14 f20
    refine ⟨l1 ++ l2 ++ l3 ++ [3009], ?_, cdO_app (cdO_app (cdO_app f19 f13) f7) (cdO_1 (Or.inr ⟨by decide, by decide⟩)), ?_⟩
    · rw [f2, f4, f6, f10, f12, f16, f18, f22]; simp
    · rw [PhR_y (by omega)]
      refine ⟨ph_if (ph_mo f20.1 ?_) f14.1 f8.1 ?_, app_ne⟩
      · show 1 + 5 * (6 - (d + 1)) + 5 ≤ 1 + 5 * (6 - d) + 0; omega
      · show 1 + 5 * (6 - (d + 1)) + 2 + 2 ≤ 1 + 5 * (6 - d) + 0; omega
  · intro d r e hd6
    exact ⟨c7 d r e hd6, fun K hd p q e1 e2 => (fl_in e2).elim⟩
  · intro d r e1 e2 e3
    exact ⟨c8 d r e1 e2 e3, fun K hd p q e1 e2 => (fl_in e2).elim⟩
  · intro d r r1 e hd6 p1
    refine ⟨c9 d r r1 e hd6 p1.1, fun K hd p q e1 e2 => ?_⟩
    obtain ⟨pa, f1, f2⟩ := ad_in e2
    obtain ⟨pb, l1, f3, f4, f5, f6⟩ := cd_use p1 (nx_iv K).1 (by omega) f1
    obtain ⟨pd, f7, f8⟩ := nx_in f3
    rw [e1] at f7
    cases f7
    rw [PhR_y (by omega)] at f6
    refine ⟨l1 ++ [3006], by rw [f2, f4, f8]; simp, cdO_app f5 (cdO_1 (Or.inr ⟨by decide, by decide⟩)), ?_⟩
    rw [PhR_y (by omega)]
    exact ⟨ph_mo (ph_not f6.1) (by show 1 + 5 * (6 - (d + 1)) + 3 ≤ 1 + 5 * (6 - d) + 3; omega), app_ne⟩
  · intro d r r1 e hd6 p1
    refine ⟨c10 d r r1 e hd6 p1.1, fun K hd p q e1 e2 => ?_⟩
    obtain ⟨pa, f1, f2⟩ := ex_in e2
    obtain ⟨pb, l1, f3, f4, f5, f6⟩ := cd_use p1 (nx_iv K).1 (by omega) f1
    obtain ⟨pd, f7, f8⟩ := nx_in f3
    rw [e1] at f7
    cases f7
    rw [PhR_y (by omega)] at f6
    refine ⟨l1, by rw [f2, f4, f8], f5, ?_⟩
    rw [PhR_y (by omega)]
    exact ⟨ph_mo f6.1 (by show 1 + 5 * (6 - (d + 1)) + 5 ≤ 1 + 5 * (6 - d) + 3; omega), f6.2⟩
  · intro d r e hd6
    exact ⟨c11 d r e hd6, fun K hd p q e1 e2 => (fl_in e2).elim⟩
  · intro d r r1 r2 e1 e2 p1 p2
    refine ⟨c12 d r r1 r2 e1 e2 p1.1 p2.1, fun K hd p q e3 e4 => ?_⟩
    have k1 := ((rl_iv p1.1).2 K).1
    have x1 := (cm_iv k1).1
    obtain ⟨pa, f1, f2⟩ := ad_in e4
    obtain ⟨pb, l2, f3, f4, f5, f6⟩ := cd_use p2 x1 hd f1
    obtain ⟨pc, f7, f8⟩ := cm_in f3
    obtain ⟨pd, l1, f9, f10, f11, f12⟩ := cd_use p1 K hd f7
    rw [e3] at f9
    cases f9
    rw [PhR_y (by omega)] at f6 f12
    obtain ⟨t1, t2⟩ := b2_cc r1
    refine ⟨l1 ++ l2 ++ [ccR r1], ?_, cdO_app (cdO_app f11 f5) (cdO_1 (Or.inr t2)), ?_⟩
    · rw [f2, f4, f8, f10]; simp
    · rw [PhR_y (by omega)]
      refine ⟨ph_cmp (ph_mo f12.1 ?_) f6.1 t1 ?_, app_ne⟩
      · show 1 + 5 * (6 - d) + 2 ≤ 1 + 5 * (6 - d) + 3; omega
      · show 1 + 5 * (6 - d) + 2 + 1 ≤ 1 + 5 * (6 - d) + 3; omega
