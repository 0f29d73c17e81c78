/-! the rules of reading a law, pure -/
abbrev Rs : Type := ((Nat × Nat × Nat × Nat) × List Nat) ⊕ (Nat × Nat)
def kdR : Rs → Nat
  | .inl p => p.1.2.2.1
  | .inr _ => 99
def nxR (b : Nat → Nat) (n : Nat) : Rs → Rs
  | .inl p => .inl (tok b n p.1.2.1, p.2)
  | .inr x => .inr x
def flR (k : Nat) : Rs → Rs
  | .inl p => .inr (if p.1.2.2.1 = 25 then 1 else k, p.1.1)
  | .inr x => .inr x
def adR (c : Nat) : Rs → Rs
  | .inl p => .inl (p.1, p.2 ++ [c])
  | .inr x => .inr x
def exR (b : Nat → Nat) (n k : Nat) (r : Rs) : Rs := if kdR r = k then nxR b n r else flR 2 r
def lvR (n : Nat) : Rs → Nat
  | .inl p => p.1.1
  | .inr _ => n
def lnR : Rs → Nat
  | .inl p => p.2.length
  | .inr _ => 0
def ROK (b : Nat → Nat) (n : Nat) : Rs → Prop
  | .inl p => TkOK b n p.1 ∧ p.2.length ≤ p.1.1
  | .inr x => 0 < x.1 ∧ x.1 < 5
/-- an atom that is one token: its code -/
def acR : Rs → Option Nat
  | .inl p => if p.1.2.2.1 = 23 then some p.1.2.2.2 else if p.1.2.2.1 = 14 then some 1000 else if p.1.2.2.1 = 15 then some 1001 else if p.1.2.2.1 = 16 then some 1002 else if p.1.2.2.1 = 5 then some 1003 else if p.1.2.2.1 = 1 then some 1004 else none
  | .inr _ => none
/-- the loops: which token goes on, with which code, over what -/
def lkR (w k : Nat) : Bool := if w = 11 then k == 17 else if w = 13 then k == 32 || k == 33 else if w = 14 then k == 34 else if w = 15 then k == 18 else false
def lcR (w k : Nat) : Nat := if w = 11 then 3007 else if w = 13 then (if k = 32 then 3000 else 3001) else if w = 14 then 3002 else 3008
def suR (w : Nat) : Nat := if w = 11 then 6 else if w = 13 then 4 else if w = 14 then 0 else 1
def cmR (b : Nat → Nat) (n : Nat) (r : Rs) : Rs := if kdR r = 39 ∨ kdR r = 40 ∨ kdR r = 41 then nxR b n r else flR 2 r
def ccR (r : Rs) : Nat := if kdR r = 39 then 3003 else if kdR r = 40 then 3004 else 3005
def RlC (b : Nat → Nat) (n : Nat) (P : Nat → Nat → Rs → Rs → Prop) : Prop :=
  (∀ w d r, w = 11 ∨ w = 13 ∨ w = 14 ∨ w = 15 → lkR w (kdR r) = false → P w d r r) ∧
  (∀ w d r r1 r2, w = 11 ∨ w = 13 ∨ w = 14 ∨ w = 15 → lkR w (kdR r) = true → P (suR w) d (nxR b n r) r1 → P w d (adR (lcR w (kdR r)) r1) r2 → P w d r r2) ∧
  (∀ w d r r1 r2, w = 1 ∨ w = 3 ∨ w = 4 ∨ w = 5 → P (suR (w + 10)) d r r1 → P (w + 10) d r1 r2 → P w d r r2) ∧
  (∀ d r c, acR r = some c → P 0 d r (adR c (nxR b n r))) ∧
  (∀ d r r1, kdR r = 35 → d < 6 → P 3 (d + 1) (nxR b n r) r1 → P 0 d r (exR b n 36 r1)) ∧
  (∀ d r r1 r2 r3, kdR r = 10 → d < 6 → P 5 (d + 1) (nxR b n r) r1 → P 3 (d + 1) (exR b n 11 r1) r2 → P 3 (d + 1) (exR b n 12 r2) r3 → P 0 d r (adR 3009 (exR b n 13 r3))) ∧
  (∀ d r, kdR r = 35 ∨ kdR r = 10 → d = 6 → P 0 d r (flR 4 r)) ∧
  (∀ d r, acR r = none → kdR r ≠ 35 → kdR r ≠ 10 → P 0 d r (flR 2 r)) ∧
  (∀ d r r1, kdR r = 19 → d < 6 → P 6 (d + 1) (nxR b n r) r1 → P 6 d r (adR 3006 r1)) ∧
  (∀ d r r1, kdR r = 37 → d < 6 → P 5 (d + 1) (nxR b n r) r1 → P 6 d r (exR b n 38 r1)) ∧
  (∀ d r, kdR r = 19 ∨ kdR r = 37 → d = 6 → P 6 d r (flR 4 r)) ∧
  (∀ d r r1 r2, kdR r ≠ 19 → kdR r ≠ 37 → P 3 d r r1 → P 3 d (cmR b n r1) r2 → P 6 d r (adR (ccR r1) r2))
def Rl (b : Nat → Nat) (n w d : Nat) (r r1 : Rs) : Prop := ∀ P : Nat → Nat → Rs → Rs → Prop, RlC b n P → P w d r r1
theorem rl_C (b : Nat → Nat) (n : Nat) : RlC b n (Rl b n) := by
  refine ⟨?_, ?_, ?_, ?_, ?_, ?_, ?_, ?_, ?_, ?_, ?_, ?_⟩
  · intro w d r hw h P c; exact c.1 w d r hw h
  · intro w d r r1 r2 hw h p1 p2 P c; exact c.2.1 w d r r1 r2 hw h (p1 P c) (p2 P c)
  · intro w d r r1 r2 hw p1 p2 P c; exact c.2.2.1 w d r r1 r2 hw (p1 P c) (p2 P c)
  · intro d r c h P z; exact z.2.2.2.1 d r c h
  · intro d r r1 h hd p P c; exact c.2.2.2.2.1 d r r1 h hd (p P c)
  · intro d r r1 r2 r3 h hd p1 p2 p3 P c; exact c.2.2.2.2.2.1 d r r1 r2 r3 h hd (p1 P c) (p2 P c) (p3 P c)
  · intro d r h hd P c; exact c.2.2.2.2.2.2.1 d r h hd
  · intro d r h h1 h2 P c; exact c.2.2.2.2.2.2.2.1 d r h h1 h2
  · intro d r r1 h hd p P c; exact c.2.2.2.2.2.2.2.2.1 d r r1 h hd (p P c)
  · intro d r r1 h hd p P c; exact c.2.2.2.2.2.2.2.2.2.1 d r r1 h hd (p P c)
  · intro d r h hd P c; exact c.2.2.2.2.2.2.2.2.2.2.1 d r h hd
  · intro d r r1 r2 h h2 p1 p2 P c; exact c.2.2.2.2.2.2.2.2.2.2.2 d r r1 r2 h h2 (p1 P c) (p2 P c)
/-! how far they go, how many codes they leave -/
theorem rok_le {b : Nat → Nat} {n : Nat} {r : Rs} (h : ROK b n r) : lnR r ≤ lvR n r ∧ lvR n r ≤ n := by
  rcases r with ⟨t, cs⟩ | ⟨w, a⟩
  · exact ⟨h.2, Nat.le_trans h.1.1 h.1.2.1⟩
  · exact ⟨Nat.zero_le _, Nat.le_refl _⟩
theorem nx_iv {b : Nat → Nat} {n : Nat} {r : Rs} (h : ROK b n r) : ROK b n (nxR b n r) ∧ lnR (nxR b n r) = lnR r ∧ lvR n r ≤ lvR n (nxR b n r) ∧ (kdR r ≠ 24 → kdR r ≠ 99 → lvR n r + 1 ≤ lvR n (nxR b n r)) := by
  rcases r with ⟨t, cs⟩ | ⟨w, a⟩
  · obtain ⟨k1, k2⟩ := tok_ok (b := b) (n := n) (pos := t.2.1) h.1.2.1
    have h1 : t.1 ≤ t.2.1 := h.1.1
    have h2 : cs.length ≤ t.1 := h.2
    have h3 : t.2.2.1 ≠ 24 → t.1 < t.2.1 := h.1.2.2.2.1
    refine ⟨⟨k1, Nat.le_trans h2 (Nat.le_trans h1 k2)⟩, rfl, Nat.le_trans h1 k2, fun q _ => ?_⟩
    have := h3 q
    show t.1 + 1 ≤ (tok b n t.2.1).1
    omega
  · exact ⟨h, rfl, Nat.le_refl _, fun _ q => absurd rfl q⟩
theorem fl_iv {b : Nat → Nat} {n k : Nat} {r : Rs} (h : ROK b n r) (h1 : 0 < k) (h2 : k < 5) : ROK b n (flR k r) ∧ lnR (flR k r) ≤ lnR r ∧ lvR n r ≤ lvR n (flR k r) := by
  have l := rok_le h
  rcases r with ⟨t, cs⟩ | ⟨w, a⟩
  · refine ⟨?_, Nat.zero_le _, l.2⟩
    show 0 < (if t.2.2.1 = 25 then 1 else k) ∧ (if t.2.2.1 = 25 then 1 else k) < 5
    split <;> omega
  · exact ⟨h, Nat.le_refl _, Nat.le_refl _⟩
theorem ex_iv {b : Nat → Nat} {n k : Nat} {r : Rs} (h : ROK b n r) : ROK b n (exR b n k r) ∧ lnR (exR b n k r) ≤ lnR r ∧ lvR n r ≤ lvR n (exR b n k r) := by
  unfold exR
  split
  · have := nx_iv h
    exact ⟨this.1, Nat.le_of_eq this.2.1, this.2.2.1⟩
  · exact fl_iv h (by omega) (by omega)
theorem cm_iv {b : Nat → Nat} {n : Nat} {r : Rs} (h : ROK b n r) : ROK b n (cmR b n r) ∧ lnR (cmR b n r) ≤ lnR r ∧ (lvR n r + 1 ≤ lvR n (cmR b n r) ∨ ∃ x, cmR b n r = .inr x) := by
  unfold cmR
  split
  · rename_i q
    have := nx_iv h
    exact ⟨this.1, Nat.le_of_eq this.2.1, Or.inl (this.2.2.2 (by omega) (by omega))⟩
  · have := fl_iv h (k := 2) (by omega) (by omega)
    refine ⟨this.1, this.2.1, Or.inr ?_⟩
    rcases r with ⟨t, cs⟩ | ⟨w, a⟩
    · exact ⟨_, rfl⟩
    · exact ⟨_, rfl⟩
theorem ad_iv {b : Nat → Nat} {n c : Nat} {r : Rs} (h : ROK b n r) (h1 : lnR r + 1 ≤ lvR n r ∨ ∃ x, r = .inr x) : ROK b n (adR c r) ∧ lnR (adR c r) ≤ lnR r + 1 ∧ lvR n (adR c r) = lvR n r := by
  rcases r with ⟨t, cs⟩ | ⟨w, a⟩
  · have h1 : cs.length + 1 ≤ t.1 := by
      rcases h1 with q | ⟨x, q⟩
      · exact q
      · cases q
    refine ⟨⟨h.1, ?_⟩, ?_, rfl⟩
    · rw [List.length_append]; exact h1
    · show (cs ++ [c]).length ≤ cs.length + 1
      rw [List.length_append]; exact Nat.le_refl _
  · exact ⟨h, Nat.zero_le _, rfl⟩
def IvR (b : Nat → Nat) (n : Nat) (r r1 : Rs) : Prop := ROK b n r → ROK b n r1 ∧ lvR n r ≤ lvR n r1 ∧ lnR r1 + lvR n r ≤ lnR r + lvR n r1
def BdR (r r1 : Rs) : Prop := ∀ x, r = .inr x → r1 = .inr x
theorem lk_kd {w k : Nat} (h : lkR w k = true) : k ≠ 24 ∧ k ≠ 99 := by
  unfold lkR at h
  constructor
  · rintro rfl
    revert h
    split <;> (try split) <;> (try split) <;> (try split) <;> simp
  · rintro rfl
    revert h
    split <;> (try split) <;> (try split) <;> (try split) <;> simp
theorem ac_kd {r : Rs} {c : Nat} (h : acR r = some c) : kdR r ≠ 24 ∧ kdR r ≠ 99 ∧ ∃ p, r = .inl p := by
  rcases r with ⟨t, cs⟩ | x
  · refine ⟨?_, ?_, ⟨_, rfl⟩⟩
    · intro z
      have z : t.2.2.1 = 24 := z
      simp [acR, z] at h
    · intro z
      have z : t.2.2.1 = 99 := z
      simp [acR, z] at h
  · simp [acR] at h
theorem kd_bd {r : Rs} {x : Nat × Nat} (h : r = .inr x) : kdR r = 99 := by rw [h]; rfl
theorem rl_iv {b : Nat → Nat} {n w d : Nat} {r r1 : Rs} (h : Rl b n w d r r1) : BdR r r1 ∧ IvR b n r r1 := by
  refine h (fun _ _ r r1 => BdR r r1 ∧ IvR b n r r1) ⟨?_, ?_, ?_, ?_, ?_, ?_, ?_, ?_, ?_, ?_, ?_, ?_⟩
  · intro w d r hw h
    exact ⟨fun x q => q, fun k => ⟨k, Nat.le_refl _, Nat.le_refl _⟩⟩
  · intro w d r r1 r2 hw h p1 p2
    refine ⟨fun x q => absurd (kd_bd q) (lk_kd h).2, fun k => ?_⟩
    have a := nx_iv k
    obtain ⟨q1, q2⟩ := lk_kd h
    have a4 := a.2.2.2 q1 q2
    obtain ⟨b1, b2, b3⟩ := p1.2 a.1
    have l := rok_le k
    obtain ⟨c1, c2, c3⟩ := ad_iv (c := lcR w (kdR r)) b1 (Or.inl (by omega))
    obtain ⟨d1, d2, d3⟩ := p2.2 c1
    exact ⟨d1, by omega, by omega⟩
  · intro w d r r1 r2 hw p1 p2
    refine ⟨fun x q => p2.1 x (p1.1 x q), fun k => ?_⟩
    obtain ⟨b1, b2, b3⟩ := p1.2 k
    obtain ⟨d1, d2, d3⟩ := p2.2 b1
    exact ⟨d1, by omega, by omega⟩
  · intro d r c h
    refine ⟨fun x q => absurd (kd_bd q) (ac_kd h).2.1, fun k => ?_⟩
    obtain ⟨q1, q2, _⟩ := ac_kd h
    have a := nx_iv k
    have a4 := a.2.2.2 q1 q2
    have l := rok_le k
    obtain ⟨c1, c2, c3⟩ := ad_iv (c := c) a.1 (Or.inl (by omega))
    exact ⟨c1, by omega, by omega⟩
  · intro d r r1 h hd p
    refine ⟨fun x q => absurd (kd_bd q) (by omega), fun k => ?_⟩
    have a := nx_iv k
    obtain ⟨b1, b2, b3⟩ := p.2 a.1
    obtain ⟨c1, c2, c3⟩ := ex_iv (k := 36) b1
    exact ⟨c1, by omega, by omega⟩
  · intro d r r1 r2 r3 h hd p1 p2 p3
    refine ⟨fun x q => absurd (kd_bd q) (by omega), fun k => ?_⟩
    have a := nx_iv k
    have a4 := a.2.2.2 (by omega) (by omega)
    obtain ⟨b1, b2, b3⟩ := p1.2 a.1
    obtain ⟨c1, c2, c3⟩ := ex_iv (k := 11) b1
    obtain ⟨d1, d2, d3⟩ := p2.2 c1
    obtain ⟨e1, e2, e3⟩ := ex_iv (k := 12) d1
    obtain ⟨f1, f2, f3⟩ := p3.2 e1
    obtain ⟨g1, g2, g3⟩ := ex_iv (k := 13) f1
    have l := rok_le k
    obtain ⟨i1, i2, i3⟩ := ad_iv (c := 3009) g1 (Or.inl (by omega))
    exact ⟨i1, by omega, by omega⟩
  · intro d r h hd
    refine ⟨fun x q => absurd (kd_bd q) (by omega), fun k => ?_⟩
    obtain ⟨c1, c2, c3⟩ := fl_iv (k := 4) k (by omega) (by omega)
    exact ⟨c1, by omega, by omega⟩
  · intro d r h h1 h2
    refine ⟨fun x q => by rw [q]; rfl, fun k => ?_⟩
    obtain ⟨c1, c2, c3⟩ := fl_iv (k := 2) k (by omega) (by omega)
    exact ⟨c1, by omega, by omega⟩
  · intro d r r1 h hd p
    refine ⟨fun x q => absurd (kd_bd q) (by omega), fun k => ?_⟩
    have a := nx_iv k
    have a4 := a.2.2.2 (by omega) (by omega)
    obtain ⟨b1, b2, b3⟩ := p.2 a.1
    have l := rok_le k
    obtain ⟨i1, i2, i3⟩ := ad_iv (c := 3006) b1 (Or.inl (by omega))
    exact ⟨i1, by omega, by omega⟩
  · intro d r r1 h hd p
    refine ⟨fun x q => absurd (kd_bd q) (by omega), fun k => ?_⟩
    have a := nx_iv k
    obtain ⟨b1, b2, b3⟩ := p.2 a.1
    obtain ⟨c1, c2, c3⟩ := ex_iv (k := 38) b1
    exact ⟨c1, by omega, by omega⟩
  · intro d r h hd
    refine ⟨fun x q => absurd (kd_bd q) (by omega), fun k => ?_⟩
    obtain ⟨c1, c2, c3⟩ := fl_iv (k := 4) k (by omega) (by omega)
    exact ⟨c1, by omega, by omega⟩
  · intro d r r1 r2 h h2 p1 p2
    refine ⟨fun x q => by rw [p2.1 x (by rw [p1.1 x q]; rfl)]; rfl, fun k => ?_⟩
    obtain ⟨b1, b2, b3⟩ := p1.2 k
    obtain ⟨c1, c2, c3⟩ := cm_iv b1
    obtain ⟨d1, d2, d3⟩ := p2.2 c1
    have l := rok_le k
    have l1 := rok_le b1
    rcases c3 with q | ⟨x, q⟩
    · obtain ⟨i1, i2, i3⟩ := ad_iv (c := ccR r1) d1 (Or.inl (by omega))
      exact ⟨i1, by omega, by omega⟩
    · have lx : lvR n (cmR b n r1) = n := by rw [q]; rfl
      have ly : lnR (cmR b n r1) = 0 := by rw [q]; rfl
      have l2 := rok_le d1
      have q2 := p2.1 x q
      subst q2
      exact ⟨d1, by show lvR n r ≤ n; omega, by show 0 + lvR n r ≤ lnR r + n; omega⟩
