/-! the codes that the rules leave are whole -/
def rkB (W : Nat → Int32) (m : Nat) : List Int32 → List Int32 → Prop
  | [], st => st.length ≤ m
  | c :: cs, st => st.length ≤ m ∧ ∃ s, rkStep W c st = some s ∧ rkB W m cs s
theorem rk_app (W : Nat → Int32) : ∀ (a c st : List Int32), rkRun W (a ++ c) st = (rkRun W a st).bind (rkRun W c)
  | [], c, st => rfl
  | x :: a, c, st => by
    show (rkStep W x st).bind (rkRun W (a ++ c)) = ((rkStep W x st).bind (rkRun W a)).bind (rkRun W c)
    cases rkStep W x st with
    | none => rfl
    | some s => exact rk_app W a c s
theorem rkB_app {W : Nat → Int32} {m : Nat} : ∀ {a c st s : List Int32}, rkRun W a st = some s → rkB W m a st → rkB W m c s → rkB W m (a ++ c) st
  | [], c, st, s, h1, h2, h3 => by cases h1; exact h3
  | x :: a, c, st, s, h1, ⟨h2, s1, e1, h4⟩, h3 => by
    have h1 : (rkStep W x st).bind (rkRun W a) = some s := h1
    rw [e1] at h1
    exact ⟨h2, s1, e1, rkB_app (a := a) h1 h4 h3⟩
def cds (l : List Nat) : List Int32 := l.map nI
theorem cds_app (a c : List Nat) : cds (a ++ c) = cds a ++ cds c := List.map_append
def PhW (g : Nat) (l : List Nat) : Prop := ∀ (W : Nat → Int32) (st : List Int32) (m : Nat), st.length + g ≤ m → ∃ v, rkRun W (cds l) st = some (v :: st) ∧ rkB W m (cds l) st
def PhL (g : Nat) (l : List Nat) : Prop := ∀ (W : Nat → Int32) (x : Int32) (st : List Int32) (m : Nat), st.length + g ≤ m → ∃ v, rkRun W (cds l) (x :: st) = some (v :: st) ∧ rkB W m (cds l) (x :: st)
theorem ph_mo {g g1 : Nat} {l : List Nat} (h : PhW g l) (hg : g ≤ g1) : PhW g1 l := fun W st m hm => h W st m (by omega)
theorem ph_app {g : Nat} {a c : List Nat} (h1 : PhW g a) (h2 : PhL g c) : PhW g (a ++ c) := fun W st m hm => by
  obtain ⟨v, e1, b1⟩ := h1 W st m hm
  obtain ⟨u, e2, b2⟩ := h2 W v st m hm
  refine ⟨u, ?_, ?_⟩
  · rw [cds_app, rk_app, e1]; exact e2
  · rw [cds_app]; exact rkB_app e1 b1 b2
theorem ph_nil {g : Nat} (h : 1 ≤ g) : PhL g [] := fun W x st m hm => ⟨x, rfl, by show st.length + 1 ≤ m; omega⟩
/-- a code of two -/
def bin2 (c : Nat) : Prop := ¬ ¬ (3000 : Int32) ≤ nI c ∧ ¬ nI c = 3006 ∧ ¬ nI c = 3009
theorem b2_st {W : Nat → Int32} {c : Nat} {y x : Int32} {s : List Int32} (h : bin2 c) : ∃ v, rkStep W (nI c) (y :: x :: s) = some (v :: s) := by
  unfold rkStep
  rw [if_neg h.1, if_neg h.2.1, if_neg h.2.2]
  exact ⟨_, rfl⟩
theorem rkB_len {W : Nat → Int32} {m : Nat} : ∀ {a st s : List Int32}, rkRun W a st = some s → rkB W m a st → s.length ≤ m
  | [], st, s, h1, h2 => by cases h1; exact h2
  | x :: a, st, s, h1, ⟨h2, s1, e1, h4⟩ => by
    have h1 : (rkStep W x st).bind (rkRun W a) = some s := h1
    rw [e1] at h1
    exact rkB_len (a := a) h1 h4
theorem ph_go {g g1 c : Nat} {a l : List Nat} (h1 : PhW g1 a) (hc : bin2 c) (h2 : PhL g l) (hg : g1 + 1 ≤ g) : PhL g (a ++ [c] ++ l) := fun W x st m hm => by
  obtain ⟨v, e1, b1⟩ := h1 W (x :: st) m (by show st.length + 1 + g1 ≤ m; omega)
  obtain ⟨u, e2⟩ := b2_st (W := W) (y := v) (x := x) (s := st) hc
  obtain ⟨z, e3, b3⟩ := h2 W u st m hm
  have l1 := rkB_len e1 b1
  refine ⟨z, ?_, ?_⟩
  · rw [cds_app, cds_app, List.append_assoc, rk_app, e1]
    show (rkStep W (nI c) (v :: x :: st)).bind (rkRun W (cds l)) = _
    rw [e2]; exact e3
  · rw [cds_app, cds_app, List.append_assoc]
    exact rkB_app e1 b1 ⟨l1, _, e2, b3⟩
theorem ph_one {c : Nat} (h : ¬ (3000 : Int32) ≤ nI c) : PhW 1 [c] := fun W st m hm => by
  refine ⟨if 1000 ≤ nI c then W (nI c - 1000).toNatClampNeg else nI c, ?_, by omega, _, if_pos h, by show st.length + 1 ≤ m; omega⟩
  show (rkStep W (nI c) st).bind (rkRun W []) = _
  unfold rkStep
  rw [if_pos h]; rfl
theorem ph_not {g : Nat} {a : List Nat} (h1 : PhW g a) : PhW g (a ++ [3006]) := fun W st m hm => by
  obtain ⟨v, e1, b1⟩ := h1 W st m hm
  have l1 := rkB_len e1 b1
  have e2 : rkStep W (nI 3006) (v :: st) = some ((1 - v) :: st) := by
    unfold rkStep
    rw [if_neg (by decide), if_pos (by decide)]
  refine ⟨1 - v, ?_, ?_⟩
  · rw [cds_app, rk_app, e1]
    show (rkStep W (nI 3006) (v :: st)).bind (rkRun W []) = _
    rw [e2]; rfl
  · rw [cds_app]
    exact rkB_app e1 b1 ⟨l1, _, e2, l1⟩
theorem ph_cmp {g g1 c : Nat} {a l : List Nat} (h1 : PhW g a) (h2 : PhW g1 l) (hc : bin2 c) (hg : g1 + 1 ≤ g) : PhW g (a ++ l ++ [c]) := fun W st m hm => by
  obtain ⟨v, e1, b1⟩ := h1 W st m hm
  obtain ⟨u, e2, b2⟩ := h2 W (v :: st) m (by show st.length + 1 + g1 ≤ m; omega)
  obtain ⟨z, e3⟩ := b2_st (W := W) (y := u) (x := v) (s := st) hc
  have l1 := rkB_len e1 b1
  have l2 := rkB_len e2 b2
  refine ⟨z, ?_, ?_⟩
  · rw [cds_app, cds_app, List.append_assoc, rk_app, e1]
    show rkRun W (cds l ++ cds [c]) (v :: st) = _
    rw [rk_app, e2]
    show (rkStep W (nI c) (u :: v :: st)).bind (rkRun W []) = _
    rw [e3]; rfl
  · rw [cds_app, cds_app, List.append_assoc]
    exact rkB_app e1 b1 (rkB_app e2 b2 ⟨l2, _, e3, l1⟩)
theorem ph_if {g g1 : Nat} {a l q : List Nat} (h1 : PhW g a) (h2 : PhW g1 l) (h3 : PhW g1 q) (hg : g1 + 2 ≤ g) : PhW g (a ++ l ++ q ++ [3009]) := fun W st m hm => by
  obtain ⟨v, e1, b1⟩ := h1 W st m hm
  obtain ⟨u, e2, b2⟩ := h2 W (v :: st) m (by show st.length + 1 + g1 ≤ m; omega)
  obtain ⟨z, e3, b3⟩ := h3 W (u :: v :: st) m (by show st.length + 1 + 1 + g1 ≤ m; omega)
  have l1 := rkB_len e1 b1
  have l3 := rkB_len e3 b3
  have e4 : rkStep W (nI 3009) (z :: u :: v :: st) = some ((if v = 1 then u else z) :: st) := by
    unfold rkStep
    rw [if_neg (by decide), if_neg (by decide), if_pos (by decide)]
  refine ⟨if v = 1 then u else z, ?_, ?_⟩
  · rw [cds_app, cds_app, cds_app, List.append_assoc, List.append_assoc, rk_app, e1]
    show rkRun W (cds l ++ (cds q ++ cds [3009])) (v :: st) = _
    rw [rk_app, e2]
    show rkRun W (cds q ++ cds [3009]) (u :: v :: st) = _
    rw [rk_app, e3]
    show (rkStep W (nI 3009) (z :: u :: v :: st)).bind (rkRun W []) = _
    rw [e4]; rfl
  · rw [cds_app, cds_app, cds_app, List.append_assoc, List.append_assoc]
    exact rkB_app e1 b1 (rkB_app e2 b2 (rkB_app e3 b3 ⟨l3, _, e4, l1⟩))
