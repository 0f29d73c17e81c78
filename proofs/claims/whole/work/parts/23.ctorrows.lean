theorem woI : Cond.instanceMethod objectInit ∈ Wd := mW 29 (by decide +kernel) rfl
theorem woC : Cond.code objectInit ⟨#[0xb1]⟩ 1 none ∈ Wd := mW 30 (by decide +kernel) rfl
def uO (ci k : Nat) : String := match vwCl[ci]? with
  | some r => (r.2.1 k).1
  | none => ""
/-! CONSTRUCTORS: a world that grows -/
def nestC : List (String × Nat × MethodName) := [(RX11, 19, yX5_init), (RX5, 11, yX9_init), (RX5, 20, yX3_init), (RX11, 26, yX2_init), (RX11, 64, yX8_init), (RX11, 71, yX0_init), (RX11, 78, yX1_init), (RX11, 85, yX7_init), (RX11, 97, yX10_init)]
def KA (G : Gx) (U : State) : Prop := va_K G.1 vwCl (tyl G) U ∧ (∀ q ∈ nestC, va_Nw (.methodLinkNest q.1 q.2.1 q.2.2 RX11) U) ∧ va_AO RX2 U ∧ va_AO RX6 U ∧ va_AO RX10 U
theorem KA.moved {G : Gx} {s U : State} (hW : s.WarmedH U.vm) (h : KA G s) : KA G U :=
  ⟨va_K.moved hW.alike h.1, fun q hq => va_Nw.warmM hW (h.2.1 q hq), va_AO.moved hW.alike h.2.2.1, va_AO.moved hW.alike h.2.2.2.1, va_AO.moved hW.alike h.2.2.2.2⟩
theorem KA.same {G : Gx} {u U : State} (hv : U.vm = u.vm) (h : KA G u) : KA G U := by
  have ha : u.vm.Alike U.vm := by rw [hv]; exact Vm.Alike.refl _
  exact ⟨va_K.moved ha h.1, fun q hq => va_Nw.same rfl hv.symm (h.2.1 q hq), va_AO.moved ha h.2.2.1, va_AO.moved ha h.2.2.2.1, va_AO.moved ha h.2.2.2.2⟩
def rmA (d mc ms : Nat) : Room := { frames := d, cells := mc, slots := ms, locals := 64 * d }
theorem vd_iff {A : Nat → Prop} {ws : va_W} : va_D A ws ↔ ws.Pairwise (fun a b => a.1 ≠ b.1) ∧ ∀ x ∈ ws, A x.1 := by
  constructor
  · intro h
    refine ⟨?_, fun x hx => ?_⟩
    · rw [List.pairwise_iff_getElem]
      intro i j hi hj hij e
      have := h.1 i j _ _ (List.getElem?_eq_getElem hi) (List.getElem?_eq_getElem hj) e
      omega
    · obtain ⟨k, hk⟩ := List.getElem?_of_mem hx
      exact h.2 k x hk
  · intro h
    refine ⟨fun i j p q hi hj e => ?_, fun k q hk => h.2 q (List.mem_of_getElem? hk)⟩
    rw [List.pairwise_iff_getElem] at h
    obtain ⟨hi1, hi2⟩ := List.getElem?_eq_some_iff.mp hi
    obtain ⟨hj1, hj2⟩ := List.getElem?_eq_some_iff.mp hj
    rcases Nat.lt_trichotomy i j with c | c | c
    · exact absurd (by rw [hi2, hj2]; exact e) (h.1 i j hi1 hj1 c)
    · exact c
    · exact absurd (by rw [hi2, hj2]; exact e.symm) (h.1 j i hj1 hi1 c)
theorem vd_perm {A : Nat → Prop} {ws ws1 : va_W} (hp : ws.Perm ws1) (h : va_D A ws) : va_D A ws1 := by
  rw [vd_iff] at h ⊢
  exact ⟨(hp.pairwise_iff (fun h => Ne.symm h)).mp h.1, fun x hx => h.2 x (hp.mem_iff.mpr hx)⟩
theorem vp_mem {D : va_G} {cl : List vw_C} {ws : va_W} {H : Heap} : va_P D cl ws H ↔ ∀ x ∈ ws, va_at D cl x H := by
  constructor
  · intro h x hx
    obtain ⟨k, hk⟩ := List.getElem?_of_mem hx
    exact h k x hk
  · intro h k x hk
    exact h x (List.mem_of_getElem? hk)
theorem vp_perm {D : va_G} {cl : List vw_C} {ws ws1 : va_W} {H : Heap} (hp : ws.Perm ws1) (h : va_P D cl ws H) : va_P D cl ws1 H := by
  rw [vp_mem] at h ⊢
  exact fun x hx => h x (hp.mem_iff.mpr hx)
/-- behind a call over the last cell: the others, and what it made of that cell -/
theorem vd_call {A0 : Nat → Prop} {D : va_G} {cl : List vw_C} {ws w1 : va_W} {x : Nat × va_E} {H H1 : Heap} (hP : va_P D cl (ws ++ [x]) H) (hD : va_D A0 (ws ++ [x])) (hA : ∀ q, H.size ≤ q → A0 q)
    (hk : ∀ q : Nat, q < H.size → ¬ va_A [x] H.size q → H1[q]? = H[q]?) (hP1 : va_P D cl w1 H1) (hD1 : va_D (va_A [x] H.size) w1) : va_P D cl (ws ++ w1) H1 ∧ va_D A0 (ws ++ w1) := by
  rw [vd_iff] at hD hD1 ⊢
  rw [vp_mem] at hP hP1 ⊢
  have hap := List.pairwise_append.mp hD.1
  have out : ∀ y ∈ ws, y.1 < H.size ∧ ¬ va_A [x] H.size y.1 := by
    intro y hy
    have hl := (hP y (List.mem_append_left _ hy)).lt
    refine ⟨hl, fun h => ?_⟩
    rcases h with ⟨k, e, h⟩ | h
    · have : (y.1, e) ∈ [x] := List.mem_of_getElem? h
      rw [List.mem_singleton] at this
      exact hap.2.2 y hy x (List.mem_singleton.mpr rfl) (by rw [← this])
    · omega
  refine ⟨fun y hy => ?_, List.pairwise_append.mpr ⟨hap.1, hD1.1, fun y hy z hz e => ?_⟩, fun y hy => ?_⟩
  · rcases List.mem_append.mp hy with h | h
    · exact (hP y (List.mem_append_left _ h)).kept (hk y.1 (out y h).1 (out y h).2)
    · exact hP1 y h
  · exact (out y hy).2 (by rw [e]; exact hD1.2 z hz)
  · rcases List.mem_append.mp hy with h | h
    · exact hD.2 y (List.mem_append_left _ h)
    · rcases hD1.2 y h with ⟨k, e, h1⟩ | h1
      · have : (y.1, e) ∈ [x] := List.mem_of_getElem? h1
        rw [List.mem_singleton] at this
        have := hD.2 x (List.mem_append_right _ (List.mem_singleton.mpr rfl))
        rw [← ‹(y.1, e) = x›] at this
        exact this
      · exact hA _ h1
/-- THE JUDGEMENT in a constructor: cells ws, k of them and n slots made so far; A: which may change -/
def GoA (cc : ByteArray) (nL : Nat) (own nm : String) (d MC MS : Nat) (G : Gx) (A : Nat → Prop) (Qc : Array Value → State → Outcome → State → Prop) (pc : Nat) (lv : List (Nat × Value)) (st : List Value) (ws : va_W) (k n : Nat) : Prop :=
  ∀ (p : Program) (l : Launch) (e : Env) (s : State) (m : MethodId) (args : Array Value) (below : List Frame) (meth : Method) (c : Code) (H : Heap) (locs : List Loc) (ls : Array Slot),
    CallFix p m c cc nL s args Wd own → meth.sig.returnType = none → meth.locks = false → meth.name = nm → KA G s → va_P G.1 vwCl ws H → va_D A ws → va_S A s.heap H locs → (∀ q, s.heap.size ≤ q → A q) → lv_has ls nL lv →
    W p l e (rmA d MC MS) s m args below meth c H locs k n (MQ below Qc args s MC MS A) (F0 m pc ls st)
/-- the contract of a constructor: from a fresh object of class ci (fields fs) at a to the cells Wf u -/
def CtA (y : MethodName) (cc : ByteArray) (nL d MC MS : Nat) (G : Gx) (ci : Nat) (fs : List Value) {S : Type} (Wf : Nat → S → va_W) : Prop :=
  ∀ (l : Launch) (a sz : Nat), Met l y (wsD y cc nL none) (rmA d MC MS) (va_Pc [.ref a] (fun U => U.heap.size = sz ∧ va_P G.1 vwCl [(a, .inr (ci, fs))] U.heap ∧ KA G U)) (va_Qv (fun _ : S => True) (fun u t => va_P G.1 vwCl (Wf a u) t.heap ∧ va_D (va_A [(a, .inr (ci, fs))] sz) (Wf a u)) (va_A [(a, .inr (ci, fs))] sz)) MC MS (va_A [(a, .inr (ci, fs))] sz)
section AROWS
variable {cc : ByteArray} {nL : Nat} {own nm : String} {d MC MS : Nat} {G : Gx} {A : Nat → Prop} {Qc : Array Value → State → Outcome → State → Prop} {pc : Nat} {lv lv1 : List (Nat × Value)} {rest : List Value} {ws ws1 : va_W} {k n : Nat}
theorem cta_go {y : MethodName} {ci : Nat} {fs : List Value} {S : Type} {Wf : Nat → S → va_W} (hy : plainName y.cls = true) (hin : y.name = "<init>") (ho : y.cls = own) (hnL : 1 ≤ nL)
    (go : ∀ (a sz : Nat), GoA cc nL own "<init>" d MC MS G (va_A [(a, .inr (ci, fs))] sz) (va_Qv (fun _ : S => True) (fun u t => va_P G.1 vwCl (Wf a u) t.heap ∧ va_D (va_A [(a, .inr (ci, fs))] sz) (Wf a u)) (va_A [(a, .inr (ci, fs))] sz)) 0 [(0, .ref a)] [] [(a, .inr (ci, fs))] 0 0) : CtA y cc nL d MC MS G ci fs Wf := by
  intro l a sz
  subst ho
  refine met_of (cc := cc) (maxL := nL) (ret := none) (plainFor_of_name hy) rfl ?_
  intro p e s m args below meth c s₁ B hml hv
  obtain ⟨rfl, hsz, hP, hK⟩ := hv
  have hts := atoms_spec (ws := wsD y cc nL none) B.pre
  have hl := lv_entry [Value.ref a] (n := nL) hnL
  rw [lg_entry_eq]
  have hD0 : va_D (fun _ => True) [((a, .inr (ci, fs)) : Nat × va_E)] := vd_iff.mpr ⟨List.pairwise_singleton _ _, fun _ _ => trivial⟩
  subst hsz
  exact go a s.heap.size p l e s m _ below meth c s.heap [] _ ⟨B.exec, B.bytes, hml, findClass_of_methodNamed B.named, fun w hw => hts w (List.mem_cons_of_mem _ hw)⟩ B.returns B.notSynchronized (by rw [(name_of_methodNamed B.named B.method).1]; exact hin) hK hP hD0.self va_S.rf (fun q h => Or.inr h) hl
theorem a_aload_n {k4 : Fin 4} {i x : Nat} (hd : decode cc pc = .ok (.aload_n k4, 1)) (hi : (k4 : Nat) = i) (hv : lv.lookup i = some (.ref x)) (kk : GoA cc nL own nm d MC MS G A Qc (pc + 1) lv (.ref x :: rest) ws k n) : GoA cc nL own nm d MC MS G A Qc pc lv rest ws k n := by
  intro p l e s m args below meth c H locs ls C hr hk hin K hP hD hS hA hl
  exact lv_aload_n C.1 C.2.1 hd hi (lv_lk hl hv) (kk p l e s m args below meth c H locs ls C hr hk hin K hP hD hS hA hl)
theorem a_iload_n {k4 : Fin 4} {i : Nat} {x : Int32} (hd : decode cc pc = .ok (.iload_n k4, 1)) (hi : (k4 : Nat) = i) (hv : lv.lookup i = some (.int x)) (kk : GoA cc nL own nm d MC MS G A Qc (pc + 1) lv (.int x :: rest) ws k n) : GoA cc nL own nm d MC MS G A Qc pc lv rest ws k n := by
  intro p l e s m args below meth c H locs ls C hr hk hin K hP hD hS hA hl
  exact lv_iload_n C.1 C.2.1 hd hi (lv_lk hl hv) (kk p l e s m args below meth c H locs ls C hr hk hin K hP hD hS hA hl)
theorem a_istore_n {k4 : Fin 4} {i : Nat} {x : Int32} (hd : decode cc pc = .ok (.istore_n k4, 1)) (hi : (k4 : Nat) = i) (hn : i < nL) (hv : lv1s i (.int x) lv = lv1) (kk : GoA cc nL own nm d MC MS G A Qc (pc + 1) lv1 rest ws k n) : GoA cc nL own nm d MC MS G A Qc pc lv (.int x :: rest) ws k n := by
  intro p l e s m args below meth c H locs ls C hr hk hin K hP hD hS hA hl
  exact lv_istore_n C.1 C.2.1 hd hi hl hn rfl (fun ls1 hl1 => kk p l e s m args below meth c H locs ls1 C hr hk hin K hP hD hS hA (lv1s_has hl1 hv))
theorem a_iinc {i : Nat} {m0 : Int} {x v : Int32} (hd : decode cc pc = .ok (.iinc i m0, 3)) (hx : lv.lookup i = some (.int x)) (hw : x + Int32.ofInt m0 = v) (hn : i < nL) (hv : lv1s i (.int v) lv = lv1) (kk : GoA cc nL own nm d MC MS G A Qc (pc + 3) lv1 rest ws k n) : GoA cc nL own nm d MC MS G A Qc pc lv rest ws k n := by
  intro p l e s m args below meth c H locs ls C hr hk hin K hP hD hS hA hl
  obtain ⟨j, hj⟩ := lk_pos hx
  exact lv_iinc C.1 C.2.1 hd hl hj hw hn rfl (fun ls1 hl1 => kk p l e s m args below meth c H locs ls1 C hr hk hin K hP hD hS hA (lv1s_has hl1 hv))
theorem a_iconst {m0 : Int} {v : Int32} (hd : decode cc pc = .ok (.iconst m0, 1)) (hv : Int32.ofInt m0 = v) (kk : GoA cc nL own nm d MC MS G A Qc (pc + 1) lv (.int v :: rest) ws k n) : GoA cc nL own nm d MC MS G A Qc pc lv rest ws k n := by
  intro p l e s m args below meth c H locs ls C hr hk hin K hP hD hS hA hl
  exact lv_iconst C.1 C.2.1 hd hv (kk p l e s m args below meth c H locs ls C hr hk hin K hP hD hS hA hl)
theorem a_bipush {m0 : Int} {v : Int32} (hd : decode cc pc = .ok (.bipush m0, 2)) (hv : (Int8.ofInt m0).toInt32 = v) (kk : GoA cc nL own nm d MC MS G A Qc (pc + 2) lv (.int v :: rest) ws k n) : GoA cc nL own nm d MC MS G A Qc pc lv rest ws k n := by
  intro p l e s m args below meth c H locs ls C hr hk hin K hP hD hS hA hl
  exact lv_bipush C.1 C.2.1 hd hv (kk p l e s m args below meth c H locs ls C hr hk hin K hP hD hS hA hl)
theorem a_sipush {m0 : Int} {v : Int32} (hd : decode cc pc = .ok (.sipush m0, 3)) (hv : (Int16.ofInt m0).toInt32 = v) (kk : GoA cc nL own nm d MC MS G A Qc (pc + 3) lv (.int v :: rest) ws k n) : GoA cc nL own nm d MC MS G A Qc pc lv rest ws k n := by
  intro p l e s m args below meth c H locs ls C hr hk hin K hP hD hS hA hl
  exact lv_sipush C.1 C.2.1 hd hv (kk p l e s m args below meth c H locs ls C hr hk hin K hP hD hS hA hl)
theorem a_lconst {m0 : Fin 2} {v : Int64} (hd : decode cc pc = .ok (.lconst m0, 1)) (hv : Int64.ofNat (m0 : Nat) = v) (kk : GoA cc nL own nm d MC MS G A Qc (pc + 1) lv (.long v :: rest) ws k n) : GoA cc nL own nm d MC MS G A Qc pc lv rest ws k n := by
  intro p l e s m args below meth c H locs ls C hr hk hin K hP hD hS hA hl
  exact lv_lconst C.1 C.2.1 hd hv (kk p l e s m args below meth c H locs ls C hr hk hin K hP hD hS hA hl)
theorem a_null (hd : decode cc pc = .ok (.aconst_null, 1)) (kk : GoA cc nL own nm d MC MS G A Qc (pc + 1) lv (.null :: rest) ws k n) : GoA cc nL own nm d MC MS G A Qc pc lv rest ws k n := by
  intro p l e s m args below meth c H locs ls C hr hk hin K hP hD hS hA hl
  exact lv_null C.1 C.2.1 hd (kk p l e s m args below meth c H locs ls C hr hk hin K hP hD hS hA hl)
theorem a_dup {va : Value} (hd : decode cc pc = .ok (.dup, 1)) (hva : va.category = 1) (kk : GoA cc nL own nm d MC MS G A Qc (pc + 1) lv (va :: va :: rest) ws k n) : GoA cc nL own nm d MC MS G A Qc pc lv (va :: rest) ws k n := by
  intro p l e s m args below meth c H locs ls C hr hk hin K hP hD hS hA hl
  exact lv_dup C.1 C.2.1 hd hva (kk p l e s m args below meth c H locs ls C hr hk hin K hP hD hS hA hl)
theorem a_goto {off : Int} (tgt : Nat) (hd : decode cc pc = .ok (.goto off, 3)) (ht : (pc : Int) + off = (tgt : Int)) (kk : GoA cc nL own nm d MC MS G A Qc tgt lv rest ws k n) : GoA cc nL own nm d MC MS G A Qc pc lv rest ws k n := by
  intro p l e s m args below meth c H locs ls C hr hk hin K hP hD hS hA hl
  exact lv_goto C.1 C.2.1 hd ht (kk p l e s m args below meth c H locs ls C hr hk hin K hP hD hS hA hl)
theorem a_icmp_ge {x y : Int32} {off : Int} (tgt : Nat) (hd : decode cc pc = .ok (.if_icmp .ge off, 3)) (ht : (pc : Int) + off = (tgt : Int)) (kt : y ≤ x → GoA cc nL own nm d MC MS G A Qc tgt lv rest ws k n) (kf : ¬ y ≤ x → GoA cc nL own nm d MC MS G A Qc (pc + 3) lv rest ws k n) : GoA cc nL own nm d MC MS G A Qc pc lv (.int y :: .int x :: rest) ws k n := by
  intro p l e s m args below meth c H locs ls C hr hk hin K hP hD hS hA hl
  exact lv_icmp_ge C.1 C.2.1 hd ht (fun q => kt q p l e s m args below meth c H locs ls C hr hk hin K hP hD hS hA hl) (fun q => kf q p l e s m args below meth c H locs ls C hr hk hin K hP hD hS hA hl)
theorem a_perm (hp : ws.Perm ws1) (kk : GoA cc nL own nm d MC MS G A Qc pc lv rest ws1 k n) : GoA cc nL own nm d MC MS G A Qc pc lv rest ws k n := by
  intro p l e s m args below meth c H locs ls C hr hk hin K hP hD hS hA hl
  exact kk p l e s m args below meth c H locs ls C hr hk hin K (vp_perm hp hP) (vd_perm hp hD) hS hA hl
theorem a_obj {x index : Nat} (hd : decode cc pc = .ok (.invokespecial index, 3)) (hw : Cond.methodLink own index objectInit ∈ Wd) (hdep : 1 ≤ d) (hrest : (rest.map fun v => v.category).sum + 12 ≤ 64) (kk : GoA cc nL own nm d MC MS G A Qc (pc + 3) lv rest ws k n) : GoA cc nL own nm d MC MS G A Qc pc lv (.ref x :: rest) ws k n := by
  intro p l e s m args below meth c H locs ls C hr hk hin K hP hD hS hA hl
  refine W.objInit C.1 C.2.1 C.2.2.2.1 (C.2.2.2.2 _ hw) (C.2.2.2.2 _ woI) (C.2.2.2.2 _ woC) rfl (hl.1.trans C.2.2.1.symm) rfl hd hdep (by show 2 * 0 + _ + 12 ≤ 64 * d; omega) ?_
  exact kk p l e s m args below meth c H locs ls C hr hk hin K hP hD hS hA hl
/-- this object's field (it stands first) -/
theorem a_put {a ci j index : Nat} {fs fs1 : List Value} {R : va_W} {v : Value} {ty : FieldType} (hd : decode cc pc = .ok (.putfield index, 3)) (hL : FLk own index ci j) (hfin : uF ci j = false) (hty : parseFieldDescriptor (uD ci j) = some ty) (hn : narrow ty v = v) (hfit : fits ty v = true) (hlen : j < fs.length) (hfs : fs.set j v = fs1) (kk : GoA cc nL own nm d MC MS G A Qc (pc + 3) lv rest ((a, .inr (ci, fs1)) :: R) k n) : GoA cc nL own nm d MC MS G A Qc pc lv (v :: .ref a :: rest) ((a, .inr (ci, fs)) :: R) k n := by
  intro p l e s m args below meth c H locs ls C hr hk hin K hP hD hS hA hl
  subst hfs
  obtain ⟨r, hr1, hk1, hl1⟩ := hL
  obtain ⟨e1, e2⟩ := uFD hr1 j
  exact va_put (D := G.1) (cl := vwCl) (tys := tyl G) (C := r.1) (T := r.2.1) (N := r.2.2) (ty := ty) C.1 C.2.1 C.2.2.2.2 (uw hr1) (uty ci) (utok hr1) (unm hr1) C.2.2.2.1 K.1 hP hD hS 0 rfl hr1 j hk1 (C.2.2.2.2 _ hl1) (fun _ h9 => h9) (by rw [e1]; exact hfin) (by rw [e2]; exact hty) hn hfit hlen hd (fun H1 locs1 hP hD hS => kk p l e s m args below meth c H1 locs1 ls C hr hk hin K hP hD hS hA hl)
theorem a_putF {a ci j index : Nat} {fs fs1 : List Value} {R : va_W} {v : Value} {ty : FieldType} (hd : decode cc pc = .ok (.putfield index, 3)) (hL : FLk own index ci j) (hfin : uF ci j = true) (hdecl : uO ci j = own) (hty : parseFieldDescriptor (uD ci j) = some ty) (hn : narrow ty v = v) (hfit : fits ty v = true) (hlen : j < fs.length) (hfs : fs.set j v = fs1) (kk : GoA cc nL own "<init>" d MC MS G A Qc (pc + 3) lv rest ((a, .inr (ci, fs1)) :: R) k n) : GoA cc nL own "<init>" d MC MS G A Qc pc lv (v :: .ref a :: rest) ((a, .inr (ci, fs)) :: R) k n := by
  intro p l e s m args below meth c H locs ls C hr hk hin K hP hD hS hA hl
  subst hfs
  obtain ⟨r, hr1, hk1, hl1⟩ := hL
  obtain ⟨e1, e2⟩ := uFD hr1 j
  have e3 : (r.2.1 j).1 = own := by rw [← hdecl]; unfold uO; rw [hr1]
  exact va_putF (D := G.1) (cl := vwCl) (tys := tyl G) (C := r.1) (T := r.2.1) (N := r.2.2) (ty := ty) C.1 C.2.1 C.2.2.2.2 (uw hr1) (uty ci) (utok hr1) (unm hr1) C.2.2.2.1 K.1 hP hD hS 0 rfl hr1 j hk1 (C.2.2.2.2 _ hl1) (fun _ h9 => h9) (by rw [e1]; exact hfin) hin e3 (by rw [e2]; exact hty) hn hfit hlen hd (fun H1 locs1 hP hD hS => kk p l e s m args below meth c H1 locs1 ls C hr hk hin K hP hD hS hA hl)
theorem a_get {a ci j index : Nat} {fs : List Value} {R : va_W} {v : Value} (hd : decode cc pc = .ok (.getfield index, 3)) (hL : FLk own index ci j) (hv : fs[j]? = some v) (kk : GoA cc nL own nm d MC MS G A Qc (pc + 3) lv (v :: rest) ((a, .inr (ci, fs)) :: R) k n) : GoA cc nL own nm d MC MS G A Qc pc lv (.ref a :: rest) ((a, .inr (ci, fs)) :: R) k n := by
  intro p l e s m args below meth c H locs ls C hr hk hin K hP hD hS hA hl
  obtain ⟨r, hr1, hk1, hl1⟩ := hL
  exact va_get (D := G.1) (cl := vwCl) (tys := tyl G) (C := r.1) (T := r.2.1) (N := r.2.2) C.1 C.2.1 C.2.2.2.2 (uw hr1) C.2.2.2.1 K.1 hP 0 rfl hr1 j hk1 (C.2.2.2.2 _ hl1) (fun _ h9 => h9) (v := v) hv hd (kk p l e s m args below meth c H locs ls C hr hk hin K hP hD hS hA hl)
/-- a new row of numbers goes behind the others -/
theorem a_newa {atype : ArrayType} {ty : FieldType} {t N : Nat} {x : Int32} {f0 : (Nat → Int32) ⊕ (Nat → Int64) ⊕ (Nat → UInt32) ⊕ (Nat → UInt64) ⊕ (Nat → Option Nat)} (hd : decode cc pc = .ok (.newarray atype, 2)) (hw : Cond.arrayClass (newarray.typeOf atype) ∈ Wd) (hty : newarray.typeOf atype = ty) (hprim : ∀ U c, va_RA U c ty = (U.vm.findClass ("[" ++ ty.toString) = some c)) (htl : (tyl G)[t]? = some (gCy G t, ty)) (ha : ∀ cA : ClassId, vp_cell cA (N, f0) = arrV cA N (fun _ => defaultValue ty)) (hx : ¬ x < 0) (hN : x.toNatClampNeg = N) (hby : N * componentBytes ty ≤ 536870912) (hc : k + 1 ≤ MC) (hs : n + N ≤ MS) (kk : ∀ q : Nat, GoA cc nL own nm d MC MS G A Qc (pc + 2) lv (.ref q :: rest) (ws ++ [(q, .inl (gCy G t, N, f0))]) (k + 1) (n + N)) : GoA cc nL own nm d MC MS G A Qc pc lv (.int x :: rest) ws k n := by
  intro p l e s m args below meth c H locs ls C hr hk hin K hP hD hS hA hl
  refine va_newa C.1 C.2.1 (C.2.2.2.2 _ hw) hty K.1 hP hD hS hA (a0 := (N, f0)) ha hx hN hby hc hs hd (fun q cA H1 hK1 hP1 hD1 hS1 => ?_)
  have e1 : cA = gCy G t := by
    have h1 := (hK1.2 (tyl G).length (cA, ty) (by simp)).2
    have h2 := (K.1.2 t _ htl).2
    rw [hprim] at h1 h2
    exact Option.some.inj (h1.symm.trans h2)
  subst e1
  exact kk q p l e s m args below meth c H1 locs ls C hr hk hin K hP1 hD1 hS1 hA hl
theorem a_newq {Cn : String} {t N index : Nat} {x : Int32} (hd : decode cc pc = .ok (.anewarray index, 3)) (hw : Cond.classLink own index Cn ∈ Wd) (hAO : ∀ U : State, KA G U → va_AO Cn U) (htl : (tyl G)[t]? = some (gCy G t, .object Cn)) (hx : ¬ x < 0) (hN : x.toNatClampNeg = N) (hby : N * 4 ≤ 536870912) (hc : k + 1 ≤ MC) (hs : n + N ≤ MS) (kk : ∀ q : Nat, GoA cc nL own nm d MC MS G A Qc (pc + 3) lv (.ref q :: rest) (ws ++ [(q, .inl (gCy G t, N, .inr (.inr (.inr (.inr (fun _ => none))))))]) (k + 1) (n + N)) : GoA cc nL own nm d MC MS G A Qc pc lv (.int x :: rest) ws k n := by
  intro p l e s m args below meth c H locs ls C hr hk hin K hP hD hS hA hl
  refine va_newq C.1 C.2.1 C.2.2.2.1 (C.2.2.2.2 _ hw) (hAO s K) K.1 hP hD hS hA hx hN hby hc hs hd (fun q cA H1 hK1 hP1 hD1 hS1 => ?_)
  have e1 : cA = gCy G t := by
    obtain ⟨_, _, _, _, _, h1⟩ := (hK1.2 (tyl G).length (cA, .object Cn) (by simp)).2
    obtain ⟨_, _, _, _, _, h2⟩ := (K.1.2 t _ htl).2
    exact Option.some.inj (h1.symm.trans h2)
  subst e1
  exact kk q p l e s m args below meth c H1 locs ls C hr hk hin K hP1 hD1 hS1 hA hl
theorem a_iast {a N i0 : Nat} {R : va_W} {f : Nat → Int32} {i x : Int32} (hd : decode cc pc = .ok (.iastore, 1)) (hin : vp_in i N) (hi : i.toNatClampNeg = i0) (kk : GoA cc nL own nm d MC MS G A Qc (pc + 1) lv rest ((a, .inl (gCy G 0, N, .inl (upd f i0 x))) :: R) k n) : GoA cc nL own nm d MC MS G A Qc pc lv (.int x :: .int i :: .ref a :: rest) ((a, .inl (gCy G 0, N, .inl f)) :: R) k n := by
  intro p l e s m args below meth c H locs ls C hr hk hnm K hP hD hS hA hl
  subst hi
  exact va_iast (D := G.1) (cl := vwCl) (tys := tyl G) C.1 C.2.1 K.1 hP hD hS 0 0 rfl rfl hin hd (fun H1 locs1 hP hD hS => kk p l e s m args below meth c H1 locs1 ls C hr hk hnm K hP hD hS hA hl)
theorem a_alen {a t N : Nat} {R : va_W} {f : (Nat → Int32) ⊕ (Nat → Int64) ⊕ (Nat → UInt32) ⊕ (Nat → UInt64) ⊕ (Nat → Option Nat)} {v : Int32} (q0 : Nat) {ty : FieldType} (hd : decode cc pc = .ok (.arraylength, 1)) (hq : ws[q0]? = some (a, .inl (gCy G t, N, f))) (htl : (tyl G)[t]? = some (gCy G t, ty)) (hv : Int32.ofNat N = v) (kk : GoA cc nL own nm d MC MS G A Qc (pc + 1) lv (.int v :: rest) ws k n) : GoA cc nL own nm d MC MS G A Qc pc lv (.ref a :: rest) ws k n := by
  intro p l e s m args below meth c H locs ls C hr hk hnm K hP hD hS hA hl
  exact va_alen (D := G.1) (cl := vwCl) (tys := tyl G) C.1 C.2.1 K.1 hP q0 t hq htl hv hd (kk p l e s m args below meth c H locs ls C hr hk hnm K hP hD hS hA hl)
/-- an object goes into a row of objects: the row at place q0, the object anywhere in the world -/
theorem a_aast {a N v ci t q0 : Nat} {r : vw_C} {vs : List Value} {f : Nat → Option Nat} {i : Int32} (hd : decode cc pc = .ok (.aastore, 1)) (hq : ws[q0]? = some (a, .inl (gCy G t, N, .inr (.inr (.inr (.inr f)))))) (hr0 : vwCl[ci]? = some r) (htl : (tyl G)[t]? = some (gCy G t, .object r.1)) (hv : (v, .inr (ci, vs)) ∈ ws) (hin : vp_in i N) (hws : ws.set q0 (a, .inl (gCy G t, N, .inr (.inr (.inr (.inr (va_up f i.toNatClampNeg (some v))))))) = ws1) (kk : GoA cc nL own nm d MC MS G A Qc (pc + 1) lv rest ws1 k n) : GoA cc nL own nm d MC MS G A Qc pc lv (.ref v :: .int i :: .ref a :: rest) ws k n := by
  intro p l e s m args below meth c H locs ls C hr hk hnm K hP hD hS hA hl
  subst hws
  obtain ⟨qk, hqk⟩ := List.getElem?_of_mem hv
  exact va_astq (D := G.1) (cl := vwCl) (tys := tyl G) C.1 C.2.1 K.1 hP hD hS q0 t qk ci hq htl hqk hr0 hin hd (fun H1 locs1 hP hD hS => kk p l e s m args below meth c H1 locs1 ls C hr hk hnm K hP hD hS hA hl)
/-- new, dup, the constructor: its cells go behind the others -/
theorem a_newc {index i2 ci mc ms d1 : Nat} {S : Type} {r : vw_C} {y : MethodName} {cc1 : ByteArray} {nL1 : Nat} {fs : List Value} {Wf : Nat → S → va_W} (hd : decode cc pc = .ok (.new index, 3)) (hd1 : decode cc (pc + 3) = .ok (.dup, 1)) (hd2 : decode cc (pc + 3 + 1) = .ok (.invokespecial i2, 3)) (hr0 : vwCl[ci]? = some r) (hcl : Cond.classLink own index r.1 ∈ Wd) (hins : Cond.instantiable r.1 r.2.2 ∈ Wd) (hini : Cond.initialized r.1 ∈ Wd) (hfs : ∀ j, j < r.2.2 → defaultValue (uty ci j) = vp_V fs j) (hm : Mok y cc1 nL1 none 0) (hy : y.name = "<init>") (hi : Cond.instanceMethod y ∈ Wd) (hlk : Cond.methodLink own i2 y ∈ Wd ∨ (own, i2, y) ∈ nestC) (hM : CtA y cc1 nL1 d1 mc ms G ci fs Wf) (hdep : d1 + 1 ≤ d) (hst : ((Value.null :: rest).map fun v => v.category).sum ≤ 8) (hc : k + 1 + mc ≤ MC) (hs : n + r.2.2 + ms ≤ MS) (kk : ∀ (q : Nat) (u : S), GoA cc nL own nm d MC MS G A Qc (pc + 3 + 1 + 3) lv (.ref q :: rest) (ws ++ Wf q u) (k + 1 + mc) (n + r.2.2 + ms)) : GoA cc nL own nm d MC MS G A Qc pc lv rest ws k n := by
  intro p l e s m args below meth c H locs ls C hr hk hnm K hP hD hS hA hl
  refine va_new (ci := ci) (fs := fs) (C := r.1) (T := r.2.1) (N := r.2.2) C.1 C.2.1 C.2.2.2.2 (uw hr0) (uty ci) (utok hr0) C.2.2.2.1 (C.2.2.2.2 _ hcl) (C.2.2.2.2 _ hins) (C.2.2.2.2 _ hini) K.1 hP hD hS hA hr0 hfs (by show k + 1 ≤ MC; omega) (by show n + r.2.2 ≤ MS; omega) hd (fun q H1 hP1 hD1 hS1 => ?_)
  refine lv_dup C.1 C.2.1 hd1 rfl ?_
  have hF : ∀ z, va_A [(q, .inr (ci, fs))] H1.size z → A z := by
    intro z hz
    rcases hz with ⟨j, e1, hz⟩ | hz
    · have h1 : (z, e1) ∈ [((q, .inr (ci, fs)) : Nat × va_E)] := List.mem_of_getElem? hz
      rw [List.mem_singleton] at h1
      have h2 := (vd_iff.mp hD1).2 (q, .inr (ci, fs)) (List.mem_append_right _ (List.mem_singleton.mpr rfl))
      have h3 : z = q := (Prod.mk.inj h1).1
      rw [h3]; exact h2
    · exact hA z (Nat.le_trans hS1.1 hz)
  have hbl : FrameBlind (va_Pc [Value.ref q] (fun U => U.heap.size = H1.size ∧ va_P G.1 vwCl [(q, .inr (ci, fs))] U.heap ∧ KA G U)) := fun _ _ _ _ z => ⟨z.1, z.2.1, z.2.2.1, KA.same rfl z.2.2.2⟩
  have hPq : va_P G.1 vwCl [((q, .inr (ci, fs)) : Nat × va_E)] H1 := vp_mem.mpr (fun x hx => by rw [List.mem_singleton] at hx; rw [hx]; exact vp_mem.mp hP1 _ (List.mem_append_right _ (List.mem_singleton.mpr rfl)))
  have hpre : PreS s H1 (va_Pc [Value.ref q] (fun U => U.heap.size = H1.size ∧ va_P G.1 vwCl [(q, .inr (ci, fs))] U.heap ∧ KA G U)) (.ref q :: []) := ⟨hbl, fun U hU hW => ⟨rfl, by rw [hU], by rw [hU]; exact hPq, KA.moved hW K⟩⟩
  have hgood : GoodIn Wd (wsD y cc1 nL1 none) := wsD_good hm
  have hroom : (rmA d1 mc ms).frames + 1 ≤ (rmA d MC MS).frames ∧ 8 + (nL1 + 11) + (rmA d1 mc ms).locals ≤ (rmA d MC MS).locals := ⟨hdep, by show 8 + (nL1 + 11) + 64 * d1 ≤ 64 * d; have := hm.2.2.2; omega⟩
  have hfit : k + 1 + mc ≤ (rmA d MC MS).cells ∧ n + r.2.2 + ms ≤ (rmA d MC MS).slots := ⟨hc, hs⟩
  have hrun : va_Run p l e (rmA d MC MS) s m args below meth c H1 locs (k + 1) (n + r.2.2) mc ms (F0 m (pc + 3 + 1) ls (.ref q :: .ref q :: rest)) (.ref q :: rest) (va_Qv (fun _ : S => True) (fun u t => va_P G.1 vwCl (Wf q u) t.heap ∧ va_D (va_A [(q, .inr (ci, fs))] H1.size) (Wf q u)) (va_A [(q, .inr (ci, fs))] H1.size) #[Value.ref q]) (va_A [(q, .inr (ci, fs))] H1.size) := by
    rcases hlk with hlk | hlk
    · exact va_runI (As := []) (rest := .ref q :: rest) C (hM l q H1.size) ⟨callB_of 0 C.2.2.2.2 hgood rfl rfl rfl (C.2.2.2.2 _ hm.1) (C.2.2.2.2 _ hlk) hm.2.2.1 hroom, hy, C.2.2.2.2 _ hi⟩ hpre rfl rfl hl.1 rfl (lv_room hst) hd2 hfit
    · exact va_runIN (As := []) (rest := .ref q :: rest) C (hM l q H1.size) ⟨va_cnB 0 C.2.2.2.2 hgood rfl rfl rfl (K.2.1 _ hlk) (C.2.2.2.2 _ hm.1) hm.2.2.1 hroom, hy, C.2.2.2.2 _ hi⟩ hpre rfl rfl hl.1 rfl (lv_room hst) hd2 hfit
  refine va_callv hrun hS1 (fun z _ h => hF z h) hF (fun u t H2 locs2 ht hvm hq hB hz hk1 hS2 => ?_)
  rw [ht] at hB
  obtain ⟨g1, g2⟩ := vd_call hP1 hD1 (fun z hz => hA z (Nat.le_trans hS1.1 hz)) hk1 hB.1 hB.2
  exact kk q u p l e s m args below meth c H2 locs2 ls C hr hk hnm K g1 g2 hS2 hA hl
theorem a_ret {S : Type} {a : Nat} {Wf : Nat → S → va_W} (u : S) (hd : decode cc pc = .ok (.return_, 1)) (hp : ws.Perm (Wf a u)) (hk0 : k ≤ MC) (hn0 : n ≤ MS) : GoA cc nL own nm d MC MS G A (va_Qv (fun _ : S => True) (fun u t => va_P G.1 vwCl (Wf a u) t.heap ∧ va_D A (Wf a u)) A) pc lv [] ws k n := by
  intro p l e s m args below meth c H locs ls C hr hk hnm K hP hD hS hA hl
  refine W.widen (k := MC) (n := MS) hk0 hn0 ?_
  exact W.vret C.1 C.2.1 hr (fun t ht hW => ⟨⟨u, rfl, trivial, by rw [ht]; exact vp_perm hp hP, vd_perm hp hD⟩, hS.F ht⟩) hS.2.2 hd hk
theorem a_eq (h : ws = ws1) (kk : GoA cc nL own nm d MC MS G A Qc pc lv rest ws1 k n) : GoA cc nL own nm d MC MS G A Qc pc lv rest ws k n := h ▸ kk
theorem a_iastP {a N i0 : Nat} (q0 : Nat) {f : Nat → Int32} {i x : Int32} (hd : decode cc pc = .ok (.iastore, 1)) (hq : ws[q0]? = some (a, .inl (gCy G 0, N, .inl f))) (hin : vp_in i N) (hi : i.toNatClampNeg = i0) (hws : ws.set q0 (a, .inl (gCy G 0, N, .inl (upd f i0 x))) = ws1) (kk : GoA cc nL own nm d MC MS G A Qc (pc + 1) lv rest ws1 k n) : GoA cc nL own nm d MC MS G A Qc pc lv (.int x :: .int i :: .ref a :: rest) ws k n := by
  intro p l e s m args below meth c H locs ls C hr hk hnm K hP hD hS hA hl
  subst hi
  subst hws
  exact va_iast (D := G.1) (cl := vwCl) (tys := tyl G) C.1 C.2.1 K.1 hP hD hS q0 0 hq rfl hin hd (fun H1 locs1 hP hD hS => kk p l e s m args below meth c H1 locs1 ls C hr hk hnm K hP hD hS hA hl)
theorem a_iadd {x y : Int32} (hd : decode cc pc = .ok (.iadd, 1)) (kk : GoA cc nL own nm d MC MS G A Qc (pc + 1) lv (.int (x + y) :: rest) ws k n) : GoA cc nL own nm d MC MS G A Qc pc lv (.int y :: .int x :: rest) ws k n := by
  intro p l e s m args below meth c H locs ls C hr hk hnm K hP hD hS hA hl
  exact lv_iadd C.1 C.2.1 hd (kk p l e s m args below meth c H locs ls C hr hk hnm K hP hD hS hA hl)
end AROWS
theorem arr_cg {cA : ClassId} {N : Nat} {f g : Nat → Int32} (h : ∀ j, j < N → f j = g j) : vp_cell cA (N, .inl f) = vp_cell cA (N, .inl g) := by
  rw [vp_cell_i, vp_cell_i]
  unfold arrV
  congr 2
  funext j
  show Value.int (f j.val) = Value.int (g j.val)
  rw [h j.val j.isLt]
theorem vp_cg {D : va_G} {cl : List vw_C} {a N : Nat} {cA : ClassId} {f g : Nat → Int32} {H : Heap} (h : ∀ j, j < N → f j = g j) (hP : va_P D cl [(a, .inl (cA, N, .inl f))] H) : va_P D cl [(a, .inl (cA, N, .inl g))] H := by
  rw [vp_mem] at hP ⊢
  intro x hx
  rw [List.mem_singleton] at hx
  subst hx
  have := hP _ (List.mem_singleton.mpr rfl)
  show H[a]? = some (vp_cell cA (N, .inl g))
  rw [← arr_cg h]
  exact this
/-- a static method that writes a row of ints: from f to g -/
def CtF (y : MethodName) (cc : ByteArray) (nL d : Nat) (G : Gx) (ex : List Value) (N : Nat) (f g : Nat → Int32) : Prop :=
  ∀ (l : Launch) (a sz : Nat), Met l y (wsD y cc nL none) (rmA d 0 0) (va_Pc (.ref a :: ex) (fun U => U.heap.size = sz ∧ va_P G.1 vwCl [(a, .inl (gCy G 0, N, .inl f))] U.heap ∧ KA G U)) (va_Qv (fun _ : Unit => True) (fun _ t => va_P G.1 vwCl [(a, .inl (gCy G 0, N, .inl g))] t.heap ∧ va_D (va_A [(a, .inl (gCy G 0, N, .inl f))] sz) [(a, .inl (gCy G 0, N, .inl g))]) (va_A [(a, .inl (gCy G 0, N, .inl f))] sz)) 0 0 (va_A [(a, .inl (gCy G 0, N, .inl f))] sz)
section AROWS2
variable {cc : ByteArray} {nL : Nat} {own nm : String} {d MC MS : Nat} {G : Gx} {A : Nat → Prop} {Qc : Array Value → State → Outcome → State → Prop} {pc : Nat} {lv lv1 : List (Nat × Value)} {rest : List Value} {ws ws1 : va_W} {k n : Nat}
theorem ctf_go {y : MethodName} {ex : List Value} {N : Nat} {f g : Nat → Int32} (hy : plainName y.cls = true) (hin : y.name = nm) (ho : y.cls = own) (hnL : ∀ a, (lg_sl (Value.ref a :: ex)).length ≤ nL)
    (go : ∀ (a sz : Nat), GoA cc nL own nm d 0 0 G (va_A [(a, .inl (gCy G 0, N, .inl f))] sz) (va_Qv (fun _ : Unit => True) (fun _ t => va_P G.1 vwCl [(a, .inl (gCy G 0, N, .inl g))] t.heap ∧ va_D (va_A [(a, .inl (gCy G 0, N, .inl f))] sz) [(a, .inl (gCy G 0, N, .inl g))]) (va_A [(a, .inl (gCy G 0, N, .inl f))] sz)) 0 (lv_args 0 (.ref a :: ex)) [] [(a, .inl (gCy G 0, N, .inl f))] 0 0) : CtF y cc nL d G ex N f g := by
  intro l a sz
  subst ho
  refine met_of (cc := cc) (maxL := nL) (ret := none) (plainFor_of_name hy) rfl ?_
  intro p e s m args below meth c s₁ B hml hv
  obtain ⟨rfl, hsz, hP, hK⟩ := hv
  have hts := atoms_spec (ws := wsD y cc nL none) B.pre
  have hl := lv_entry (Value.ref a :: ex) (n := nL) (hnL a)
  rw [lg_entry_eq]
  have hD0 : va_D (fun _ => True) [((a, .inl (gCy G 0, N, .inl f)) : Nat × va_E)] := vd_iff.mpr ⟨List.pairwise_singleton _ _, fun _ _ => trivial⟩
  subst hsz
  exact go a s.heap.size p l e s m _ below meth c s.heap [] _ ⟨B.exec, B.bytes, hml, findClass_of_methodNamed B.named, fun w hw => hts w (List.mem_cons_of_mem _ hw)⟩ B.returns B.notSynchronized (by rw [(name_of_methodNamed B.named B.method).1]; exact hin) hK hP hD0.self va_S.rf (fun q h => Or.inr h) hl
theorem a_retF {a N : Nat} {f g : Nat → Int32} (hd : decode cc pc = .ok (.return_, 1)) (hg : ∀ j, j < N → f j = g j) : GoA cc nL own nm d 0 0 G A (va_Qv (fun _ : Unit => True) (fun _ t => va_P G.1 vwCl [(a, .inl (gCy G 0, N, .inl g))] t.heap ∧ va_D A [(a, .inl (gCy G 0, N, .inl g))]) A) pc lv [] [(a, .inl (gCy G 0, N, .inl f))] 0 0 := by
  intro p l e s m args below meth c H locs ls C hr hk hnm K hP hD hS hA hl
  exact W.vret C.1 C.2.1 hr (fun t ht hW => ⟨⟨(), rfl, trivial, by rw [ht]; exact vp_cg hg hP, vd_iff.mpr ⟨List.pairwise_singleton _ _, fun x hx => by rw [List.mem_singleton] at hx; rw [hx]; exact (vd_iff.mp hD).2 (a, .inl (gCy G 0, N, .inl f)) (List.mem_singleton.mpr rfl)⟩⟩, hS.F ht⟩) hS.2.2 hd hk
/-- a call of such a method over the last cell -/
theorem a_callF {y : MethodName} {cc1 : ByteArray} {nL1 index n0 d1 a N : Nat} {ex : List Value} {f g : Nat → Int32} {st0 : List Value} (hd : decode cc pc = .ok (.invokestatic index, 3)) (hw : Cond.methodLink own index y ∈ Wd) (hm : MokS y cc1 nL1 none n0) (hn : (Value.ref a :: ex).length = n0) (hM : CtF y cc1 nL1 d1 G ex N f g) (hdep : d1 + 1 ≤ d) (hst : (rest.map fun v => v.category).sum ≤ 8) (hs0 : st0 = (Value.ref a :: ex).reverse ++ rest) (hc : k ≤ MC) (hs : n ≤ MS) (kk : GoA cc nL own nm d MC MS G A Qc (pc + 3) lv rest (ws ++ [(a, .inl (gCy G 0, N, .inl g))]) k n) : GoA cc nL own nm d MC MS G A Qc pc lv st0 (ws ++ [(a, .inl (gCy G 0, N, .inl f))]) k n := by
  subst hs0
  intro p l e s m args below meth c H locs ls C hr hk hnm K hP hD hS hA hl
  have hF : ∀ z, va_A [(a, .inl (gCy G 0, N, .inl f))] H.size z → A z := by
    intro z hz
    rcases hz with ⟨j, e1, hz⟩ | hz
    · have h1 : (z, e1) ∈ [((a, .inl (gCy G 0, N, .inl f)) : Nat × va_E)] := List.mem_of_getElem? hz
      rw [List.mem_singleton] at h1
      have h2 := (vd_iff.mp hD).2 (a, .inl (gCy G 0, N, .inl f)) (List.mem_append_right _ (List.mem_singleton.mpr rfl))
      have h3 : z = a := (Prod.mk.inj h1).1
      rw [h3]; exact h2
    · exact hA z (Nat.le_trans hS.1 hz)
  have hPq : va_P G.1 vwCl [((a, .inl (gCy G 0, N, .inl f)) : Nat × va_E)] H := vp_mem.mpr (fun x hx => by rw [List.mem_singleton] at hx; rw [hx]; exact vp_mem.mp hP _ (List.mem_append_right _ (List.mem_singleton.mpr rfl)))
  have hpre : PreS s H (va_Pc (.ref a :: ex) (fun U => U.heap.size = H.size ∧ va_P G.1 vwCl [(a, .inl (gCy G 0, N, .inl f))] U.heap ∧ KA G U)) (.ref a :: ex) := ⟨fun _ _ _ _ z => ⟨z.1, z.2.1, z.2.2.1, KA.same rfl z.2.2.2⟩, fun U hU hW => ⟨rfl, by rw [hU], by rw [hU]; exact hPq, KA.moved hW K⟩⟩
  have hroom : (rmA d1 0 0).frames + 1 ≤ (rmA d MC MS).frames ∧ 8 + (nL1 + 11) + (rmA d1 0 0).locals ≤ (rmA d MC MS).locals := ⟨hdep, by show 8 + (nL1 + 11) + 64 * d1 ≤ 64 * d; have := hm.1.2.2.2; omega⟩
  have hrun := va_runS (As := .ref a :: ex) (rest := rest) (g := F0 m pc ls ((Value.ref a :: ex).reverse ++ rest)) (H := H) (locs := locs) (cells := k) (slots := n) (e := e) (below := below) (meth := meth) C (hM l a H.size) ⟨callB_of (R := rmA d MC MS) n0 C.2.2.2.2 (wsD_good hm.1) rfl rfl rfl (C.2.2.2.2 _ hm.1.1) (C.2.2.2.2 _ hw) hm.1.2.2.1 hroom, C.2.2.2.2 _ hm.2⟩ hpre rfl hn hl.1 rfl (lv_room hst) hd ⟨hc, hs⟩
  refine va_callv hrun hS (fun z _ h => hF z h) hF (fun u t H2 locs2 ht hvm hq hB hz hk1 hS2 => ?_)
  rw [ht] at hB
  obtain ⟨g1, g2⟩ := vd_call hP hD (fun z hz => hA z (Nat.le_trans hS.1 hz)) hk1 hB.1 hB.2
  exact kk p l e s m args below meth c H2 locs2 ls C hr hk hnm K g1 g2 hS2 hA hl
end AROWS2
theorem pm1 {α : Type} (x : α) (R : List α) (c : α) : ((x :: R) ++ [c]).Perm (x :: c :: R) := List.Perm.cons x (List.perm_append_comm (l₁ := R) (l₂ := [c]))
theorem pm2 {α : Type} (x y : α) (R : List α) (c : α) : ((x :: y :: R) ++ [c]).Perm (x :: y :: c :: R) := List.Perm.cons x (pm1 y R c)
theorem pm3 {α : Type} (x y z : α) (R : List α) (c : α) : ((x :: y :: z :: R) ++ [c]).Perm (x :: y :: z :: c :: R) := List.Perm.cons x (pm2 y z R c)
theorem pmB1 {α : Type} (x : α) (R : List α) (c : α) : (x :: (R ++ [c])).Perm (x :: c :: R) := pm1 x R c
theorem pmB2 {α : Type} (x y : α) (R : List α) (c : α) : (x :: y :: (R ++ [c])).Perm (x :: y :: c :: R) := pm2 x y R c
theorem pmC {α : Type} (x y : α) (R : List α) (c : α) : (x :: c :: y :: R).Perm ((x :: y :: R) ++ [c]) := List.Perm.cons x (List.perm_append_comm (l₁ := [c]) (l₂ := y :: R))
theorem pmD {α : Type} (x y : α) (R : List α) (c : α) : ((x :: y :: R) ++ [c]).Perm (x :: c :: y :: R) := (pmC x y R c).symm

