def R_law : String := "MeanRoadsLaw"
def lw_P (b : Addr) (xs : List Int32) (args : Array Value) (s : State) : Prop := args = #[.ref b] ∧ s.IntsAt b xs ∧ xs.length ≤ 3072 ∧ (Jvm.Cond.and given_1 narrow_1).before args s = true
def lw_Q (_ : Array Value) (s : State) (o : Outcome) (t : State) : Prop := o = .returned (some (.int 1)) ∧ Framed s o t [] 600000 7302250
def lw_Z (below : List Frame) (a : Array Value) (s : State) : State → Prop := fun t => ∃ o, t.status = .running ∧ Ended t below o ∧ lw_Q a s o t
/-- the law's own end, with 1 on the stack, nothing written that was there before, its room as the claim has it -/
theorem lw_ret {p : Program} {l : Launch} {e : Env} {s : State} {m : MethodId} {below : List Frame} {meth : Method} {c : Code} {b : Nat} (hx : p.tables.exec = Jvm.exec) (hb : c.code = code) (hr : meth.sig.returnType = ret) (hlocks : meth.locks = false) {pc : Nat} {H : Heap} {ls : Array Slot} (hdg : decode code pc = .ok (.ireturn, 1)) : W p l e room_1 s m #[Value.ref b] below meth c H [] 600000 7302250 (lw_Z below #[Value.ref b] s) (F0 m pc ls [.int 1]) := by
  intro T hT X
  obtain ⟨fs, hret, hrun, hended, hW, hframe⟩ := X.leave (v := some (.int 1)) (hlocks := hlocks) (fun h => by rw [hr] at h; cases h)
  have hmeth' : T.vm.method? m = some meth := X.method'
  refine ⟨T.setFrames fs, ?_, .returned (some (.int 1)), hrun, hended, rfl, ⟨_, rfl⟩, hW, hframe⟩
  jvm_step X.here [X.here.top, hx, hb, hdg, hmeth', hr, ret, narrow_b1]
  (try refine ⟨rfl, ?_⟩); (try refine ⟨rfl, ?_⟩)
  first | (intro acts; rw [hret _ acts rfl rfl rfl]) | rw [hret _ _ rfl rfl rfl]
  exact Steps.refl _
/-- what holds at the law's entry: the machine, the code, the tables' words (any of lw_tbl by 'hts w (by decide +kernel)'), the script of L ints xs at the cell b, what the Statement gives of the start (any of its parts by flat_of_before) -/
def lw_At (p : Program) (s : State) (m : MethodId) (meth : Method) (c : Code) (b L : Nat) (xs : Nat → Int32) : Prop :=
  p.tables.exec = Jvm.exec ∧ c.code = code ∧ meth.sig.returnType = ret ∧ c.maxLocals = 4 ∧ s.vm.findClass R_law = some m.cls ∧ (∀ w ∈ lw_tbl, w.before #[Value.ref b] s = true) ∧ va_X b L xs s s.heap ∧ b < s.heap.size ∧ meth.locks = false ∧ (Jvm.Cond.and given_1 narrow_1).before #[Value.ref b] s = true

/-- THE JUDGEMENT in the law's own frame: the script of L ints xs lies at b, cs cells of sl slots have been made -/
def GoL (G : Gx) (cs sl b L : Nat) (xs : Nat → Int32) (pc : Nat) (lv : List (Nat × Value)) (st : List Value) (h : Hp) : Prop :=
  ∀ (p : Program) (l : Launch) (e : Env) (s : State) (m : MethodId) (below : List Frame) (meth : Method) (c : Code) (H : Heap) (locs : List Loc) (ls : Array Slot),
    lw_At p s m meth c b L xs → KK G s → RW G s h H locs → G.2.2.2.2.2 = s.heap.size → cs ≤ 600000 → sl ≤ 7302250 → lv_has ls 4 lv →
    W p l e room_1 s m #[Value.ref b] below meth c H locs cs sl (lw_Z below #[Value.ref b] s) (F0 m pc ls st)
section LROWS
variable {G : Gx} {cs sl b L : Nat} {xs : Nat → Int32} {pc : Nat} {lv lv1 : List (Nat × Value)} {rest : List Value} {h : Hp}
theorem l_iconst {n : Int} {v : Int32} (hd : decode code pc = .ok (.iconst n, 1)) (hv : Int32.ofInt n = v) (k : GoL G cs sl b L xs (pc + 1) lv (.int v :: rest) h) : GoL G cs sl b L xs pc lv (rest) h := by intro p l e s m below meth c H locs ls A K RR hB h1 h2 hl; exact lv_iconst A.1 A.2.1 hd hv (k p l e s m below meth c H locs ls A K RR hB h1 h2 hl)
theorem l_bipush {n : Int} {v : Int32} (hd : decode code pc = .ok (.bipush n, 2)) (hv : (Int8.ofInt n).toInt32 = v) (k : GoL G cs sl b L xs (pc + 2) lv (.int v :: rest) h) : GoL G cs sl b L xs pc lv (rest) h := by intro p l e s m below meth c H locs ls A K RR hB h1 h2 hl; exact lv_bipush A.1 A.2.1 hd hv (k p l e s m below meth c H locs ls A K RR hB h1 h2 hl)
theorem l_iload_n {k4 : Fin 4} {i : Nat} {x : Int32} (hd : decode code pc = .ok (.iload_n k4, 1)) (hi : (k4 : Nat) = i) (hv : lv.lookup i = some (.int x)) (k : GoL G cs sl b L xs (pc + 1) lv (.int x :: rest) h) : GoL G cs sl b L xs pc lv (rest) h := by intro p l e s m below meth c H locs ls A K RR hB h1 h2 hl; exact lv_iload_n A.1 A.2.1 hd hi (lv_lk hl hv) (k p l e s m below meth c H locs ls A K RR hB h1 h2 hl)
theorem l_istore_n {k4 : Fin 4} {i : Nat} {x : Int32} (hd : decode code pc = .ok (.istore_n k4, 1)) (hi : (k4 : Nat) = i) (hn : i < 4) (hv : lv1s i (.int x) lv = lv1) (k : GoL G cs sl b L xs (pc + 1) lv1 rest h) : GoL G cs sl b L xs pc lv (.int x :: rest) h := by intro p l e s m below meth c H locs ls A K RR hB h1 h2 hl; exact lv_istore_n A.1 A.2.1 hd hi hl hn rfl (fun ls1 hl1 => k p l e s m below meth c H locs ls1 A K RR hB h1 h2 (lv1s_has hl1 hv))
theorem l_aload_n {k4 : Fin 4} {i : Nat} {x : Nat} (hd : decode code pc = .ok (.aload_n k4, 1)) (hi : (k4 : Nat) = i) (hv : lv.lookup i = some (.ref x)) (k : GoL G cs sl b L xs (pc + 1) lv (.ref x :: rest) h) : GoL G cs sl b L xs pc lv (rest) h := by intro p l e s m below meth c H locs ls A K RR hB h1 h2 hl; exact lv_aload_n A.1 A.2.1 hd hi (lv_lk hl hv) (k p l e s m below meth c H locs ls A K RR hB h1 h2 hl)
theorem l_astore_n {k4 : Fin 4} {i : Nat} {x : Nat} (hd : decode code pc = .ok (.astore_n k4, 1)) (hi : (k4 : Nat) = i) (hn : i < 4) (hv : lv1s i (.ref x) lv = lv1) (k : GoL G cs sl b L xs (pc + 1) lv1 rest h) : GoL G cs sl b L xs pc lv (.ref x :: rest) h := by intro p l e s m below meth c H locs ls A K RR hB h1 h2 hl; exact lv_astore_n A.1 A.2.1 hd hi hl hn rfl (fun ls1 hl1 => k p l e s m below meth c H locs ls1 A K RR hB h1 h2 (lv1s_has hl1 hv))
theorem l_iinc {i : Nat} {n : Int} {x v : Int32} (hd : decode code pc = .ok (.iinc i n, 3)) (hx : lv.lookup i = some (.int x)) (hw : x + Int32.ofInt n = v) (hn : i < 4) (hv : lv1s i (.int v) lv = lv1) (k : GoL G cs sl b L xs (pc + 3) lv1 rest h) : GoL G cs sl b L xs pc lv rest h := by intro p l e s m below meth c H locs ls A K RR hB h1 h2 hl; obtain ⟨j, hj⟩ := lk_pos hx; exact lv_iinc A.1 A.2.1 hd hl hj hw hn rfl (fun ls1 hl1 => k p l e s m below meth c H locs ls1 A K RR hB h1 h2 (lv1s_has hl1 hv))
theorem l_iadd {x y : Int32} (hd : decode code pc = .ok (.iadd, 1))  (k : GoL G cs sl b L xs (pc + 1) lv (.int (x + y) :: rest) h) : GoL G cs sl b L xs pc lv (.int y :: .int x :: rest) h := by intro p l e s m below meth c H locs ls A K RR hB h1 h2 hl; exact lv_iadd A.1 A.2.1 hd  (k p l e s m below meth c H locs ls A K RR hB h1 h2 hl)
theorem l_isub {x y : Int32} (hd : decode code pc = .ok (.isub, 1))  (k : GoL G cs sl b L xs (pc + 1) lv (.int (x - y) :: rest) h) : GoL G cs sl b L xs pc lv (.int y :: .int x :: rest) h := by intro p l e s m below meth c H locs ls A K RR hB h1 h2 hl; exact lv_isub A.1 A.2.1 hd  (k p l e s m below meth c H locs ls A K RR hB h1 h2 hl)
theorem l_iand {x y : Int32} (hd : decode code pc = .ok (.iand, 1))  (k : GoL G cs sl b L xs (pc + 1) lv (.int (x &&& y) :: rest) h) : GoL G cs sl b L xs pc lv (.int y :: .int x :: rest) h := by intro p l e s m below meth c H locs ls A K RR hB h1 h2 hl; exact lv_iand A.1 A.2.1 hd  (k p l e s m below meth c H locs ls A K RR hB h1 h2 hl)
theorem l_land {x y : Int64} (hd : decode code pc = .ok (.land, 1))  (k : GoL G cs sl b L xs (pc + 1) lv (.long (x &&& y) :: rest) h) : GoL G cs sl b L xs pc lv (.long y :: .long x :: rest) h := by intro p l e s m below meth c H locs ls A K RR hB h1 h2 hl; exact lv_land A.1 A.2.1 hd  (k p l e s m below meth c H locs ls A K RR hB h1 h2 hl)
theorem l_lor {x y : Int64} (hd : decode code pc = .ok (.lor, 1))  (k : GoL G cs sl b L xs (pc + 1) lv (.long (x ||| y) :: rest) h) : GoL G cs sl b L xs pc lv (.long y :: .long x :: rest) h := by intro p l e s m below meth c H locs ls A K RR hB h1 h2 hl; exact lv_lor A.1 A.2.1 hd  (k p l e s m below meth c H locs ls A K RR hB h1 h2 hl)
theorem l_lshl {x : Int64} {y : Int32} (hd : decode code pc = .ok (.lshl, 1))  (k : GoL G cs sl b L xs (pc + 1) lv (.long (x <<< (y.toInt64 &&& 63)) :: rest) h) : GoL G cs sl b L xs pc lv (.int y :: .long x :: rest) h := by intro p l e s m below meth c H locs ls A K RR hB h1 h2 hl; exact lv_lshl A.1 A.2.1 hd rfl (k p l e s m below meth c H locs ls A K RR hB h1 h2 hl)
theorem l_lcmp {x y : Int64} (hd : decode code pc = .ok (.lcmp, 1))  (k : GoL G cs sl b L xs (pc + 1) lv (.int (lg_cmp x y) :: rest) h) : GoL G cs sl b L xs pc lv (.long y :: .long x :: rest) h := by intro p l e s m below meth c H locs ls A K RR hB h1 h2 hl; exact W.lcmp A.1 A.2.1 hd  (k p l e s m below meth c H locs ls A K RR hB h1 h2 hl)
theorem l_i2l {x : Int32} (hd : decode code pc = .ok (.i2l, 1))  (k : GoL G cs sl b L xs (pc + 1) lv (.long x.toInt64 :: rest) h) : GoL G cs sl b L xs pc lv (.int x :: rest) h := by intro p l e s m below meth c H locs ls A K RR hB h1 h2 hl; exact lv_i2l A.1 A.2.1 hd rfl (k p l e s m below meth c H locs ls A K RR hB h1 h2 hl)
theorem l_ldc2 {index : Nat} {v : Int64} (hd : decode code pc = .ok (.ldc2_w index, 3)) (hw : Cond.constantLong R_law index v ∈ Wd) (k : GoL G cs sl b L xs (pc + 3) lv (.long v :: rest) h) : GoL G cs sl b L xs pc lv rest h := by intro p l e s m below meth c H locs ls A K RR hB h1 h2 hl; exact lv_ldc2 A.1 A.2.1 A.2.2.2.2.1 (A.2.2.2.2.2.1 _ (Wd_in _ hw)) hd (k p l e s m below meth c H locs ls A K RR hB h1 h2 hl)
theorem l_if_eq {x : Int32} {off : Int} (tgt : Nat) (hd : decode code pc = .ok (.ifCond .eq off, 3)) (ht : (pc : Int) + off = (tgt : Int)) (kt : x = 0 → GoL G cs sl b L xs tgt lv rest h) (kf : ¬ x = 0 → GoL G cs sl b L xs (pc + 3) lv rest h) : GoL G cs sl b L xs pc lv (.int x :: rest) h := by intro p l e s m below meth c H locs ls A K RR hB h1 h2 hl; exact lv_if_eq A.1 A.2.1 hd ht (fun q => kt q p l e s m below meth c H locs ls A K RR hB h1 h2 hl) (fun q => kf q p l e s m below meth c H locs ls A K RR hB h1 h2 hl)
theorem l_icmp_eq {x y : Int32} {off : Int} (tgt : Nat) (hd : decode code pc = .ok (.if_icmp .eq off, 3)) (ht : (pc : Int) + off = (tgt : Int)) (kt : x = y → GoL G cs sl b L xs tgt lv rest h) (kf : ¬ x = y → GoL G cs sl b L xs (pc + 3) lv rest h) : GoL G cs sl b L xs pc lv (.int y :: .int x :: rest) h := by intro p l e s m below meth c H locs ls A K RR hB h1 h2 hl; exact lv_icmp_eq A.1 A.2.1 hd ht (fun q => kt q p l e s m below meth c H locs ls A K RR hB h1 h2 hl) (fun q => kf q p l e s m below meth c H locs ls A K RR hB h1 h2 hl)
theorem l_icmp_gt {x y : Int32} {off : Int} (tgt : Nat) (hd : decode code pc = .ok (.if_icmp .gt off, 3)) (ht : (pc : Int) + off = (tgt : Int)) (kt : y < x → GoL G cs sl b L xs tgt lv rest h) (kf : ¬ y < x → GoL G cs sl b L xs (pc + 3) lv rest h) : GoL G cs sl b L xs pc lv (.int y :: .int x :: rest) h := by intro p l e s m below meth c H locs ls A K RR hB h1 h2 hl; exact lv_icmp_gt A.1 A.2.1 hd ht (fun q => kt q p l e s m below meth c H locs ls A K RR hB h1 h2 hl) (fun q => kf q p l e s m below meth c H locs ls A K RR hB h1 h2 hl)
theorem l_lc_eq {x y : Int64} {off : Int} (tgt : Nat) (hd : decode code pc = .ok (.lcmp, 1)) (hd1 : decode code (pc + 1) = .ok (.ifCond .eq off, 3)) (ht : ((pc + 1 : Nat) : Int) + off = (tgt : Int)) (kt : x = y → GoL G cs sl b L xs tgt lv rest h) (kf : ¬ x = y → GoL G cs sl b L xs (pc + 1 + 3) lv rest h) : GoL G cs sl b L xs pc lv (.long y :: .long x :: rest) h := l_lcmp hd (l_if_eq tgt hd1 ht (fun q => kt ((lgc_eq x y).mp q)) (fun q => kf (fun z => q ((lgc_eq x y).mpr z))))
theorem l_goto {off : Int} (tgt : Nat) (hd : decode code pc = .ok (.goto off, 3)) (ht : (pc : Int) + off = (tgt : Int)) (k : GoL G cs sl b L xs tgt lv rest h) : GoL G cs sl b L xs pc lv rest h := by intro p l e s m below meth c H locs ls A K RR hB h1 h2 hl; exact lv_goto A.1 A.2.1 hd ht (k p l e s m below meth c H locs ls A K RR hB h1 h2 hl)
theorem l_lv (ps : List Nat) (hv : lv_pick lv ps = lv1) (k : GoL G cs sl b L xs pc lv1 rest h) : GoL G cs sl b L xs pc lv rest h := by intro p l e s m below meth c H locs ls A K RR hB h1 h2 hl; exact k p l e s m below meth c H locs ls A K RR hB h1 h2 (lv_sub hl ps hv)
theorem l_topi {x : Int32} (k : ∀ y : Int32, y = x → GoL G cs sl b L xs pc lv (.int y :: rest) h) : GoL G cs sl b L xs pc lv (.int x :: rest) h := k x rfl
theorem l_tswI {dflt lo hi off : Int} {offs : Array Int} {len : Nat} {x : Int32} (v : Int32) (tgt : Nat) (hd : decode code pc = .ok (.tableswitch dflt lo hi offs, len)) (hx : x = v) (q1 : ¬ v.toInt < lo) (q2 : ¬ hi < v.toInt) (ho : offs[(v.toInt - lo).toNat]? = some off) (ht : (pc : Int) + off = (tgt : Int)) (k : GoL G cs sl b L xs tgt lv rest h) : GoL G cs sl b L xs pc lv (.int x :: rest) h := by
  subst hx
  intro p l e s m below meth c H locs ls A K RR hB h1 h2 hl; exact lv_tableIn A.1 A.2.1 hd q1 q2 ho ht (k p l e s m below meth c H locs ls A K RR hB h1 h2 hl)
theorem l_tswD {dflt lo hi : Int} {offs : Array Int} {len : Nat} {x : Int32} (tgt : Nat) (hd : decode code pc = .ok (.tableswitch dflt lo hi offs, len)) (hx : x.toInt < lo ∨ hi < x.toInt) (ht : (pc : Int) + dflt = (tgt : Int)) (k : GoL G cs sl b L xs tgt lv rest h) : GoL G cs sl b L xs pc lv (.int x :: rest) h := by
  intro p l e s m below meth c H locs ls A K RR hB h1 h2 hl; exact lv_tableOut A.1 A.2.1 hd hx ht (k p l e s m below meth c H locs ls A K RR hB h1 h2 hl)
theorem l_out {s : State} (hB : G.2.2.2.2.2 = s.heap.size) (hb : b < s.heap.size) : ¬ gA G b := by
  show ¬ G.2.2.2.2.2 ≤ b
  omega
theorem l_sld {i : Int32} (hd : decode code pc = .ok (.iaload, 1)) (hin : vp_in i L) (k : GoL G cs sl b L xs (pc + 1) lv (.int (xs i.toNatClampNeg) :: rest) h) : GoL G cs sl b L xs pc lv (.int i :: .ref b :: rest) h := by
  intro p l e s m below meth c H locs ls A K RR hB h1 h2 hl; exact va_sld A.1 A.2.1 A.2.2.2.2.2.2.1 A.2.2.2.2.2.2.2.1 (l_out hB A.2.2.2.2.2.2.2.1) RR.2 hin hd (k p l e s m below meth c H locs ls A K RR hB h1 h2 hl)
theorem l_slen (hd : decode code pc = .ok (.arraylength, 1)) (k : GoL G cs sl b L xs (pc + 1) lv (.int (Int32.ofNat L) :: rest) h) : GoL G cs sl b L xs pc lv (.ref b :: rest) h := by
  intro p l e s m below meth c H locs ls A K RR hB h1 h2 hl; exact va_slen A.1 A.2.1 A.2.2.2.2.2.2.1 A.2.2.2.2.2.2.2.1 (l_out hB A.2.2.2.2.2.2.2.1) RR.2 hd (k p l e s m below meth c H locs ls A K RR hB h1 h2 hl)
theorem l_ret (hd : decode code pc = .ok (.ireturn, 1)) : GoL G cs sl b L xs pc lv [.int 1] h := by
  intro p l e s m below meth c H locs ls A K RR hB h1 h2 hl
  refine W.widen (k := 600000) (n := 7302250) h1 h2 ?_
  refine va_forget (fun q hq => ?_) (lw_ret A.1 A.2.1 A.2.2.1 A.2.2.2.2.2.2.2.2.1 hd)
  have := RR.2.2.2 q hq
  show s.heap.size ≤ q.base
  rw [← hB]
  exact this
theorem l_fix {p : Program} {s : State} {m : MethodId} {meth : Method} {c : Code} (A : lw_At p s m meth c b L xs) : CallFix p m c code 4 s #[Value.ref b] Wd R_law := ⟨A.1, A.2.1, A.2.2.2.1, A.2.2.2.2.1, fun w hw => A.2.2.2.2.2.1 w (Wd_in w hw)⟩
theorem l_callVI {y : MethodName} {cc1 : ByteArray} {nL1 index n d1 : Nat} {ret1 : Option FieldType} (As : List Value) {st0 : List Value} {Q1 : Int32 → Hp → Prop} {o ci : Nat} (hd : decode code pc = .ok (.invokevirtual index, 3)) (hw : Cond.methodLink R_law index y ∈ Wd) (hm : MokV y cc1 nL1 ret1 n) (hn : As.length = n) (hci : (vwCl[ci]?).map (fun r => r.1) = some y.cls) (ho : SH o = .inl ci) (hdep : d1 + 1 ≤ 1000) (hst : (rest.map fun v => v.category).sum ≤ 8) (hs0 : st0 = As.reverse ++ .ref (gAd G o) :: rest) (hM : Ct y cc1 nL1 ret1 d1 G (.ref (gAd G o) :: As) h (QI G Q1)) (kk : ∀ (r : Int32) (h1 : Hp), Q1 r h1 → GoL G cs sl b L xs (pc + 3) lv (.int r :: rest) h1) : GoL G cs sl b L xs pc lv st0 h := by
  subst hs0
  intro p l e s m below meth c H locs ls A K RR hB h1 h2 hl
  obtain ⟨r, hr1, hr2⟩ := Option.map_eq_some_iff.mp hci
  have hrec := va_recv K.1 RR.1 hr1 (wl_o ho)
  rw [hr2] at hrec
  have C := l_fix A
  have cb : CallB room_1 s #[Value.ref b] R_law index y cc1 nL1 ret1 (wsD y cc1 nL1 ret1) (rmD d1) 0 0 n := callB_of n C.2.2.2.2 (wsD_good hm.1) rfl rfl rfl (C.2.2.2.2 _ hm.1.1) (C.2.2.2.2 _ hw) hm.1.2.2.1 ⟨by show d1 + 1 ≤ 2048; omega, by show 8 + (nL1 + 11) + 64 * d1 ≤ 84000; have := hm.1.2.2.2; omega⟩
  exact va_calli (va_runV (As := As) (rest := rest) (C := y.cls) C (hM l) ⟨cb, C.2.2.2.2 _ hm.2.1, C.2.2.2.2 _ hm.2.2⟩ ⟨pcD_blind, hrec, fun U hU hW => pcD_pre K RR hU hW⟩ rfl hn hl.1 rfl (lv_room hst) hd ⟨h1, h2⟩) RR.2 (fun q _ hq => hq) (fun q hq => hq) (fun r u t H1 locs1 ht hvm hq hBB hz hk1 hS => kk r u hq p l e s m below meth c H1 locs1 ls A K ⟨by rw [← ht]; exact hBB, hS⟩ hB h1 h2 hl)
theorem l_callVJ {y : MethodName} {cc1 : ByteArray} {nL1 index n d1 : Nat} {ret1 : Option FieldType} (As : List Value) {st0 : List Value} {Q1 : Int64 → Hp → Prop} {o ci : Nat} (hd : decode code pc = .ok (.invokevirtual index, 3)) (hw : Cond.methodLink R_law index y ∈ Wd) (hm : MokV y cc1 nL1 ret1 n) (hn : As.length = n) (hci : (vwCl[ci]?).map (fun r => r.1) = some y.cls) (ho : SH o = .inl ci) (hdep : d1 + 1 ≤ 1000) (hst : (rest.map fun v => v.category).sum ≤ 8) (hs0 : st0 = As.reverse ++ .ref (gAd G o) :: rest) (hM : Ct y cc1 nL1 ret1 d1 G (.ref (gAd G o) :: As) h (QJ G Q1)) (kk : ∀ (r : Int64) (h1 : Hp), Q1 r h1 → GoL G cs sl b L xs (pc + 3) lv (.long r :: rest) h1) : GoL G cs sl b L xs pc lv st0 h := by
  subst hs0
  intro p l e s m below meth c H locs ls A K RR hB h1 h2 hl
  obtain ⟨r, hr1, hr2⟩ := Option.map_eq_some_iff.mp hci
  have hrec := va_recv K.1 RR.1 hr1 (wl_o ho)
  rw [hr2] at hrec
  have C := l_fix A
  have cb : CallB room_1 s #[Value.ref b] R_law index y cc1 nL1 ret1 (wsD y cc1 nL1 ret1) (rmD d1) 0 0 n := callB_of n C.2.2.2.2 (wsD_good hm.1) rfl rfl rfl (C.2.2.2.2 _ hm.1.1) (C.2.2.2.2 _ hw) hm.1.2.2.1 ⟨by show d1 + 1 ≤ 2048; omega, by show 8 + (nL1 + 11) + 64 * d1 ≤ 84000; have := hm.1.2.2.2; omega⟩
  exact va_calll (va_runV (As := As) (rest := rest) (C := y.cls) C (hM l) ⟨cb, C.2.2.2.2 _ hm.2.1, C.2.2.2.2 _ hm.2.2⟩ ⟨pcD_blind, hrec, fun U hU hW => pcD_pre K RR hU hW⟩ rfl hn hl.1 rfl (lv_room hst) hd ⟨h1, h2⟩) RR.2 (fun q _ hq => hq) (fun q hq => hq) (fun r u t H1 locs1 ht hvm hq hBB hz hk1 hS => kk r u hq p l e s m below meth c H1 locs1 ls A K ⟨by rw [← ht]; exact hBB, hS⟩ hB h1 h2 hl)
end LROWS
theorem ml_L_13 : Cond.methodLink R_law 13 yX11_feed ∈ Wd := mW 428 (by decide +kernel) rfl
theorem mk_X11_feed : MokV yX11_feed cX11_feed 6 (some .int) 5 := ⟨⟨mW 1 (by decide +kernel) rfl, mW 431 (by decide +kernel) rfl, ⟨by decide, by decide, by decide +kernel⟩, by decide⟩, mW 429 (by decide +kernel) rfl, mW 430 (by decide +kernel) rfl⟩
theorem ml_L_17 : Cond.methodLink R_law 17 yX12_feed ∈ Wd := mW 1522 (by decide +kernel) rfl
theorem mk_X12_feed : MokV yX12_feed cX12_feed 8 (some .int) 5 := ⟨⟨mW 14 (by decide +kernel) rfl, mW 1525 (by decide +kernel) rfl, ⟨by decide, by decide, by decide +kernel⟩, by decide⟩, mW 1523 (by decide +kernel) rfl, mW 1524 (by decide +kernel) rfl⟩
theorem ml_L_18 : Cond.methodLink R_law 18 yX11_land ∈ Wd := mW 436 (by decide +kernel) rfl
theorem mk_X11_land : MokV yX11_land cX11_land 2 (some .int) 1 := ⟨⟨mW 1 (by decide +kernel) rfl, mW 439 (by decide +kernel) rfl, ⟨by decide, by decide, by decide +kernel⟩, by decide⟩, mW 437 (by decide +kernel) rfl, mW 438 (by decide +kernel) rfl⟩
theorem ml_L_22 : Cond.methodLink R_law 22 yX12_land ∈ Wd := mW 1526 (by decide +kernel) rfl
theorem mk_X12_land : MokV yX12_land cX12_land 3 (some .int) 1 := ⟨⟨mW 14 (by decide +kernel) rfl, mW 1529 (by decide +kernel) rfl, ⟨by decide, by decide, by decide +kernel⟩, by decide⟩, mW 1527 (by decide +kernel) rfl, mW 1528 (by decide +kernel) rfl⟩
theorem ml_L_23 : Cond.methodLink R_law 23 yX11_fault ∈ Wd := mW 750 (by decide +kernel) rfl
theorem mk_X11_fault : MokV yX11_fault cX11_fault 2 (some .int) 1 := ⟨⟨mW 1 (by decide +kernel) rfl, mW 753 (by decide +kernel) rfl, ⟨by decide, by decide, by decide +kernel⟩, by decide⟩, mW 751 (by decide +kernel) rfl, mW 752 (by decide +kernel) rfl⟩
theorem ml_L_26 : Cond.methodLink R_law 26 yX12_fault ∈ Wd := mW 1630 (by decide +kernel) rfl
theorem mk_X12_fault : MokV yX12_fault cX12_fault 2 (some .int) 1 := ⟨⟨mW 14 (by decide +kernel) rfl, mW 1633 (by decide +kernel) rfl, ⟨by decide, by decide, by decide +kernel⟩, by decide⟩, mW 1631 (by decide +kernel) rfl, mW 1632 (by decide +kernel) rfl⟩
theorem ml_L_27 : Cond.methodLink R_law 27 yX11_place ∈ Wd := mW 754 (by decide +kernel) rfl
theorem mk_X11_place : MokV yX11_place cX11_place 3 (some .int) 2 := ⟨⟨mW 1 (by decide +kernel) rfl, mW 757 (by decide +kernel) rfl, ⟨by decide, by decide, by decide +kernel⟩, by decide⟩, mW 755 (by decide +kernel) rfl, mW 756 (by decide +kernel) rfl⟩
theorem ml_L_31 : Cond.methodLink R_law 31 yX12_place ∈ Wd := mW 1634 (by decide +kernel) rfl
theorem mk_X12_place : MokV yX12_place cX12_place 3 (some .int) 2 := ⟨⟨mW 14 (by decide +kernel) rfl, mW 1637 (by decide +kernel) rfl, ⟨by decide, by decide, by decide +kernel⟩, by decide⟩, mW 1635 (by decide +kernel) rfl, mW 1636 (by decide +kernel) rfl⟩
theorem ml_L_32 : Cond.methodLink R_law 32 yX11_road ∈ Wd := mW 805 (by decide +kernel) rfl
theorem mk_X11_road : MokV yX11_road cX11_road 3 (some .int) 2 := ⟨⟨mW 1 (by decide +kernel) rfl, mW 808 (by decide +kernel) rfl, ⟨by decide, by decide, by decide +kernel⟩, by decide⟩, mW 806 (by decide +kernel) rfl, mW 807 (by decide +kernel) rfl⟩
theorem ml_L_35 : Cond.methodLink R_law 35 yX12_road ∈ Wd := mW 1687 (by decide +kernel) rfl
theorem mk_X12_road : MokV yX12_road cX12_road 3 (some .int) 2 := ⟨⟨mW 14 (by decide +kernel) rfl, mW 1690 (by decide +kernel) rfl, ⟨by decide, by decide, by decide +kernel⟩, by decide⟩, mW 1688 (by decide +kernel) rfl, mW 1689 (by decide +kernel) rfl⟩
theorem ml_L_36 : Cond.methodLink R_law 36 yX11_pay ∈ Wd := mW 811 (by decide +kernel) rfl
theorem mk_X11_pay : MokV yX11_pay cX11_pay 2 (some .long) 1 := ⟨⟨mW 1 (by decide +kernel) rfl, mW 814 (by decide +kernel) rfl, ⟨by decide, by decide, by decide +kernel⟩, by decide⟩, mW 812 (by decide +kernel) rfl, mW 813 (by decide +kernel) rfl⟩
theorem ml_L_40 : Cond.methodLink R_law 40 yX12_pay ∈ Wd := mW 1695 (by decide +kernel) rfl
theorem mk_X12_pay : MokV yX12_pay cX12_pay 2 (some .long) 1 := ⟨⟨mW 14 (by decide +kernel) rfl, mW 1698 (by decide +kernel) rfl, ⟨by decide, by decide, by decide +kernel⟩, by decide⟩, mW 1696 (by decide +kernel) rfl, mW 1697 (by decide +kernel) rfl⟩
theorem ml_L_41 : Cond.methodLink R_law 41 yX11_move ∈ Wd := mW 823 (by decide +kernel) rfl
theorem mk_X11_move : MokV yX11_move cX11_move 5 (some .long) 1 := ⟨⟨mW 1 (by decide +kernel) rfl, mW 826 (by decide +kernel) rfl, ⟨by decide, by decide, by decide +kernel⟩, by decide⟩, mW 824 (by decide +kernel) rfl, mW 825 (by decide +kernel) rfl⟩
theorem ml_L_44 : Cond.methodLink R_law 44 yX12_move ∈ Wd := mW 1700 (by decide +kernel) rfl
theorem mk_X12_move : MokV yX12_move cX12_move 4 (some .long) 1 := ⟨⟨mW 14 (by decide +kernel) rfl, mW 1703 (by decide +kernel) rfl, ⟨by decide, by decide, by decide +kernel⟩, by decide⟩, mW 1701 (by decide +kernel) rfl, mW 1702 (by decide +kernel) rfl⟩
theorem ml_L_45 : Cond.methodLink R_law 45 yX11_moves ∈ Wd := mW 855 (by decide +kernel) rfl
theorem mk_X11_moves : MokV yX11_moves cX11_moves 5 (some .long) 1 := ⟨⟨mW 1 (by decide +kernel) rfl, mW 858 (by decide +kernel) rfl, ⟨by decide, by decide, by decide +kernel⟩, by decide⟩, mW 856 (by decide +kernel) rfl, mW 857 (by decide +kernel) rfl⟩
theorem ml_L_48 : Cond.methodLink R_law 48 yX12_moves ∈ Wd := mW 1726 (by decide +kernel) rfl
theorem mk_X12_moves : MokV yX12_moves cX12_moves 3 (some .long) 1 := ⟨⟨mW 14 (by decide +kernel) rfl, mW 1729 (by decide +kernel) rfl, ⟨by decide, by decide, by decide +kernel⟩, by decide⟩, mW 1727 (by decide +kernel) rfl, mW 1728 (by decide +kernel) rfl⟩
theorem ml_L_49 : Cond.methodLink R_law 49 yX11_plan ∈ Wd := mW 866 (by decide +kernel) rfl
theorem mk_X11_plan : MokV yX11_plan cX11_plan 5 (some .int) 2 := ⟨⟨mW 1 (by decide +kernel) rfl, mW 869 (by decide +kernel) rfl, ⟨by decide, by decide, by decide +kernel⟩, by decide⟩, mW 867 (by decide +kernel) rfl, mW 868 (by decide +kernel) rfl⟩
theorem ml_L_52 : Cond.methodLink R_law 52 yX12_plan ∈ Wd := mW 1732 (by decide +kernel) rfl
theorem mk_X12_plan : MokV yX12_plan cX12_plan 4 (some .int) 2 := ⟨⟨mW 14 (by decide +kernel) rfl, mW 1735 (by decide +kernel) rfl, ⟨by decide, by decide, by decide +kernel⟩, by decide⟩, mW 1733 (by decide +kernel) rfl, mW 1734 (by decide +kernel) rfl⟩
theorem ml_L_53 : Cond.methodLink R_law 53 yX11_plays ∈ Wd := mW 879 (by decide +kernel) rfl
theorem mk_X11_plays : MokV yX11_plays cX11_plays 6 (some .int) 1 := ⟨⟨mW 1 (by decide +kernel) rfl, mW 882 (by decide +kernel) rfl, ⟨by decide, by decide, by decide +kernel⟩, by decide⟩, mW 880 (by decide +kernel) rfl, mW 881 (by decide +kernel) rfl⟩
theorem ml_L_56 : Cond.methodLink R_law 56 yX12_plays ∈ Wd := mW 1741 (by decide +kernel) rfl
theorem mk_X12_plays : MokV yX12_plays cX12_plays 6 (some .int) 1 := ⟨⟨mW 14 (by decide +kernel) rfl, mW 1744 (by decide +kernel) rfl, ⟨by decide, by decide, by decide +kernel⟩, by decide⟩, mW 1742 (by decide +kernel) rfl, mW 1743 (by decide +kernel) rfl⟩
theorem ml_L_57 : Cond.methodLink R_law 57 yX11_weather ∈ Wd := mW 969 (by decide +kernel) rfl
theorem mk_X11_weather : MokV yX11_weather cX11_weather 3 (some .int) 1 := ⟨⟨mW 1 (by decide +kernel) rfl, mW 972 (by decide +kernel) rfl, ⟨by decide, by decide, by decide +kernel⟩, by decide⟩, mW 970 (by decide +kernel) rfl, mW 971 (by decide +kernel) rfl⟩
theorem ml_L_60 : Cond.methodLink R_law 60 yX12_weather ∈ Wd := mW 1785 (by decide +kernel) rfl
theorem mk_X12_weather : MokV yX12_weather cX12_weather 2 (some .int) 1 := ⟨⟨mW 14 (by decide +kernel) rfl, mW 1788 (by decide +kernel) rfl, ⟨by decide, by decide, by decide +kernel⟩, by decide⟩, mW 1786 (by decide +kernel) rfl, mW 1787 (by decide +kernel) rfl⟩
theorem ml_L_61 : Cond.methodLink R_law 61 yX11_undo ∈ Wd := mW 974 (by decide +kernel) rfl
theorem mk_X11_undo : MokV yX11_undo cX11_undo 3 (some .int) 1 := ⟨⟨mW 1 (by decide +kernel) rfl, mW 977 (by decide +kernel) rfl, ⟨by decide, by decide, by decide +kernel⟩, by decide⟩, mW 975 (by decide +kernel) rfl, mW 976 (by decide +kernel) rfl⟩
theorem ml_L_64 : Cond.methodLink R_law 64 yX12_undo ∈ Wd := mW 1790 (by decide +kernel) rfl
theorem mk_X12_undo : MokV yX12_undo cX12_undo 3 (some .int) 1 := ⟨⟨mW 14 (by decide +kernel) rfl, mW 1793 (by decide +kernel) rfl, ⟨by decide, by decide, by decide +kernel⟩, by decide⟩, mW 1791 (by decide +kernel) rfl, mW 1792 (by decide +kernel) rfl⟩
theorem ml_L_65 : Cond.methodLink R_law 65 yX11_judge ∈ Wd := mW 982 (by decide +kernel) rfl
theorem mk_X11_judge : MokV yX11_judge cX11_judge 6 (some .int) 2 := ⟨⟨mW 1 (by decide +kernel) rfl, mW 985 (by decide +kernel) rfl, ⟨by decide, by decide, by decide +kernel⟩, by decide⟩, mW 983 (by decide +kernel) rfl, mW 984 (by decide +kernel) rfl⟩
theorem ml_L_68 : Cond.methodLink R_law 68 yX12_judge ∈ Wd := mW 1795 (by decide +kernel) rfl
theorem mk_X12_judge : MokV yX12_judge cX12_judge 7 (some .int) 2 := ⟨⟨mW 14 (by decide +kernel) rfl, mW 1798 (by decide +kernel) rfl, ⟨by decide, by decide, by decide +kernel⟩, by decide⟩, mW 1796 (by decide +kernel) rfl, mW 1797 (by decide +kernel) rfl⟩
theorem ml_L_69 : Cond.methodLink R_law 69 yX11_perform ∈ Wd := mW 1022 (by decide +kernel) rfl
theorem mk_X11_perform : MokV yX11_perform cX11_perform 4 (some .int) 1 := ⟨⟨mW 1 (by decide +kernel) rfl, mW 1025 (by decide +kernel) rfl, ⟨by decide, by decide, by decide +kernel⟩, by decide⟩, mW 1023 (by decide +kernel) rfl, mW 1024 (by decide +kernel) rfl⟩
theorem ml_L_72 : Cond.methodLink R_law 72 yX12_perform ∈ Wd := mW 1826 (by decide +kernel) rfl
theorem mk_X12_perform : MokV yX12_perform cX12_perform 4 (some .int) 1 := ⟨⟨mW 14 (by decide +kernel) rfl, mW 1829 (by decide +kernel) rfl, ⟨by decide, by decide, by decide +kernel⟩, by decide⟩, mW 1827 (by decide +kernel) rfl, mW 1828 (by decide +kernel) rfl⟩
theorem ml_L_73 : Cond.methodLink R_law 73 yX11_journey ∈ Wd := mW 1026 (by decide +kernel) rfl
theorem mk_X11_journey : MokV yX11_journey cX11_journey 8 (some .int) 2 := ⟨⟨mW 1 (by decide +kernel) rfl, mW 1029 (by decide +kernel) rfl, ⟨by decide, by decide, by decide +kernel⟩, by decide⟩, mW 1027 (by decide +kernel) rfl, mW 1028 (by decide +kernel) rfl⟩
theorem ml_L_76 : Cond.methodLink R_law 76 yX12_journey ∈ Wd := mW 1830 (by decide +kernel) rfl
theorem mk_X12_journey : MokV yX12_journey cX12_journey 6 (some .int) 2 := ⟨⟨mW 14 (by decide +kernel) rfl, mW 1833 (by decide +kernel) rfl, ⟨by decide, by decide, by decide +kernel⟩, by decide⟩, mW 1831 (by decide +kernel) rfl, mW 1832 (by decide +kernel) rfl⟩
theorem ml_L_77 : Cond.methodLink R_law 77 yX11_rings ∈ Wd := mW 1034 (by decide +kernel) rfl
theorem mk_X11_rings : MokV yX11_rings cX11_rings 1 (some .int) 0 := ⟨⟨mW 1 (by decide +kernel) rfl, mW 1037 (by decide +kernel) rfl, ⟨by decide, by decide, by decide +kernel⟩, by decide⟩, mW 1035 (by decide +kernel) rfl, mW 1036 (by decide +kernel) rfl⟩
theorem ml_L_81 : Cond.methodLink R_law 81 yX12_rings ∈ Wd := mW 1844 (by decide +kernel) rfl
theorem mk_X12_rings : MokV yX12_rings cX12_rings 1 (some .int) 0 := ⟨⟨mW 14 (by decide +kernel) rfl, mW 1847 (by decide +kernel) rfl, ⟨by decide, by decide, by decide +kernel⟩, by decide⟩, mW 1845 (by decide +kernel) rfl, mW 1846 (by decide +kernel) rfl⟩
theorem ml_L_82 : Cond.methodLink R_law 82 yX11_ring ∈ Wd := mW 1044 (by decide +kernel) rfl
theorem mk_X11_ring : MokV yX11_ring cX11_ring 4 (some .long) 3 := ⟨⟨mW 1 (by decide +kernel) rfl, mW 1047 (by decide +kernel) rfl, ⟨by decide, by decide, by decide +kernel⟩, by decide⟩, mW 1045 (by decide +kernel) rfl, mW 1046 (by decide +kernel) rfl⟩
theorem ml_L_86 : Cond.methodLink R_law 86 yX12_ring ∈ Wd := mW 1848 (by decide +kernel) rfl
theorem mk_X12_ring : MokV yX12_ring cX12_ring 4 (some .long) 3 := ⟨⟨mW 14 (by decide +kernel) rfl, mW 1851 (by decide +kernel) rfl, ⟨by decide, by decide, by decide +kernel⟩, by decide⟩, mW 1849 (by decide +kernel) rfl, mW 1850 (by decide +kernel) rfl⟩
theorem ml_L_87 : Cond.methodLink R_law 87 yX11_reach ∈ Wd := mW 1055 (by decide +kernel) rfl
theorem mk_X11_reach : MokV yX11_reach cX11_reach 2 (some .int) 1 := ⟨⟨mW 1 (by decide +kernel) rfl, mW 1058 (by decide +kernel) rfl, ⟨by decide, by decide, by decide +kernel⟩, by decide⟩, mW 1056 (by decide +kernel) rfl, mW 1057 (by decide +kernel) rfl⟩
theorem ml_L_90 : Cond.methodLink R_law 90 yX12_reach ∈ Wd := mW 1866 (by decide +kernel) rfl
theorem mk_X12_reach : MokV yX12_reach cX12_reach 2 (some .int) 1 := ⟨⟨mW 14 (by decide +kernel) rfl, mW 1869 (by decide +kernel) rfl, ⟨by decide, by decide, by decide +kernel⟩, by decide⟩, mW 1867 (by decide +kernel) rfl, mW 1868 (by decide +kernel) rfl⟩
theorem ml_L_91 : Cond.methodLink R_law 91 yX11_onRing ∈ Wd := mW 1059 (by decide +kernel) rfl
theorem mk_X11_onRing : MokV yX11_onRing cX11_onRing 2 (some .int) 1 := ⟨⟨mW 1 (by decide +kernel) rfl, mW 1062 (by decide +kernel) rfl, ⟨by decide, by decide, by decide +kernel⟩, by decide⟩, mW 1060 (by decide +kernel) rfl, mW 1061 (by decide +kernel) rfl⟩
theorem ml_L_94 : Cond.methodLink R_law 94 yX12_onRing ∈ Wd := mW 1870 (by decide +kernel) rfl
theorem mk_X12_onRing : MokV yX12_onRing cX12_onRing 5 (some .int) 1 := ⟨⟨mW 14 (by decide +kernel) rfl, mW 1873 (by decide +kernel) rfl, ⟨by decide, by decide, by decide +kernel⟩, by decide⟩, mW 1871 (by decide +kernel) rfl, mW 1872 (by decide +kernel) rfl⟩
theorem ml_L_95 : Cond.methodLink R_law 95 yX11_worth ∈ Wd := mW 1075 (by decide +kernel) rfl
theorem mk_X11_worth : MokV yX11_worth cX11_worth 3 (some .long) 2 := ⟨⟨mW 1 (by decide +kernel) rfl, mW 1078 (by decide +kernel) rfl, ⟨by decide, by decide, by decide +kernel⟩, by decide⟩, mW 1076 (by decide +kernel) rfl, mW 1077 (by decide +kernel) rfl⟩
theorem ml_L_99 : Cond.methodLink R_law 99 yX12_worth ∈ Wd := mW 1874 (by decide +kernel) rfl
theorem mk_X12_worth : MokV yX12_worth cX12_worth 3 (some .long) 2 := ⟨⟨mW 14 (by decide +kernel) rfl, mW 1877 (by decide +kernel) rfl, ⟨by decide, by decide, by decide +kernel⟩, by decide⟩, mW 1875 (by decide +kernel) rfl, mW 1876 (by decide +kernel) rfl⟩
theorem ml_L_100 : Cond.methodLink R_law 100 yX11_wins ∈ Wd := mW 1083 (by decide +kernel) rfl
theorem mk_X11_wins : MokV yX11_wins cX11_wins 4 (some .int) 1 := ⟨⟨mW 1 (by decide +kernel) rfl, mW 1086 (by decide +kernel) rfl, ⟨by decide, by decide, by decide +kernel⟩, by decide⟩, mW 1084 (by decide +kernel) rfl, mW 1085 (by decide +kernel) rfl⟩
theorem ml_L_103 : Cond.methodLink R_law 103 yX12_wins ∈ Wd := mW 1878 (by decide +kernel) rfl
theorem mk_X12_wins : MokV yX12_wins cX12_wins 5 (some .int) 1 := ⟨⟨mW 14 (by decide +kernel) rfl, mW 1881 (by decide +kernel) rfl, ⟨by decide, by decide, by decide +kernel⟩, by decide⟩, mW 1879 (by decide +kernel) rfl, mW 1880 (by decide +kernel) rfl⟩
theorem ml_L_104 : Cond.methodLink R_law 104 yX11_atLeast ∈ Wd := mW 1090 (by decide +kernel) rfl
theorem mk_X11_atLeast : MokV yX11_atLeast cX11_atLeast 4 (some .int) 3 := ⟨⟨mW 1 (by decide +kernel) rfl, mW 1093 (by decide +kernel) rfl, ⟨by decide, by decide, by decide +kernel⟩, by decide⟩, mW 1091 (by decide +kernel) rfl, mW 1092 (by decide +kernel) rfl⟩
theorem ml_L_108 : Cond.methodLink R_law 108 yX12_atLeast ∈ Wd := mW 1883 (by decide +kernel) rfl
theorem mk_X12_atLeast : MokV yX12_atLeast cX12_atLeast 4 (some .int) 3 := ⟨⟨mW 14 (by decide +kernel) rfl, mW 1886 (by decide +kernel) rfl, ⟨by decide, by decide, by decide +kernel⟩, by decide⟩, mW 1884 (by decide +kernel) rfl, mW 1885 (by decide +kernel) rfl⟩
theorem ml_L_109 : Cond.methodLink R_law 109 yX11_best ∈ Wd := mW 1094 (by decide +kernel) rfl
theorem mk_X11_best : MokV yX11_best cX11_best 2 (some .int) 1 := ⟨⟨mW 1 (by decide +kernel) rfl, mW 1097 (by decide +kernel) rfl, ⟨by decide, by decide, by decide +kernel⟩, by decide⟩, mW 1095 (by decide +kernel) rfl, mW 1096 (by decide +kernel) rfl⟩
theorem ml_L_112 : Cond.methodLink R_law 112 yX12_best ∈ Wd := mW 1889 (by decide +kernel) rfl
theorem mk_X12_best : MokV yX12_best cX12_best 2 (some .int) 1 := ⟨⟨mW 14 (by decide +kernel) rfl, mW 1892 (by decide +kernel) rfl, ⟨by decide, by decide, by decide +kernel⟩, by decide⟩, mW 1890 (by decide +kernel) rfl, mW 1891 (by decide +kernel) rfl⟩
theorem ml_L_113 : Cond.methodLink R_law 113 yX11_secures ∈ Wd := mW 1098 (by decide +kernel) rfl
theorem mk_X11_secures : MokV yX11_secures cX11_secures 4 (some .long) 3 := ⟨⟨mW 1 (by decide +kernel) rfl, mW 1101 (by decide +kernel) rfl, ⟨by decide, by decide, by decide +kernel⟩, by decide⟩, mW 1099 (by decide +kernel) rfl, mW 1100 (by decide +kernel) rfl⟩
theorem ml_L_116 : Cond.methodLink R_law 116 yX12_secures ∈ Wd := mW 1893 (by decide +kernel) rfl
theorem mk_X12_secures : MokV yX12_secures cX12_secures 4 (some .long) 3 := ⟨⟨mW 14 (by decide +kernel) rfl, mW 1896 (by decide +kernel) rfl, ⟨by decide, by decide, by decide +kernel⟩, by decide⟩, mW 1894 (by decide +kernel) rfl, mW 1895 (by decide +kernel) rfl⟩
theorem ml_L_117 : Cond.methodLink R_law 117 yX11_meet ∈ Wd := mW 1111 (by decide +kernel) rfl
theorem mk_X11_meet : MokV yX11_meet cX11_meet 3 (some .int) 0 := ⟨⟨mW 1 (by decide +kernel) rfl, mW 1114 (by decide +kernel) rfl, ⟨by decide, by decide, by decide +kernel⟩, by decide⟩, mW 1112 (by decide +kernel) rfl, mW 1113 (by decide +kernel) rfl⟩
theorem ml_L_120 : Cond.methodLink R_law 120 yX12_meet ∈ Wd := mW 1901 (by decide +kernel) rfl
theorem mk_X12_meet : MokV yX12_meet cX12_meet 3 (some .int) 0 := ⟨⟨mW 14 (by decide +kernel) rfl, mW 1904 (by decide +kernel) rfl, ⟨by decide, by decide, by decide +kernel⟩, by decide⟩, mW 1902 (by decide +kernel) rfl, mW 1903 (by decide +kernel) rfl⟩
theorem ml_L_121 : Cond.methodLink R_law 121 yX11_plans ∈ Wd := mW 1115 (by decide +kernel) rfl
theorem mk_X11_plans : MokV yX11_plans cX11_plans 3 (some .int) 2 := ⟨⟨mW 1 (by decide +kernel) rfl, mW 1118 (by decide +kernel) rfl, ⟨by decide, by decide, by decide +kernel⟩, by decide⟩, mW 1116 (by decide +kernel) rfl, mW 1117 (by decide +kernel) rfl⟩
theorem ml_L_124 : Cond.methodLink R_law 124 yX12_plans ∈ Wd := mW 1905 (by decide +kernel) rfl
theorem mk_X12_plans : MokV yX12_plans cX12_plans 3 (some .int) 2 := ⟨⟨mW 14 (by decide +kernel) rfl, mW 1908 (by decide +kernel) rfl, ⟨by decide, by decide, by decide +kernel⟩, by decide⟩, mW 1906 (by decide +kernel) rfl, mW 1907 (by decide +kernel) rfl⟩
theorem ml_L_125 : Cond.methodLink R_law 125 yX11_energy ∈ Wd := mW 1123 (by decide +kernel) rfl
theorem mk_X11_energy : MokV yX11_energy cX11_energy 2 (some .int) 1 := ⟨⟨mW 1 (by decide +kernel) rfl, mW 1126 (by decide +kernel) rfl, ⟨by decide, by decide, by decide +kernel⟩, by decide⟩, mW 1124 (by decide +kernel) rfl, mW 1125 (by decide +kernel) rfl⟩
theorem ml_L_128 : Cond.methodLink R_law 128 yX12_energy ∈ Wd := mW 1909 (by decide +kernel) rfl
theorem mk_X12_energy : MokV yX12_energy cX12_energy 5 (some .int) 1 := ⟨⟨mW 14 (by decide +kernel) rfl, mW 1912 (by decide +kernel) rfl, ⟨by decide, by decide, by decide +kernel⟩, by decide⟩, mW 1910 (by decide +kernel) rfl, mW 1911 (by decide +kernel) rfl⟩
theorem kl_L_129 : Cond.constantLong R_law 129 (4294967295) ∈ Wd := mW 2041 (by decide +kernel) rfl
theorem ml_L_131 : Cond.methodLink R_law 131 yX11_at ∈ Wd := mW 1146 (by decide +kernel) rfl
theorem mk_X11_at : MokV yX11_at cX11_at 3 (some .int) 1 := ⟨⟨mW 1 (by decide +kernel) rfl, mW 1149 (by decide +kernel) rfl, ⟨by decide, by decide, by decide +kernel⟩, by decide⟩, mW 1147 (by decide +kernel) rfl, mW 1148 (by decide +kernel) rfl⟩
theorem ml_L_135 : Cond.methodLink R_law 135 yX12_at ∈ Wd := mW 1918 (by decide +kernel) rfl
theorem mk_X12_at : MokV yX12_at cX12_at 3 (some .int) 1 := ⟨⟨mW 14 (by decide +kernel) rfl, mW 1921 (by decide +kernel) rfl, ⟨by decide, by decide, by decide +kernel⟩, by decide⟩, mW 1919 (by decide +kernel) rfl, mW 1920 (by decide +kernel) rfl⟩
theorem ml_L_136 : Cond.methodLink R_law 136 yX11_purse ∈ Wd := mW 1169 (by decide +kernel) rfl
theorem mk_X11_purse : MokV yX11_purse cX11_purse 3 (some .long) 1 := ⟨⟨mW 1 (by decide +kernel) rfl, mW 1172 (by decide +kernel) rfl, ⟨by decide, by decide, by decide +kernel⟩, by decide⟩, mW 1170 (by decide +kernel) rfl, mW 1171 (by decide +kernel) rfl⟩
theorem ml_L_140 : Cond.methodLink R_law 140 yX12_purse ∈ Wd := mW 1931 (by decide +kernel) rfl
theorem mk_X12_purse : MokV yX12_purse cX12_purse 3 (some .long) 1 := ⟨⟨mW 14 (by decide +kernel) rfl, mW 1934 (by decide +kernel) rfl, ⟨by decide, by decide, by decide +kernel⟩, by decide⟩, mW 1932 (by decide +kernel) rfl, mW 1933 (by decide +kernel) rfl⟩
theorem ml_L_141 : Cond.methodLink R_law 141 yX11_round ∈ Wd := mW 1181 (by decide +kernel) rfl
theorem mk_X11_round : MokV yX11_round cX11_round 2 (some .int) 1 := ⟨⟨mW 1 (by decide +kernel) rfl, mW 1184 (by decide +kernel) rfl, ⟨by decide, by decide, by decide +kernel⟩, by decide⟩, mW 1182 (by decide +kernel) rfl, mW 1183 (by decide +kernel) rfl⟩
theorem ml_L_144 : Cond.methodLink R_law 144 yX12_round ∈ Wd := mW 1939 (by decide +kernel) rfl
theorem mk_X12_round : MokV yX12_round cX12_round 2 (some .int) 1 := ⟨⟨mW 14 (by decide +kernel) rfl, mW 1942 (by decide +kernel) rfl, ⟨by decide, by decide, by decide +kernel⟩, by decide⟩, mW 1940 (by decide +kernel) rfl, mW 1941 (by decide +kernel) rfl⟩
theorem ml_L_145 : Cond.methodLink R_law 145 yX11_paid ∈ Wd := mW 1185 (by decide +kernel) rfl
theorem mk_X11_paid : MokV yX11_paid cX11_paid 2 (some .long) 1 := ⟨⟨mW 1 (by decide +kernel) rfl, mW 1188 (by decide +kernel) rfl, ⟨by decide, by decide, by decide +kernel⟩, by decide⟩, mW 1186 (by decide +kernel) rfl, mW 1187 (by decide +kernel) rfl⟩
theorem ml_L_148 : Cond.methodLink R_law 148 yX12_paid ∈ Wd := mW 1943 (by decide +kernel) rfl
theorem mk_X12_paid : MokV yX12_paid cX12_paid 5 (some .long) 1 := ⟨⟨mW 14 (by decide +kernel) rfl, mW 1946 (by decide +kernel) rfl, ⟨by decide, by decide, by decide +kernel⟩, by decide⟩, mW 1944 (by decide +kernel) rfl, mW 1945 (by decide +kernel) rfl⟩
theorem ml_L_149 : Cond.methodLink R_law 149 yX11_rows ∈ Wd := mW 1195 (by decide +kernel) rfl
theorem mk_X11_rows : MokV yX11_rows cX11_rows 3 (some .int) 2 := ⟨⟨mW 1 (by decide +kernel) rfl, mW 1198 (by decide +kernel) rfl, ⟨by decide, by decide, by decide +kernel⟩, by decide⟩, mW 1196 (by decide +kernel) rfl, mW 1197 (by decide +kernel) rfl⟩
theorem ml_L_152 : Cond.methodLink R_law 152 yX12_rows ∈ Wd := mW 1947 (by decide +kernel) rfl
theorem mk_X12_rows : MokV yX12_rows cX12_rows 3 (some .int) 2 := ⟨⟨mW 14 (by decide +kernel) rfl, mW 1950 (by decide +kernel) rfl, ⟨by decide, by decide, by decide +kernel⟩, by decide⟩, mW 1948 (by decide +kernel) rfl, mW 1949 (by decide +kernel) rfl⟩
theorem ml_L_153 : Cond.methodLink R_law 153 yX11_sums ∈ Wd := mW 1253 (by decide +kernel) rfl
theorem mk_X11_sums : MokV yX11_sums cX11_sums 2 (some .int) 1 := ⟨⟨mW 1 (by decide +kernel) rfl, mW 1256 (by decide +kernel) rfl, ⟨by decide, by decide, by decide +kernel⟩, by decide⟩, mW 1254 (by decide +kernel) rfl, mW 1255 (by decide +kernel) rfl⟩
theorem ml_L_156 : Cond.methodLink R_law 156 yX12_sums ∈ Wd := mW 1962 (by decide +kernel) rfl
theorem mk_X12_sums : MokV yX12_sums cX12_sums 4 (some .int) 1 := ⟨⟨mW 14 (by decide +kernel) rfl, mW 1965 (by decide +kernel) rfl, ⟨by decide, by decide, by decide +kernel⟩, by decide⟩, mW 1963 (by decide +kernel) rfl, mW 1964 (by decide +kernel) rfl⟩
theorem ml_L_157 : Cond.methodLink R_law 157 yX11_sumsAt ∈ Wd := mW 1261 (by decide +kernel) rfl
theorem mk_X11_sumsAt : MokV yX11_sumsAt cX11_sumsAt 3 (some .int) 2 := ⟨⟨mW 1 (by decide +kernel) rfl, mW 1264 (by decide +kernel) rfl, ⟨by decide, by decide, by decide +kernel⟩, by decide⟩, mW 1262 (by decide +kernel) rfl, mW 1263 (by decide +kernel) rfl⟩
theorem ml_L_160 : Cond.methodLink R_law 160 yX12_sumsAt ∈ Wd := mW 1966 (by decide +kernel) rfl
theorem mk_X12_sumsAt : MokV yX12_sumsAt cX12_sumsAt 5 (some .int) 2 := ⟨⟨mW 14 (by decide +kernel) rfl, mW 1969 (by decide +kernel) rfl, ⟨by decide, by decide, by decide +kernel⟩, by decide⟩, mW 1967 (by decide +kernel) rfl, mW 1968 (by decide +kernel) rfl⟩
theorem ml_L_161 : Cond.methodLink R_law 161 yX11_weathers ∈ Wd := mW 1265 (by decide +kernel) rfl
theorem ml_L_164 : Cond.methodLink R_law 164 yX12_weathers ∈ Wd := mW 1970 (by decide +kernel) rfl
theorem mk_X12_weathers : MokV yX12_weathers cX12_weathers 3 (some .int) 1 := ⟨⟨mW 14 (by decide +kernel) rfl, mW 1973 (by decide +kernel) rfl, ⟨by decide, by decide, by decide +kernel⟩, by decide⟩, mW 1971 (by decide +kernel) rfl, mW 1972 (by decide +kernel) rfl⟩
theorem ml_L_165 : Cond.methodLink R_law 165 yX11_ask ∈ Wd := mW 1277 (by decide +kernel) rfl
theorem mk_X11_ask : MokV yX11_ask cX11_ask 7 (some .int) 1 := ⟨⟨mW 1 (by decide +kernel) rfl, mW 1280 (by decide +kernel) rfl, ⟨by decide, by decide, by decide +kernel⟩, by decide⟩, mW 1278 (by decide +kernel) rfl, mW 1279 (by decide +kernel) rfl⟩
theorem ml_L_168 : Cond.methodLink R_law 168 yX12_ask ∈ Wd := mW 1984 (by decide +kernel) rfl
theorem mk_X12_ask : MokV yX12_ask cX12_ask 8 (some .int) 1 := ⟨⟨mW 14 (by decide +kernel) rfl, mW 1987 (by decide +kernel) rfl, ⟨by decide, by decide, by decide +kernel⟩, by decide⟩, mW 1985 (by decide +kernel) rfl, mW 1986 (by decide +kernel) rfl⟩
theorem ml_L_169 : Cond.methodLink R_law 169 yX11_chance ∈ Wd := mW 1288 (by decide +kernel) rfl
theorem mk_X11_chance : MokV yX11_chance cX11_chance 5 (some .int) 2 := ⟨⟨mW 1 (by decide +kernel) rfl, mW 1291 (by decide +kernel) rfl, ⟨by decide, by decide, by decide +kernel⟩, by decide⟩, mW 1289 (by decide +kernel) rfl, mW 1290 (by decide +kernel) rfl⟩
theorem ml_L_172 : Cond.methodLink R_law 172 yX12_chance ∈ Wd := mW 1992 (by decide +kernel) rfl
theorem mk_X12_chance : MokV yX12_chance cX12_chance 3 (some .int) 2 := ⟨⟨mW 14 (by decide +kernel) rfl, mW 1995 (by decide +kernel) rfl, ⟨by decide, by decide, by decide +kernel⟩, by decide⟩, mW 1993 (by decide +kernel) rfl, mW 1994 (by decide +kernel) rfl⟩
theorem ml_L_173 : Cond.methodLink R_law 173 yX11_mean ∈ Wd := mW 1309 (by decide +kernel) rfl
theorem mk_X11_mean : MokV yX11_mean cX11_mean 5 (some .long) 2 := ⟨⟨mW 1 (by decide +kernel) rfl, mW 1312 (by decide +kernel) rfl, ⟨by decide, by decide, by decide +kernel⟩, by decide⟩, mW 1310 (by decide +kernel) rfl, mW 1311 (by decide +kernel) rfl⟩
theorem ml_L_176 : Cond.methodLink R_law 176 yX12_mean ∈ Wd := mW 2008 (by decide +kernel) rfl
theorem mk_X12_mean : MokV yX12_mean cX12_mean 3 (some .long) 2 := ⟨⟨mW 14 (by decide +kernel) rfl, mW 2011 (by decide +kernel) rfl, ⟨by decide, by decide, by decide +kernel⟩, by decide⟩, mW 2009 (by decide +kernel) rfl, mW 2010 (by decide +kernel) rfl⟩
theorem ml_L_177 : Cond.methodLink R_law 177 yX11_numbers ∈ Wd := mW 1317 (by decide +kernel) rfl
theorem mk_X11_numbers : MokV yX11_numbers cX11_numbers 4 (some .int) 3 := ⟨⟨mW 1 (by decide +kernel) rfl, mW 1320 (by decide +kernel) rfl, ⟨by decide, by decide, by decide +kernel⟩, by decide⟩, mW 1318 (by decide +kernel) rfl, mW 1319 (by decide +kernel) rfl⟩
theorem ml_L_180 : Cond.methodLink R_law 180 yX12_numbers ∈ Wd := mW 2012 (by decide +kernel) rfl
theorem mk_X12_numbers : MokV yX12_numbers cX12_numbers 5 (some .int) 3 := ⟨⟨mW 14 (by decide +kernel) rfl, mW 2015 (by decide +kernel) rfl, ⟨by decide, by decide, by decide +kernel⟩, by decide⟩, mW 2013 (by decide +kernel) rfl, mW 2014 (by decide +kernel) rfl⟩
theorem ml_L_181 : Cond.methodLink R_law 181 yX11_write ∈ Wd := mW 1329 (by decide +kernel) rfl
theorem mk_X11_write : MokV yX11_write cX11_write 6 (some .long) 3 := ⟨⟨mW 1 (by decide +kernel) rfl, mW 1332 (by decide +kernel) rfl, ⟨by decide, by decide, by decide +kernel⟩, by decide⟩, mW 1330 (by decide +kernel) rfl, mW 1331 (by decide +kernel) rfl⟩
theorem ml_L_185 : Cond.methodLink R_law 185 yX12_write ∈ Wd := mW 2016 (by decide +kernel) rfl
theorem mk_X12_write : MokV yX12_write cX12_write 6 (some .long) 3 := ⟨⟨mW 14 (by decide +kernel) rfl, mW 2019 (by decide +kernel) rfl, ⟨by decide, by decide, by decide +kernel⟩, by decide⟩, mW 2017 (by decide +kernel) rfl, mW 2018 (by decide +kernel) rfl⟩
theorem ml_L_186 : Cond.methodLink R_law 186 yX11_lists ∈ Wd := mW 1344 (by decide +kernel) rfl
theorem mk_X11_lists : MokV yX11_lists cX11_lists 4 (some .int) 1 := ⟨⟨mW 1 (by decide +kernel) rfl, mW 1347 (by decide +kernel) rfl, ⟨by decide, by decide, by decide +kernel⟩, by decide⟩, mW 1345 (by decide +kernel) rfl, mW 1346 (by decide +kernel) rfl⟩
theorem ml_L_189 : Cond.methodLink R_law 189 yX12_lists ∈ Wd := mW 2024 (by decide +kernel) rfl
theorem mk_X12_lists : MokV yX12_lists cX12_lists 4 (some .int) 1 := ⟨⟨mW 14 (by decide +kernel) rfl, mW 2027 (by decide +kernel) rfl, ⟨by decide, by decide, by decide +kernel⟩, by decide⟩, mW 2025 (by decide +kernel) rfl, mW 2026 (by decide +kernel) rfl⟩
theorem ml_L_190 : Cond.methodLink R_law 190 yX11_image ∈ Wd := mW 1352 (by decide +kernel) rfl
theorem mk_X11_image : MokV yX11_image cX11_image 2 (some .int) 1 := ⟨⟨mW 1 (by decide +kernel) rfl, mW 1355 (by decide +kernel) rfl, ⟨by decide, by decide, by decide +kernel⟩, by decide⟩, mW 1353 (by decide +kernel) rfl, mW 1354 (by decide +kernel) rfl⟩
theorem ml_L_193 : Cond.methodLink R_law 193 yX12_image ∈ Wd := mW 2028 (by decide +kernel) rfl
theorem mk_X12_image : MokV yX12_image cX12_image 3 (some .int) 1 := ⟨⟨mW 14 (by decide +kernel) rfl, mW 2031 (by decide +kernel) rfl, ⟨by decide, by decide, by decide +kernel⟩, by decide⟩, mW 2029 (by decide +kernel) rfl, mW 2030 (by decide +kernel) rfl⟩
theorem ml_L_194 : Cond.methodLink R_law 194 yX11_restore ∈ Wd := mW 1364 (by decide +kernel) rfl
theorem mk_X11_restore : MokV yX11_restore cX11_restore 2 (some .int) 1 := ⟨⟨mW 1 (by decide +kernel) rfl, mW 1367 (by decide +kernel) rfl, ⟨by decide, by decide, by decide +kernel⟩, by decide⟩, mW 1365 (by decide +kernel) rfl, mW 1366 (by decide +kernel) rfl⟩
theorem ml_L_197 : Cond.methodLink R_law 197 yX12_restore ∈ Wd := mW 2032 (by decide +kernel) rfl
theorem mk_X12_restore : MokV yX12_restore cX12_restore 3 (some .int) 1 := ⟨⟨mW 14 (by decide +kernel) rfl, mW 2035 (by decide +kernel) rfl, ⟨by decide, by decide, by decide +kernel⟩, by decide⟩, mW 2033 (by decide +kernel) rfl, mW 2034 (by decide +kernel) rfl⟩
theorem ml_L_198 : Cond.methodLink R_law 198 yX11_count ∈ Wd := mW 1368 (by decide +kernel) rfl
theorem mk_X11_count : MokV yX11_count cX11_count 2 (some .int) 1 := ⟨⟨mW 1 (by decide +kernel) rfl, mW 1371 (by decide +kernel) rfl, ⟨by decide, by decide, by decide +kernel⟩, by decide⟩, mW 1369 (by decide +kernel) rfl, mW 1370 (by decide +kernel) rfl⟩
theorem ml_L_201 : Cond.methodLink R_law 201 yX12_count ∈ Wd := mW 2036 (by decide +kernel) rfl
theorem mk_X12_count : MokV yX12_count cX12_count 2 (some .int) 1 := ⟨⟨mW 14 (by decide +kernel) rfl, mW 2039 (by decide +kernel) rfl, ⟨by decide, by decide, by decide +kernel⟩, by decide⟩, mW 2037 (by decide +kernel) rfl, mW 2038 (by decide +kernel) rfl⟩
