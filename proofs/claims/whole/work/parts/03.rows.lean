/-- the words that every method has -/
def Wd : List Cond := lw_tbl.filter goodWord
theorem mW {w : Cond} (i : Nat) (h : tables_1[i]? = some w) (hg : goodWord w = true) : w ∈ Wd := List.mem_filter.mpr ⟨List.mem_append_right _ (List.mem_of_getElem? h), hg⟩
theorem mS {q : MethodName × Nat} (i : Nat) (h : lw_privs[i]? = some q) : Cond.selects q.1.cls q.1 q.1 ∈ Wd := List.mem_filter.mpr ⟨List.mem_append_left _ (List.mem_map.mpr ⟨q, List.mem_of_getElem? h, rfl⟩), rfl⟩
theorem Wd_good {w : Cond} (h : w ∈ Wd) : (w.onTables && w.keeps) = true ∨ ∃ ty, w = .arrayClass ty := good_of_word (List.mem_filter.mp h).2
theorem Wd_in : ∀ w ∈ Wd, w ∈ lw_tbl := fun _ h => (List.mem_filter.mp h).1
def stT : List (String × Nat × String) := [("MeanRoads$Tokens", 48, ";:+-*()[]=<>"), ("MeanRoads$Reader", 73, "land"), ("MeanRoads$Reader", 79, "weather"), ("MeanRoads$Reader", 85, ";"), ("MeanRoads$Reader", 117, "place"), ("MeanRoads$Reader", 144, "mine"), ("MeanRoads$Reader", 145, "yours"), ("MeanRoads$Reader", 122, "road"), ("MeanRoads$Reader", 147, "gains"), ("MeanRoads$Reader", 149, "loses"), ("MeanRoads$Reader", 127, "pays"), ("MeanRoads$Reader", 142, ":"), ("MeanRoads$Reader", 196, "("), ("MeanRoads$Reader", 198, ")"), ("MeanRoads$Reader", 200, "if"), ("MeanRoads$Reader", 164, "not"), ("MeanRoads$Reader", 170, "["), ("MeanRoads$Reader", 172, "]"), ("MeanRoads$Reader", 178, "="), ("MeanRoads$Reader", 180, "<"), ("MeanRoads$Reader", 182, ">"), ("MeanRoads$Reader", 162, "and"), ("MeanRoads$Reader", 154, "or"), ("MeanRoads$Reader", 208, "then"), ("MeanRoads$Reader", 210, "else"), ("MeanRoads$Reader", 212, "end"), ("MeanRoads$Reader", 214, "told"), ("MeanRoads$Reader", 215, "from"), ("MeanRoads$Reader", 216, "to"), ("MeanRoads$Reader", 194, "*"), ("MeanRoads$Reader", 187, "+"), ("MeanRoads$Reader", 189, "-"), ("MeanRoads$Reader", 138, "open"), ("MeanRoadsModel", 113, " land weather place mine yours road gains loses pays open if then else end told from to and or not "), ("MeanRoadsModel", 151, ";:+-*()[]=<>")]
def stB : List (List Int32) := [[59, 58, 43, 45, 42, 40, 41, 91, 93, 61, 60, 62], [108, 97, 110, 100], [119, 101, 97, 116, 104, 101, 114], [59], [112, 108, 97, 99, 101], [109, 105, 110, 101], [121, 111, 117, 114, 115], [114, 111, 97, 100], [103, 97, 105, 110, 115], [108, 111, 115, 101, 115], [112, 97, 121, 115], [58], [40], [41], [105, 102], [110, 111, 116], [91], [93], [61], [60], [62], [97, 110, 100], [111, 114], [116, 104, 101, 110], [101, 108, 115, 101], [101, 110, 100], [116, 111, 108, 100], [102, 114, 111, 109], [116, 111], [42], [43], [45], [111, 112, 101, 110], [32, 108, 97, 110, 100, 32, 119, 101, 97, 116, 104, 101, 114, 32, 112, 108, 97, 99, 101, 32, 109, 105, 110, 101, 32, 121, 111, 117, 114, 115, 32, 114, 111, 97, 100, 32, 103, 97, 105, 110, 115, 32, 108, 111, 115, 101, 115, 32, 112, 97, 121, 115, 32, 111, 112, 101, 110, 32, 105, 102, 32, 116, 104, 101, 110, 32, 101, 108, 115, 101, 32, 101, 110, 100, 32, 116, 111, 108, 100, 32, 102, 114, 111, 109, 32, 116, 111, 32, 97, 110, 100, 32, 111, 114, 32, 110, 111, 116, 32], [59, 58, 43, 45, 42, 40, 41, 91, 93, 61, 60, 62]]
abbrev NS : Nat := 35
def stq (i : Nat) : String × Nat × String := stT.getD i ("", 0, "")
def slen (i : Nat) : Nat := (stB.getD i []).length
def schr (i j : Nat) : Int32 := (stB.getD i []).getD j 0
/-- what the machine's tables and old cells must give: classes, addresses, the String constants -/
def KS (G : Gx) (U : State) : Prop := (∀ i : Nat, i < NS → vk_R (stq i).1 (stq i).2.1 (stq i).2.2 (gSa G i) U ∧ va_O "java/lang/String" (gSa G i) (gA G) U U.heap ∧ va_OF "java/lang/String" "coder" "B" (.int 0) (gSa G i) (gA G) U U.heap ∧ va_OF "java/lang/String" "value" "[B" (.ref (gSv G i)) (gSa G i) (gA G) U U.heap ∧ va_T .byte (gSv G i) (slen i) (fun j => .int (schr i j)) (gA G) U U.heap) ∧ va_Z "java/lang/String" "COMPACT_STRINGS" "Z" (.int 1) (gA G) U U.heap ∧ va_Zq "jdk/internal/util/Preconditions" "SIOOBE_FORMATTER" "Ljava/util/function/BiFunction;" (gA G) U U.heap
def KK (G : Gx) (U : State) : Prop := va_K G.1 vwCl (tyl G) U ∧ GOK G ∧ va_Nw (.methodLinkNest RX2 62 yX11_isWeather RX11) U ∧ KS G U
theorem KK.moved {G : Gx} {s U : State} (hW : s.WarmedH U.vm) (hq : ∀ a : Nat, a < s.heap.size → ¬ gA G a → U.heap[a]? = s.heap[a]?) (h : KK G s) : KK G U := by
  obtain ⟨h1, h2, h3, h4, h5, h6⟩ := h
  refine ⟨va_K.moved hW.alike h1, h2, va_Nw.warmM hW h3, fun i hi => ?_, ?_, va_Zq.moved hW.alike (h6.kept hq)⟩
  · obtain ⟨a1, a2, a3, a4, a5⟩ := h4 i hi
    exact ⟨vk_R.warm hW a1, va_O.moved hW.alike (a2.kept hq), va_OF.moved hW.alike (a3.kept hq), va_OF.moved hW.alike (a4.kept hq), va_T.moved hW.alike (a5.kept hq)⟩
  · exact va_Z.moved hW.alike (h5.kept hq)
theorem KK.same {G : Gx} {u U : State} (hv : U.vm = u.vm) (hh : U.heap = u.heap) (h : KK G u) : KK G U := by
  obtain ⟨h1, h2, h3, h4, h5, h6⟩ := h
  have ha : u.vm.Alike U.vm := by rw [hv]; exact Vm.Alike.refl _
  refine ⟨va_K.moved ha h1, h2, va_Nw.same rfl hv.symm h3, fun i hi => ?_, ?_, by rw [hh]; exact va_Zq.moved ha h6⟩
  · obtain ⟨a1, a2, a3, a4, a5⟩ := h4 i hi
    refine ⟨vk_R.same hv a1, ?_, ?_, ?_, ?_⟩ <;> rw [hh]
    · exact va_O.moved ha a2
    · exact va_OF.moved ha a3
    · exact va_OF.moved ha a4
    · exact va_T.moved ha a5
  · rw [hh]
    exact va_Z.moved ha h5
def RW (G : Gx) (s : State) (h : Hp) (H : Heap) (locs : List Loc) : Prop := va_P G.1 vwCl (wl G h) H ∧ va_S (gA G) s.heap H locs
def rmD (d : Nat) : Room := { frames := d, cells := 0, slots := 0, locals := 64 * d }
/-- THE JUDGEMENT: in the method's frame at pc, with locals lv, stack st, the world h, the machine comes to an end with Qc -/
def Go (cc : ByteArray) (nL : Nat) (own : String) (ret : Option FieldType) (d : Nat) (G : Gx) (Qc : Array Value → State → Outcome → State → Prop) (pc : Nat) (lv : List (Nat × Value)) (st : List Value) (h : Hp) : Prop :=
  ∀ (p : Program) (l : Launch) (e : Env) (s : State) (m : MethodId) (args : Array Value) (below : List Frame) (meth : Method) (c : Code) (H : Heap) (locs : List Loc) (ls : Array Slot),
    CallFix p m c cc nL s args Wd own → meth.sig.returnType = ret → meth.locks = false → KK G s → RW G s h H locs → lv_has ls nL lv →
    W p l e (rmD d) s m args below meth c H locs 0 0 (MQ below Qc args s 0 0 (gA G)) (F0 m pc ls st)
/-- a world behind a method -/
def WB (G : Gx) (h : Hp) (t : State) : Prop := va_P G.1 vwCl (wl G h) t.heap
def wsD (y : MethodName) (cc : ByteArray) (nL : Nat) (ret : Option FieldType) : List Cond := .code y cc nL ret :: Wd
def PcD (G : Gx) (av : List Value) (h : Hp) : Array Value → State → Prop := va_Pc av (fun U => va_P G.1 vwCl (wl G h) U.heap ∧ KK G U)
/-- THE CONTRACT of a method at G: with the arguments av in the world h it ends with Qc -/
def Ct (y : MethodName) (cc : ByteArray) (nL : Nat) (ret : Option FieldType) (d : Nat) (G : Gx) (av : List Value) (h : Hp) (Qc : Array Value → State → Outcome → State → Prop) : Prop :=
  ∀ l : Launch, Met l y (wsD y cc nL ret) (rmD d) (PcD G av h) Qc 0 0 (gA G)
abbrev QI (G : Gx) (Q : Int32 → Hp → Prop) : Array Value → State → Outcome → State → Prop := va_Qi Q (WB G) (gA G)
abbrev QJ (G : Gx) (Q : Int64 → Hp → Prop) : Array Value → State → Outcome → State → Prop := va_Ql Q (WB G) (gA G)
abbrev QV (G : Gx) (Q : Hp → Prop) : Array Value → State → Outcome → State → Prop := va_Qv Q (WB G) (gA G)
theorem met_of {l : Launch} {y : MethodName} {ws ws' : List Cond} {rm : Room} {Pc : Array Value → State → Prop} {Qc : Array Value → State → Outcome → State → Prop} {mc ms : Nat} {free : Addr → Prop} {cc : ByteArray} {maxL : Nat} {ret : Option FieldType}
    (hy : plainFor y = true) (hw : ws = Cond.code y cc maxL ret :: ws')
    (body : ∀ p e s m args below meth c s₁, BodyLoose p l y (headSpec ws rm) cc maxL ret e s m args below meth c s₁ → c.maxLocals = maxL → Pc args s →
      W p l e (headSpec ws rm).room s m args below meth c s.heap [] 0 0 (MQ below Qc args s mc ms free) (entryFrame m args maxL)) : Met l y ws rm Pc Qc mc ms free := by
  refine MetFree.of_bodySF (code := cc) (maxLocals := maxL) (ret := ret) hy ?_ ?_
  · intro args s m h hn
    obtain ⟨meth, c, h1, h2, h3, h4, h5, h6, -, -⟩ := Cond.code_spec hn (atoms_spec (ws := ws) h _ (by rw [hw]; exact List.mem_cons_self))
    exact ⟨meth, c, h1, h2, h3, h4, h5, h6⟩
  · intro p e s m args below meth c s₁ B hml hP _
    have hh0 : s₁.heap = s.heap := by rw [B.state]; rfl
    obtain ⟨t, a1, o, b1, b2, b3⟩ := body p e s m args below meth c s₁ B hml hP s₁ hh0 (Stand.of_body B)
    exact ⟨t, o, a1, b1, b2, ⟨b3.1, b3.2⟩⟩
theorem ct_of {y : MethodName} {cc : ByteArray} {nL : Nat} {ret : Option FieldType} {d : Nat} {G : Gx} {av : List Value} {lv : List (Nat × Value)} {h : Hp} {Qc : Array Value → State → Outcome → State → Prop} (hy : plainFor y = true) (hav : (lg_sl av).length ≤ nL) (hlv : lv_args 0 av = lv)
    (k : Go cc nL y.cls ret d G Qc 0 lv [] h) : Ct y cc nL ret d G av h Qc := by
  intro l
  refine met_of (cc := cc) (maxL := nL) (ret := ret) hy rfl ?_
  intro p e s m args below meth c s₁ B hml hv
  obtain ⟨rfl, hP, hK⟩ := hv
  have hts := atoms_spec (ws := wsD y cc nL ret) B.pre
  have hl := lv_entry av (n := nL) hav
  rw [lg_entry_eq]
  rw [hlv] at hl
  exact k p l e s m av.toArray below meth c s.heap [] _ ⟨B.exec, B.bytes, hml, findClass_of_methodNamed B.named, fun w hw => hts w (List.mem_cons_of_mem _ hw)⟩ B.returns B.notSynchronized hK ⟨hP, va_S.rf⟩ hl
/-! locals -/
theorem lk_mem {lv : List (Nat × Value)} {i : Nat} {v : Value} (h : lv.lookup i = some v) : (i, v) ∈ lv := by
  induction lv with
  | nil => cases h
  | cons a t ih =>
    obtain ⟨j, w⟩ := a
    by_cases hij : i = j
    · subst hij
      simp [List.lookup] at h
      subst h
      exact List.mem_cons_self
    · have hne : (i == j) = false := by simpa using hij
      simp only [List.lookup, hne] at h
      exact List.mem_cons_of_mem _ (ih h)
theorem lk_pos {lv : List (Nat × Value)} {i : Nat} {v : Value} (h : lv.lookup i = some v) : ∃ j : Nat, lv[j]? = some (i, v) := List.getElem?_of_mem (lk_mem h)
theorem lv_lk {ls : Array Slot} {nL : Nat} {lv : List (Nat × Value)} {i : Nat} {v : Value} (hl : lv_has ls nL lv) (h : lv.lookup i = some v) : ls[i]? = some (.val v) := hl.2.2 (i, v) (lk_mem h)
def lvin (q : Nat × Value) : List (Nat × Value) → List (Nat × Value)
  | [] => [q]
  | a :: t => if q.1 < a.1 then q :: a :: t else a :: lvin q t
def lv1s (i : Nat) (v : Value) (lv : List (Nat × Value)) : List (Nat × Value) := lvin (i, v) (lv.filter (fun q => !(q.1 == i) && !(q.1 + 1 == i && q.2.category == 2)))
def lv2s (i : Nat) (v : Value) (lv : List (Nat × Value)) : List (Nat × Value) := lvin (i, v) (lv.filter (fun q => !(q.1 == i) && (!(q.1 == i + 1) && !(q.1 + 1 == i && q.2.category == 2))))
theorem lvin_mem {q a : Nat × Value} {t : List (Nat × Value)} (h : a ∈ lvin q t) : a ∈ q :: t := by
  induction t with
  | nil => exact h
  | cons b t ih =>
    simp only [lvin] at h
    split at h
    · exact h
    · rcases List.mem_cons.mp h with rfl | h1
      · exact List.mem_cons_of_mem _ List.mem_cons_self
      · rcases List.mem_cons.mp (ih h1) with rfl | h2
        · exact List.mem_cons_self
        · exact List.mem_cons_of_mem _ (List.mem_cons_of_mem _ h2)
theorem lv1s_has {ls : Array Slot} {nL i : Nat} {v : Value} {lv lv1 : List (Nat × Value)} (h : lv_has ls nL ((i, v) :: lv.filter (fun q => !(q.1 == i) && !(q.1 + 1 == i && q.2.category == 2)))) (hv : lv1s i v lv = lv1) : lv_has ls nL lv1 := by
  subst hv
  exact ⟨h.1, h.2.1, fun q hq => h.2.2 q (lvin_mem hq)⟩
theorem lv2s_has {ls : Array Slot} {nL i : Nat} {v : Value} {lv lv1 : List (Nat × Value)} (h : lv_has ls nL ((i, v) :: lv.filter (fun q => !(q.1 == i) && (!(q.1 == i + 1) && !(q.1 + 1 == i && q.2.category == 2))))) (hv : lv2s i v lv = lv1) : lv_has ls nL lv1 := by
  subst hv
  exact ⟨h.1, h.2.1, fun q hq => h.2.2 q (lvin_mem hq)⟩

def Mu (n : Nat) : Nat × Nat := match n with
  | 0 => (3, 0)
  | 1 => (2, 3)
  | 2 => (73, 0)
  | _ => (0, 0)
theorem muOK : (List.range NN).all (fun o => match SH o with
  | .inl c => (List.range (FT c).length).all (fun k => match (FT c)[k]? with
    | some (4, n) => decide (Mu n = (o, k))
    | _ => true)
  | .inr _ => true) = true := by decide +kernel
theorem wl_sR {G : Gx} {h : Hp} {o c k n : Nat} {q : Nat} (ho : SH o = .inl c) (hf : (FT c)[k]? = some (4, n)) (hM : Mu n = (o, k)) : (wl G h).set o (gAd G o, .inr (c, ((FT c).mapIdx (fun k t => fvl G h o k t)).set k (.ref (gAd G q)))) = wl G (sR h n (some q)) := by
  have key : ∀ (a c' j n' : Nat), SH a = .inl c' → (FT c')[j]? = some (4, n') → (a, j) ≠ (o, k) → n' ≠ n := by
    intro a c' j n' ha hj hne e
    have h1 := List.all_eq_true.mp muOK a (List.mem_range.mpr (sh_lt ha (by simp)))
    rw [ha] at h1
    have h2 := List.all_eq_true.mp h1 j (List.mem_range.mpr (List.getElem?_eq_some_iff.mp hj).1)
    rw [hj] at h2
    have h3 : Mu n' = (a, j) := by simpa using h2
    rw [e, hM] at h3
    exact hne h3.symm
  have fk : ∀ (a c' j : Nat) (u : Nat × Nat), SH a = .inl c' → (FT c')[j]? = some u → (a, j) ≠ (o, k) → fvl G (sR h n (some q)) a j u = fvl G h a j u := by
    intro a c' j u ha hj hne
    unfold fvl
    split
    · rfl
    · rfl
    · rename_i n'
      simp [sR, key a c' j n' ha hj hne]
    · rfl
  refine wl_set (sh_lt ho (by simp)) ?_ (fun a ha => ?_)
  · rw [ho]
    show _ = Sum.inr (c, _)
    congr 2
    exact map_set hf (by simp [fvl, sR, va_rf]) (fun j u hu hj => fk o c j u ho hu (fun e => hj (Prod.mk.inj e).2))
  · cases hs : SH a with
    | inl c' =>
      show Sum.inr (c', _) = Sum.inr (c', _)
      congr 2
      apply List.ext_getElem?
      intro j
      rw [List.getElem?_mapIdx, List.getElem?_mapIdx]
      cases hu : (FT c')[j]? with
      | none => rfl
      | some u => simp [fk a c' j u hs hu (fun e => ha (Prod.mk.inj e).1)]
    | inr x => rfl
def uF (ci k : Nat) : Bool := match vwCl[ci]? with
  | some r => (r.2.1 k).2.2.2
  | none => false
def uD (ci k : Nat) : String := match vwCl[ci]? with
  | some r => (r.2.1 k).2.2.1
  | none => ""
theorem uFD {ci : Nat} {r : vw_C} (h : vwCl[ci]? = some r) (k : Nat) : (r.2.1 k).2.2.2 = uF ci k ∧ (r.2.1 k).2.2.1 = uD ci k := by
  unfold uF uD
  rw [h]
  exact ⟨rfl, rfl⟩

def uty (ci : Nat) : Nat → FieldType := match ci with
  | 0 => tyX0
  | 1 => tyX1
  | 2 => tyX2
  | 3 => tyX3
  | 4 => tyX4
  | 5 => tyX5
  | 6 => tyX6
  | 7 => tyX7
  | 8 => tyX8
  | 9 => tyX9
  | 10 => tyX10
  | 11 => tyX11
  | _ => tyX12
theorem uwX0 : ∀ w ∈ u_ws RX0 TX0 7, w ∈ Wd := by decide +kernel
theorem uwX1 : ∀ w ∈ u_ws RX1 TX1 6, w ∈ Wd := by decide +kernel
theorem uwX2 : ∀ w ∈ u_ws RX2 TX2 9, w ∈ Wd := by decide +kernel
theorem uwX3 : ∀ w ∈ u_ws RX3 TX3 4, w ∈ Wd := by decide +kernel
theorem uwX4 : ∀ w ∈ u_ws RX4 TX4 3, w ∈ Wd := by decide +kernel
theorem uwX5 : ∀ w ∈ u_ws RX5 TX5 15, w ∈ Wd := by decide +kernel
theorem uwX6 : ∀ w ∈ u_ws RX6 TX6 5, w ∈ Wd := by decide +kernel
theorem uwX7 : ∀ w ∈ u_ws RX7 TX7 5, w ∈ Wd := by decide +kernel
theorem uwX8 : ∀ w ∈ u_ws RX8 TX8 10, w ∈ Wd := by decide +kernel
theorem uwX9 : ∀ w ∈ u_ws RX9 TX9 6, w ∈ Wd := by decide +kernel
theorem uwX10 : ∀ w ∈ u_ws RX10 TX10 3, w ∈ Wd := by decide +kernel
theorem uwX11 : ∀ w ∈ u_ws RX11 TX11 16, w ∈ Wd := by decide +kernel
theorem uwX12 : ∀ w ∈ u_ws RX12 TX12 46, w ∈ Wd := by decide +kernel
theorem uw {ci : Nat} {r : vw_C} (h : vwCl[ci]? = some r) : ∀ w ∈ u_ws r.1 r.2.1 r.2.2, w ∈ Wd := by
  match ci, h with
  | 0, h => cases h; exact uwX0
  | 1, h => cases h; exact uwX1
  | 2, h => cases h; exact uwX2
  | 3, h => cases h; exact uwX3
  | 4, h => cases h; exact uwX4
  | 5, h => cases h; exact uwX5
  | 6, h => cases h; exact uwX6
  | 7, h => cases h; exact uwX7
  | 8, h => cases h; exact uwX8
  | 9, h => cases h; exact uwX9
  | 10, h => cases h; exact uwX10
  | 11, h => cases h; exact uwX11
  | 12, h => cases h; exact uwX12
  | k + 13, h => simp [vwCl] at h
theorem utok {ci : Nat} {r : vw_C} (h : vwCl[ci]? = some r) : ∀ k, k < r.2.2 → parseFieldDescriptor (r.2.1 k).2.2.1 = some (uty ci k) := by
  match ci, h with
  | 0, h => cases h; exact tyX0_ok
  | 1, h => cases h; exact tyX1_ok
  | 2, h => cases h; exact tyX2_ok
  | 3, h => cases h; exact tyX3_ok
  | 4, h => cases h; exact tyX4_ok
  | 5, h => cases h; exact tyX5_ok
  | 6, h => cases h; exact tyX6_ok
  | 7, h => cases h; exact tyX7_ok
  | 8, h => cases h; exact tyX8_ok
  | 9, h => cases h; exact tyX9_ok
  | 10, h => cases h; exact tyX10_ok
  | 11, h => cases h; exact tyX11_ok
  | 12, h => cases h; exact tyX12_ok
  | k + 13, h => simp [vwCl] at h
theorem unm {ci : Nat} {r : vw_C} (h : vwCl[ci]? = some r) : ∀ a, a < r.2.2 → ∀ b, b < r.2.2 → a ≠ b → (r.2.1 a).2.1 ≠ (r.2.1 b).2.1 := by
  match ci, h with
  | 0, h => cases h; exact nmX0
  | 1, h => cases h; exact nmX1
  | 2, h => cases h; exact nmX2
  | 3, h => cases h; exact nmX3
  | 4, h => cases h; exact nmX4
  | 5, h => cases h; exact nmX5
  | 6, h => cases h; exact nmX6
  | 7, h => cases h; exact nmX7
  | 8, h => cases h; exact nmX8
  | 9, h => cases h; exact nmX9
  | 10, h => cases h; exact nmX10
  | 11, h => cases h; exact nmX11
  | 12, h => cases h; exact nmX12
  | k + 13, h => simp [vwCl] at h
theorem wcN : Cond.native arraycopyName ∈ Wd := mW 844 (by decide +kernel) rfl
theorem wcS : Cond.static arraycopyName ∈ Wd := mW 843 (by decide +kernel) rfl
theorem wcI : Cond.initialized "java/lang/System" ∈ Wd := mW 22 (by decide +kernel) rfl
section GOROWS
variable {cc : ByteArray} {nL : Nat} {own : String} {ret : Option FieldType} {d : Nat} {G : Gx} {Qc : Array Value → State → Outcome → State → Prop} {pc : Nat} {lv lv1 : List (Nat × Value)} {rest : List Value} {h : Hp}
theorem g_iconst {n : Int} {v : Int32} (hd : decode cc pc = .ok (.iconst n, 1)) (hv : Int32.ofInt n = v) (k : Go cc nL own ret d G Qc (pc + 1) lv (.int v :: rest) h) : Go cc nL own ret d G Qc pc lv (rest) h := by intro p l e s m args below meth c H locs ls C hr hk K RR hl; exact lv_iconst C.1 C.2.1 hd hv (k p l e s m args below meth c H locs ls C hr hk K RR hl)
theorem g_bipush {n : Int} {v : Int32} (hd : decode cc pc = .ok (.bipush n, 2)) (hv : (Int8.ofInt n).toInt32 = v) (k : Go cc nL own ret d G Qc (pc + 2) lv (.int v :: rest) h) : Go cc nL own ret d G Qc pc lv (rest) h := by intro p l e s m args below meth c H locs ls C hr hk K RR hl; exact lv_bipush C.1 C.2.1 hd hv (k p l e s m args below meth c H locs ls C hr hk K RR hl)
theorem g_sipush {n : Int} {v : Int32} (hd : decode cc pc = .ok (.sipush n, 3)) (hv : (Int16.ofInt n).toInt32 = v) (k : Go cc nL own ret d G Qc (pc + 3) lv (.int v :: rest) h) : Go cc nL own ret d G Qc pc lv (rest) h := by intro p l e s m args below meth c H locs ls C hr hk K RR hl; exact lv_sipush C.1 C.2.1 hd hv (k p l e s m args below meth c H locs ls C hr hk K RR hl)
theorem g_lconst {n : Fin 2} {v : Int64} (hd : decode cc pc = .ok (.lconst n, 1)) (hv : Int64.ofNat (n : Nat) = v) (k : Go cc nL own ret d G Qc (pc + 1) lv (.long v :: rest) h) : Go cc nL own ret d G Qc pc lv (rest) h := by intro p l e s m args below meth c H locs ls C hr hk K RR hl; exact lv_lconst C.1 C.2.1 hd hv (k p l e s m args below meth c H locs ls C hr hk K RR hl)
theorem g_iload_n {k4 : Fin 4} {i : Nat} {x : Int32} (hd : decode cc pc = .ok (.iload_n k4, 1)) (hi : (k4 : Nat) = i) (hv : lv.lookup i = some (.int x)) (k : Go cc nL own ret d G Qc (pc + 1) lv (.int x :: rest) h) : Go cc nL own ret d G Qc pc lv (rest) h := by intro p l e s m args below meth c H locs ls C hr hk K RR hl; exact lv_iload_n C.1 C.2.1 hd hi (lv_lk hl hv) (k p l e s m args below meth c H locs ls C hr hk K RR hl)
theorem g_iload {i : Nat} {x : Int32} (hd : decode cc pc = .ok (.iload i, 2)) (hv : lv.lookup i = some (.int x)) (k : Go cc nL own ret d G Qc (pc + 2) lv (.int x :: rest) h) : Go cc nL own ret d G Qc pc lv (rest) h := by intro p l e s m args below meth c H locs ls C hr hk K RR hl; exact lv_iload C.1 C.2.1 hd (lv_lk hl hv) (k p l e s m args below meth c H locs ls C hr hk K RR hl)
theorem g_istore_n {k4 : Fin 4} {i : Nat} {x : Int32} (hd : decode cc pc = .ok (.istore_n k4, 1)) (hi : (k4 : Nat) = i) (hn : i < nL) (hv : lv1s i (.int x) lv = lv1) (k : Go cc nL own ret d G Qc (pc + 1) lv1 rest h) : Go cc nL own ret d G Qc pc lv (.int x :: rest) h := by intro p l e s m args below meth c H locs ls C hr hk K RR hl; exact lv_istore_n C.1 C.2.1 hd hi hl hn rfl (fun ls1 hl1 => k p l e s m args below meth c H locs ls1 C hr hk K RR (lv1s_has hl1 hv))
theorem g_istore {i : Nat} {x : Int32} (hd : decode cc pc = .ok (.istore i, 2)) (hn : i < nL) (hv : lv1s i (.int x) lv = lv1) (k : Go cc nL own ret d G Qc (pc + 2) lv1 rest h) : Go cc nL own ret d G Qc pc lv (.int x :: rest) h := by intro p l e s m args below meth c H locs ls C hr hk K RR hl; exact lv_istore C.1 C.2.1 hd hl hn rfl (fun ls1 hl1 => k p l e s m args below meth c H locs ls1 C hr hk K RR (lv1s_has hl1 hv))
theorem g_lload_n {k4 : Fin 4} {i : Nat} {x : Int64} (hd : decode cc pc = .ok (.lload_n k4, 1)) (hi : (k4 : Nat) = i) (hv : lv.lookup i = some (.long x)) (k : Go cc nL own ret d G Qc (pc + 1) lv (.long x :: rest) h) : Go cc nL own ret d G Qc pc lv (rest) h := by intro p l e s m args below meth c H locs ls C hr hk K RR hl; exact lv_lload_n C.1 C.2.1 hd hi (lv_lk hl hv) (k p l e s m args below meth c H locs ls C hr hk K RR hl)
theorem g_lload {i : Nat} {x : Int64} (hd : decode cc pc = .ok (.lload i, 2)) (hv : lv.lookup i = some (.long x)) (k : Go cc nL own ret d G Qc (pc + 2) lv (.long x :: rest) h) : Go cc nL own ret d G Qc pc lv (rest) h := by intro p l e s m args below meth c H locs ls C hr hk K RR hl; exact lv_lload C.1 C.2.1 hd (lv_lk hl hv) (k p l e s m args below meth c H locs ls C hr hk K RR hl)
theorem g_lstore_n {k4 : Fin 4} {i : Nat} {x : Int64} (hd : decode cc pc = .ok (.lstore_n k4, 1)) (hi : (k4 : Nat) = i) (hn : i + 1 < nL) (hv : lv2s i (.long x) lv = lv1) (k : Go cc nL own ret d G Qc (pc + 1) lv1 rest h) : Go cc nL own ret d G Qc pc lv (.long x :: rest) h := by intro p l e s m args below meth c H locs ls C hr hk K RR hl; exact lv_lstore_n C.1 C.2.1 hd hi hl hn rfl (fun ls1 hl1 => k p l e s m args below meth c H locs ls1 C hr hk K RR (lv2s_has hl1 hv))
theorem g_lstore {i : Nat} {x : Int64} (hd : decode cc pc = .ok (.lstore i, 2)) (hn : i + 1 < nL) (hv : lv2s i (.long x) lv = lv1) (k : Go cc nL own ret d G Qc (pc + 2) lv1 rest h) : Go cc nL own ret d G Qc pc lv (.long x :: rest) h := by intro p l e s m args below meth c H locs ls C hr hk K RR hl; exact lv_lstore C.1 C.2.1 hd hl hn rfl (fun ls1 hl1 => k p l e s m args below meth c H locs ls1 C hr hk K RR (lv2s_has hl1 hv))
theorem g_aload_n {k4 : Fin 4} {i : Nat} {x : Nat} (hd : decode cc pc = .ok (.aload_n k4, 1)) (hi : (k4 : Nat) = i) (hv : lv.lookup i = some (.ref x)) (k : Go cc nL own ret d G Qc (pc + 1) lv (.ref x :: rest) h) : Go cc nL own ret d G Qc pc lv (rest) h := by intro p l e s m args below meth c H locs ls C hr hk K RR hl; exact lv_aload_n C.1 C.2.1 hd hi (lv_lk hl hv) (k p l e s m args below meth c H locs ls C hr hk K RR hl)
theorem g_aload {i : Nat} {x : Nat} (hd : decode cc pc = .ok (.aload i, 2)) (hv : lv.lookup i = some (.ref x)) (k : Go cc nL own ret d G Qc (pc + 2) lv (.ref x :: rest) h) : Go cc nL own ret d G Qc pc lv (rest) h := by intro p l e s m args below meth c H locs ls C hr hk K RR hl; exact lv_aload C.1 C.2.1 hd (lv_lk hl hv) (k p l e s m args below meth c H locs ls C hr hk K RR hl)
theorem g_astore_n {k4 : Fin 4} {i : Nat} {x : Nat} (hd : decode cc pc = .ok (.astore_n k4, 1)) (hi : (k4 : Nat) = i) (hn : i < nL) (hv : lv1s i (.ref x) lv = lv1) (k : Go cc nL own ret d G Qc (pc + 1) lv1 rest h) : Go cc nL own ret d G Qc pc lv (.ref x :: rest) h := by intro p l e s m args below meth c H locs ls C hr hk K RR hl; exact lv_astore_n C.1 C.2.1 hd hi hl hn rfl (fun ls1 hl1 => k p l e s m args below meth c H locs ls1 C hr hk K RR (lv1s_has hl1 hv))
theorem g_astore {i : Nat} {x : Nat} (hd : decode cc pc = .ok (.astore i, 2)) (hn : i < nL) (hv : lv1s i (.ref x) lv = lv1) (k : Go cc nL own ret d G Qc (pc + 2) lv1 rest h) : Go cc nL own ret d G Qc pc lv (.ref x :: rest) h := by intro p l e s m args below meth c H locs ls C hr hk K RR hl; exact lv_astore C.1 C.2.1 hd hl hn rfl (fun ls1 hl1 => k p l e s m args below meth c H locs ls1 C hr hk K RR (lv1s_has hl1 hv))
theorem g_iinc {i : Nat} {n : Int} {x v : Int32} (hd : decode cc pc = .ok (.iinc i n, 3)) (hx : lv.lookup i = some (.int x)) (hw : x + Int32.ofInt n = v) (hn : i < nL) (hv : lv1s i (.int v) lv = lv1) (k : Go cc nL own ret d G Qc (pc + 3) lv1 rest h) : Go cc nL own ret d G Qc pc lv rest h := by intro p l e s m args below meth c H locs ls C hr hk K RR hl; obtain ⟨j, hj⟩ := lk_pos hx; exact lv_iinc C.1 C.2.1 hd hl hj hw hn rfl (fun ls1 hl1 => k p l e s m args below meth c H locs ls1 C hr hk K RR (lv1s_has hl1 hv))
theorem g_iadd {x y : Int32} (hd : decode cc pc = .ok (.iadd, 1))  (k : Go cc nL own ret d G Qc (pc + 1) lv (.int (x + y) :: rest) h) : Go cc nL own ret d G Qc pc lv (.int y :: .int x :: rest) h := by intro p l e s m args below meth c H locs ls C hr hk K RR hl; exact lv_iadd C.1 C.2.1 hd  (k p l e s m args below meth c H locs ls C hr hk K RR hl)
theorem g_isub {x y : Int32} (hd : decode cc pc = .ok (.isub, 1))  (k : Go cc nL own ret d G Qc (pc + 1) lv (.int (x - y) :: rest) h) : Go cc nL own ret d G Qc pc lv (.int y :: .int x :: rest) h := by intro p l e s m args below meth c H locs ls C hr hk K RR hl; exact lv_isub C.1 C.2.1 hd  (k p l e s m args below meth c H locs ls C hr hk K RR hl)
theorem g_imul {x y : Int32} (hd : decode cc pc = .ok (.imul, 1))  (k : Go cc nL own ret d G Qc (pc + 1) lv (.int (x * y) :: rest) h) : Go cc nL own ret d G Qc pc lv (.int y :: .int x :: rest) h := by intro p l e s m args below meth c H locs ls C hr hk K RR hl; exact lv_imul C.1 C.2.1 hd  (k p l e s m args below meth c H locs ls C hr hk K RR hl)
theorem g_iand {x y : Int32} (hd : decode cc pc = .ok (.iand, 1))  (k : Go cc nL own ret d G Qc (pc + 1) lv (.int (x &&& y) :: rest) h) : Go cc nL own ret d G Qc pc lv (.int y :: .int x :: rest) h := by intro p l e s m args below meth c H locs ls C hr hk K RR hl; exact lv_iand C.1 C.2.1 hd  (k p l e s m args below meth c H locs ls C hr hk K RR hl)
theorem g_ior {x y : Int32} (hd : decode cc pc = .ok (.ior, 1))  (k : Go cc nL own ret d G Qc (pc + 1) lv (.int (x ||| y) :: rest) h) : Go cc nL own ret d G Qc pc lv (.int y :: .int x :: rest) h := by intro p l e s m args below meth c H locs ls C hr hk K RR hl; exact lv_ior C.1 C.2.1 hd  (k p l e s m args below meth c H locs ls C hr hk K RR hl)
theorem g_ixor {x y : Int32} (hd : decode cc pc = .ok (.ixor, 1))  (k : Go cc nL own ret d G Qc (pc + 1) lv (.int (x ^^^ y) :: rest) h) : Go cc nL own ret d G Qc pc lv (.int y :: .int x :: rest) h := by intro p l e s m args below meth c H locs ls C hr hk K RR hl; exact lv_ixor C.1 C.2.1 hd  (k p l e s m args below meth c H locs ls C hr hk K RR hl)
theorem g_ishl {x y : Int32} (hd : decode cc pc = .ok (.ishl, 1))  (k : Go cc nL own ret d G Qc (pc + 1) lv (.int (x <<< (y &&& 31)) :: rest) h) : Go cc nL own ret d G Qc pc lv (.int y :: .int x :: rest) h := by intro p l e s m args below meth c H locs ls C hr hk K RR hl; exact lv_ishl C.1 C.2.1 hd  (k p l e s m args below meth c H locs ls C hr hk K RR hl)
theorem g_ishr {x y : Int32} (hd : decode cc pc = .ok (.ishr, 1))  (k : Go cc nL own ret d G Qc (pc + 1) lv (.int (x >>> (y &&& 31)) :: rest) h) : Go cc nL own ret d G Qc pc lv (.int y :: .int x :: rest) h := by intro p l e s m args below meth c H locs ls C hr hk K RR hl; exact lv_ishr C.1 C.2.1 hd  (k p l e s m args below meth c H locs ls C hr hk K RR hl)
theorem g_iushr {x y : Int32} (hd : decode cc pc = .ok (.iushr, 1))  (k : Go cc nL own ret d G Qc (pc + 1) lv (.int ((x.toUInt32 >>> (y.toUInt32 &&& Int32.toUInt32 31)).toInt32) :: rest) h) : Go cc nL own ret d G Qc pc lv (.int y :: .int x :: rest) h := by intro p l e s m args below meth c H locs ls C hr hk K RR hl; exact lv_iushr C.1 C.2.1 hd rfl (k p l e s m args below meth c H locs ls C hr hk K RR hl)
theorem g_ineg {x : Int32} (hd : decode cc pc = .ok (.ineg, 1))  (k : Go cc nL own ret d G Qc (pc + 1) lv (.int (-x) :: rest) h) : Go cc nL own ret d G Qc pc lv (.int x :: rest) h := by intro p l e s m args below meth c H locs ls C hr hk K RR hl; exact lv_ineg C.1 C.2.1 hd  (k p l e s m args below meth c H locs ls C hr hk K RR hl)
theorem g_idiv {x y : Int32} (hd : decode cc pc = .ok (.idiv, 1)) (hne : ¬ y = 0) (k : Go cc nL own ret d G Qc (pc + 1) lv (.int (x / y) :: rest) h) : Go cc nL own ret d G Qc pc lv (.int y :: .int x :: rest) h := by intro p l e s m args below meth c H locs ls C hr hk K RR hl; exact lv_idiv C.1 C.2.1 hd hne (k p l e s m args below meth c H locs ls C hr hk K RR hl)
theorem g_irem {x y : Int32} (hd : decode cc pc = .ok (.irem, 1)) (hne : ¬ y = 0) (k : Go cc nL own ret d G Qc (pc + 1) lv (.int (x - x / y * y) :: rest) h) : Go cc nL own ret d G Qc pc lv (.int y :: .int x :: rest) h := by intro p l e s m args below meth c H locs ls C hr hk K RR hl; exact lv_irem C.1 C.2.1 hd hne (k p l e s m args below meth c H locs ls C hr hk K RR hl)
theorem g_ladd {x y : Int64} (hd : decode cc pc = .ok (.ladd, 1))  (k : Go cc nL own ret d G Qc (pc + 1) lv (.long (x + y) :: rest) h) : Go cc nL own ret d G Qc pc lv (.long y :: .long x :: rest) h := by intro p l e s m args below meth c H locs ls C hr hk K RR hl; exact lv_ladd C.1 C.2.1 hd  (k p l e s m args below meth c H locs ls C hr hk K RR hl)
theorem g_lsub {x y : Int64} (hd : decode cc pc = .ok (.lsub, 1))  (k : Go cc nL own ret d G Qc (pc + 1) lv (.long (x - y) :: rest) h) : Go cc nL own ret d G Qc pc lv (.long y :: .long x :: rest) h := by intro p l e s m args below meth c H locs ls C hr hk K RR hl; exact lv_lsub C.1 C.2.1 hd  (k p l e s m args below meth c H locs ls C hr hk K RR hl)
theorem g_lmul {x y : Int64} (hd : decode cc pc = .ok (.lmul, 1))  (k : Go cc nL own ret d G Qc (pc + 1) lv (.long (x * y) :: rest) h) : Go cc nL own ret d G Qc pc lv (.long y :: .long x :: rest) h := by intro p l e s m args below meth c H locs ls C hr hk K RR hl; exact lv_lmul C.1 C.2.1 hd  (k p l e s m args below meth c H locs ls C hr hk K RR hl)
theorem g_land {x y : Int64} (hd : decode cc pc = .ok (.land, 1))  (k : Go cc nL own ret d G Qc (pc + 1) lv (.long (x &&& y) :: rest) h) : Go cc nL own ret d G Qc pc lv (.long y :: .long x :: rest) h := by intro p l e s m args below meth c H locs ls C hr hk K RR hl; exact lv_land C.1 C.2.1 hd  (k p l e s m args below meth c H locs ls C hr hk K RR hl)
theorem g_lor {x y : Int64} (hd : decode cc pc = .ok (.lor, 1))  (k : Go cc nL own ret d G Qc (pc + 1) lv (.long (x ||| y) :: rest) h) : Go cc nL own ret d G Qc pc lv (.long y :: .long x :: rest) h := by intro p l e s m args below meth c H locs ls C hr hk K RR hl; exact lv_lor C.1 C.2.1 hd  (k p l e s m args below meth c H locs ls C hr hk K RR hl)
theorem g_lxor {x y : Int64} (hd : decode cc pc = .ok (.lxor, 1))  (k : Go cc nL own ret d G Qc (pc + 1) lv (.long (x ^^^ y) :: rest) h) : Go cc nL own ret d G Qc pc lv (.long y :: .long x :: rest) h := by intro p l e s m args below meth c H locs ls C hr hk K RR hl; exact lv_lxor C.1 C.2.1 hd  (k p l e s m args below meth c H locs ls C hr hk K RR hl)
theorem g_ldiv {x y : Int64} (hd : decode cc pc = .ok (.ldiv, 1)) (hne : ¬ y = 0) (k : Go cc nL own ret d G Qc (pc + 1) lv (.long (x / y) :: rest) h) : Go cc nL own ret d G Qc pc lv (.long y :: .long x :: rest) h := by intro p l e s m args below meth c H locs ls C hr hk K RR hl; exact lv_ldiv C.1 C.2.1 hd hne (k p l e s m args below meth c H locs ls C hr hk K RR hl)
theorem g_lrem {x y : Int64} (hd : decode cc pc = .ok (.lrem, 1)) (hne : ¬ y = 0) (k : Go cc nL own ret d G Qc (pc + 1) lv (.long (x - x / y * y) :: rest) h) : Go cc nL own ret d G Qc pc lv (.long y :: .long x :: rest) h := by intro p l e s m args below meth c H locs ls C hr hk K RR hl; exact lv_lrem C.1 C.2.1 hd hne (k p l e s m args below meth c H locs ls C hr hk K RR hl)
theorem g_lneg {x : Int64} (hd : decode cc pc = .ok (.lneg, 1))  (k : Go cc nL own ret d G Qc (pc + 1) lv (.long (-x) :: rest) h) : Go cc nL own ret d G Qc pc lv (.long x :: rest) h := by intro p l e s m args below meth c H locs ls C hr hk K RR hl; exact lv_lneg C.1 C.2.1 hd  (k p l e s m args below meth c H locs ls C hr hk K RR hl)
theorem g_lshl {x : Int64} {y : Int32} (hd : decode cc pc = .ok (.lshl, 1))  (k : Go cc nL own ret d G Qc (pc + 1) lv (.long (x <<< (y.toInt64 &&& 63)) :: rest) h) : Go cc nL own ret d G Qc pc lv (.int y :: .long x :: rest) h := by intro p l e s m args below meth c H locs ls C hr hk K RR hl; exact lv_lshl C.1 C.2.1 hd rfl (k p l e s m args below meth c H locs ls C hr hk K RR hl)
theorem g_lshr {x : Int64} {y : Int32} (hd : decode cc pc = .ok (.lshr, 1))  (k : Go cc nL own ret d G Qc (pc + 1) lv (.long (x >>> (y.toInt64 &&& 63)) :: rest) h) : Go cc nL own ret d G Qc pc lv (.int y :: .long x :: rest) h := by intro p l e s m args below meth c H locs ls C hr hk K RR hl; exact lv_lshr C.1 C.2.1 hd rfl (k p l e s m args below meth c H locs ls C hr hk K RR hl)
theorem g_lcmp {x y : Int64} (hd : decode cc pc = .ok (.lcmp, 1))  (k : Go cc nL own ret d G Qc (pc + 1) lv (.int (lg_cmp x y) :: rest) h) : Go cc nL own ret d G Qc pc lv (.long y :: .long x :: rest) h := by intro p l e s m args below meth c H locs ls C hr hk K RR hl; exact W.lcmp C.1 C.2.1 hd  (k p l e s m args below meth c H locs ls C hr hk K RR hl)
theorem g_i2l {x : Int32} (hd : decode cc pc = .ok (.i2l, 1))  (k : Go cc nL own ret d G Qc (pc + 1) lv (.long x.toInt64 :: rest) h) : Go cc nL own ret d G Qc pc lv (.int x :: rest) h := by intro p l e s m args below meth c H locs ls C hr hk K RR hl; exact lv_i2l C.1 C.2.1 hd rfl (k p l e s m args below meth c H locs ls C hr hk K RR hl)
theorem g_l2i {x : Int64} (hd : decode cc pc = .ok (.l2i, 1))  (k : Go cc nL own ret d G Qc (pc + 1) lv (.int x.toInt32 :: rest) h) : Go cc nL own ret d G Qc pc lv (.long x :: rest) h := by intro p l e s m args below meth c H locs ls C hr hk K RR hl; exact lv_l2i C.1 C.2.1 hd rfl (k p l e s m args below meth c H locs ls C hr hk K RR hl)
theorem g_i2b {x : Int32} (hd : decode cc pc = .ok (.i2b, 1))  (k : Go cc nL own ret d G Qc (pc + 1) lv (.int x.toInt8.toInt32 :: rest) h) : Go cc nL own ret d G Qc pc lv (.int x :: rest) h := by intro p l e s m args below meth c H locs ls C hr hk K RR hl; exact lv_i2b C.1 C.2.1 hd rfl (k p l e s m args below meth c H locs ls C hr hk K RR hl)
theorem g_i2s {x : Int32} (hd : decode cc pc = .ok (.i2s, 1))  (k : Go cc nL own ret d G Qc (pc + 1) lv (.int x.toInt16.toInt32 :: rest) h) : Go cc nL own ret d G Qc pc lv (.int x :: rest) h := by intro p l e s m args below meth c H locs ls C hr hk K RR hl; exact lv_i2s C.1 C.2.1 hd rfl (k p l e s m args below meth c H locs ls C hr hk K RR hl)
theorem g_i2c {x : Int32} (hd : decode cc pc = .ok (.i2c, 1))  (k : Go cc nL own ret d G Qc (pc + 1) lv (.int (x.toUInt32 % 65536).toInt32 :: rest) h) : Go cc nL own ret d G Qc pc lv (.int x :: rest) h := by intro p l e s m args below meth c H locs ls C hr hk K RR hl; exact lv_i2c C.1 C.2.1 hd rfl (k p l e s m args below meth c H locs ls C hr hk K RR hl)
theorem g_dup {va : Value} (hd : decode cc pc = .ok (.dup, 1)) (hva : va.category = 1) (k : Go cc nL own ret d G Qc (pc + 1) lv (va :: va :: rest) h) : Go cc nL own ret d G Qc pc lv (va :: rest) h := by intro p l e s m args below meth c H locs ls C hr hk K RR hl; exact lv_dup C.1 C.2.1 hd hva (k p l e s m args below meth c H locs ls C hr hk K RR hl)
theorem g_pop {va : Value} (hd : decode cc pc = .ok (.pop, 1)) (hva : va.category = 1) (k : Go cc nL own ret d G Qc (pc + 1) lv (rest) h) : Go cc nL own ret d G Qc pc lv (va :: rest) h := by intro p l e s m args below meth c H locs ls C hr hk K RR hl; exact lv_pop C.1 C.2.1 hd hva (k p l e s m args below meth c H locs ls C hr hk K RR hl)
theorem g_dup_x1 {va vb : Value} (hd : decode cc pc = .ok (.dup_x1, 1)) (hva : va.category = 1) (hvb : vb.category = 1) (k : Go cc nL own ret d G Qc (pc + 1) lv (va :: vb :: va :: rest) h) : Go cc nL own ret d G Qc pc lv (va :: vb :: rest) h := by intro p l e s m args below meth c H locs ls C hr hk K RR hl; exact lv_dup_x1 C.1 C.2.1 hd hva hvb (k p l e s m args below meth c H locs ls C hr hk K RR hl)
theorem g_dup2_11 {va vb : Value} (hd : decode cc pc = .ok (.dup2, 1)) (hva : va.category = 1) (hvb : vb.category = 1) (k : Go cc nL own ret d G Qc (pc + 1) lv (va :: vb :: va :: vb :: rest) h) : Go cc nL own ret d G Qc pc lv (va :: vb :: rest) h := by intro p l e s m args below meth c H locs ls C hr hk K RR hl; exact lv_dup2_11 C.1 C.2.1 hd hva hvb (k p l e s m args below meth c H locs ls C hr hk K RR hl)
theorem g_dup2_2 {va : Value} (hd : decode cc pc = .ok (.dup2, 1)) (hva : va.category = 2) (k : Go cc nL own ret d G Qc (pc + 1) lv (va :: va :: rest) h) : Go cc nL own ret d G Qc pc lv (va :: rest) h := by intro p l e s m args below meth c H locs ls C hr hk K RR hl; exact lv_dup2_2 C.1 C.2.1 hd hva (k p l e s m args below meth c H locs ls C hr hk K RR hl)
theorem g_pop2_2 {va : Value} (hd : decode cc pc = .ok (.pop2, 1)) (hva : va.category = 2) (k : Go cc nL own ret d G Qc (pc + 1) lv (rest) h) : Go cc nL own ret d G Qc pc lv (va :: rest) h := by intro p l e s m args below meth c H locs ls C hr hk K RR hl; exact lv_pop2_2 C.1 C.2.1 hd hva (k p l e s m args below meth c H locs ls C hr hk K RR hl)
theorem g_if_eq {x  : Int32} {off : Int} (tgt : Nat) (hd : decode cc pc = .ok (.ifCond .eq off, 3)) (ht : (pc : Int) + off = (tgt : Int)) (kt : x = 0 → Go cc nL own ret d G Qc tgt lv rest h) (kf : ¬ x = 0 → Go cc nL own ret d G Qc (pc + 3) lv rest h) : Go cc nL own ret d G Qc pc lv (.int x :: rest) h := by intro p l e s m args below meth c H locs ls C hr hk K RR hl; exact lv_if_eq C.1 C.2.1 hd ht (fun q => kt q p l e s m args below meth c H locs ls C hr hk K RR hl) (fun q => kf q p l e s m args below meth c H locs ls C hr hk K RR hl)
theorem g_icmp_eq {x y : Int32} {off : Int} (tgt : Nat) (hd : decode cc pc = .ok (.if_icmp .eq off, 3)) (ht : (pc : Int) + off = (tgt : Int)) (kt : x = y → Go cc nL own ret d G Qc tgt lv rest h) (kf : ¬ x = y → Go cc nL own ret d G Qc (pc + 3) lv rest h) : Go cc nL own ret d G Qc pc lv (.int y :: .int x :: rest) h := by intro p l e s m args below meth c H locs ls C hr hk K RR hl; exact lv_icmp_eq C.1 C.2.1 hd ht (fun q => kt q p l e s m args below meth c H locs ls C hr hk K RR hl) (fun q => kf q p l e s m args below meth c H locs ls C hr hk K RR hl)
theorem g_if_ne {x  : Int32} {off : Int} (tgt : Nat) (hd : decode cc pc = .ok (.ifCond .ne off, 3)) (ht : (pc : Int) + off = (tgt : Int)) (kt : ¬ x = 0 → Go cc nL own ret d G Qc tgt lv rest h) (kf : x = 0 → Go cc nL own ret d G Qc (pc + 3) lv rest h) : Go cc nL own ret d G Qc pc lv (.int x :: rest) h := by intro p l e s m args below meth c H locs ls C hr hk K RR hl; exact lv_if_ne C.1 C.2.1 hd ht (fun q => kt q p l e s m args below meth c H locs ls C hr hk K RR hl) (fun q => kf q p l e s m args below meth c H locs ls C hr hk K RR hl)
theorem g_icmp_ne {x y : Int32} {off : Int} (tgt : Nat) (hd : decode cc pc = .ok (.if_icmp .ne off, 3)) (ht : (pc : Int) + off = (tgt : Int)) (kt : ¬ x = y → Go cc nL own ret d G Qc tgt lv rest h) (kf : x = y → Go cc nL own ret d G Qc (pc + 3) lv rest h) : Go cc nL own ret d G Qc pc lv (.int y :: .int x :: rest) h := by intro p l e s m args below meth c H locs ls C hr hk K RR hl; exact lv_icmp_ne C.1 C.2.1 hd ht (fun q => kt q p l e s m args below meth c H locs ls C hr hk K RR hl) (fun q => kf q p l e s m args below meth c H locs ls C hr hk K RR hl)
theorem g_if_lt {x  : Int32} {off : Int} (tgt : Nat) (hd : decode cc pc = .ok (.ifCond .lt off, 3)) (ht : (pc : Int) + off = (tgt : Int)) (kt : x < 0 → Go cc nL own ret d G Qc tgt lv rest h) (kf : ¬ x < 0 → Go cc nL own ret d G Qc (pc + 3) lv rest h) : Go cc nL own ret d G Qc pc lv (.int x :: rest) h := by intro p l e s m args below meth c H locs ls C hr hk K RR hl; exact lv_if_lt C.1 C.2.1 hd ht (fun q => kt q p l e s m args below meth c H locs ls C hr hk K RR hl) (fun q => kf q p l e s m args below meth c H locs ls C hr hk K RR hl)
theorem g_icmp_lt {x y : Int32} {off : Int} (tgt : Nat) (hd : decode cc pc = .ok (.if_icmp .lt off, 3)) (ht : (pc : Int) + off = (tgt : Int)) (kt : x < y → Go cc nL own ret d G Qc tgt lv rest h) (kf : ¬ x < y → Go cc nL own ret d G Qc (pc + 3) lv rest h) : Go cc nL own ret d G Qc pc lv (.int y :: .int x :: rest) h := by intro p l e s m args below meth c H locs ls C hr hk K RR hl; exact lv_icmp_lt C.1 C.2.1 hd ht (fun q => kt q p l e s m args below meth c H locs ls C hr hk K RR hl) (fun q => kf q p l e s m args below meth c H locs ls C hr hk K RR hl)
theorem g_if_ge {x  : Int32} {off : Int} (tgt : Nat) (hd : decode cc pc = .ok (.ifCond .ge off, 3)) (ht : (pc : Int) + off = (tgt : Int)) (kt : 0 ≤ x → Go cc nL own ret d G Qc tgt lv rest h) (kf : ¬ 0 ≤ x → Go cc nL own ret d G Qc (pc + 3) lv rest h) : Go cc nL own ret d G Qc pc lv (.int x :: rest) h := by intro p l e s m args below meth c H locs ls C hr hk K RR hl; exact lv_if_ge C.1 C.2.1 hd ht (fun q => kt q p l e s m args below meth c H locs ls C hr hk K RR hl) (fun q => kf q p l e s m args below meth c H locs ls C hr hk K RR hl)
theorem g_icmp_ge {x y : Int32} {off : Int} (tgt : Nat) (hd : decode cc pc = .ok (.if_icmp .ge off, 3)) (ht : (pc : Int) + off = (tgt : Int)) (kt : y ≤ x → Go cc nL own ret d G Qc tgt lv rest h) (kf : ¬ y ≤ x → Go cc nL own ret d G Qc (pc + 3) lv rest h) : Go cc nL own ret d G Qc pc lv (.int y :: .int x :: rest) h := by intro p l e s m args below meth c H locs ls C hr hk K RR hl; exact lv_icmp_ge C.1 C.2.1 hd ht (fun q => kt q p l e s m args below meth c H locs ls C hr hk K RR hl) (fun q => kf q p l e s m args below meth c H locs ls C hr hk K RR hl)
theorem g_if_gt {x  : Int32} {off : Int} (tgt : Nat) (hd : decode cc pc = .ok (.ifCond .gt off, 3)) (ht : (pc : Int) + off = (tgt : Int)) (kt : 0 < x → Go cc nL own ret d G Qc tgt lv rest h) (kf : ¬ 0 < x → Go cc nL own ret d G Qc (pc + 3) lv rest h) : Go cc nL own ret d G Qc pc lv (.int x :: rest) h := by intro p l e s m args below meth c H locs ls C hr hk K RR hl; exact lv_if_gt C.1 C.2.1 hd ht (fun q => kt q p l e s m args below meth c H locs ls C hr hk K RR hl) (fun q => kf q p l e s m args below meth c H locs ls C hr hk K RR hl)
theorem g_icmp_gt {x y : Int32} {off : Int} (tgt : Nat) (hd : decode cc pc = .ok (.if_icmp .gt off, 3)) (ht : (pc : Int) + off = (tgt : Int)) (kt : y < x → Go cc nL own ret d G Qc tgt lv rest h) (kf : ¬ y < x → Go cc nL own ret d G Qc (pc + 3) lv rest h) : Go cc nL own ret d G Qc pc lv (.int y :: .int x :: rest) h := by intro p l e s m args below meth c H locs ls C hr hk K RR hl; exact lv_icmp_gt C.1 C.2.1 hd ht (fun q => kt q p l e s m args below meth c H locs ls C hr hk K RR hl) (fun q => kf q p l e s m args below meth c H locs ls C hr hk K RR hl)
theorem g_if_le {x  : Int32} {off : Int} (tgt : Nat) (hd : decode cc pc = .ok (.ifCond .le off, 3)) (ht : (pc : Int) + off = (tgt : Int)) (kt : x ≤ 0 → Go cc nL own ret d G Qc tgt lv rest h) (kf : ¬ x ≤ 0 → Go cc nL own ret d G Qc (pc + 3) lv rest h) : Go cc nL own ret d G Qc pc lv (.int x :: rest) h := by intro p l e s m args below meth c H locs ls C hr hk K RR hl; exact lv_if_le C.1 C.2.1 hd ht (fun q => kt q p l e s m args below meth c H locs ls C hr hk K RR hl) (fun q => kf q p l e s m args below meth c H locs ls C hr hk K RR hl)
theorem g_icmp_le {x y : Int32} {off : Int} (tgt : Nat) (hd : decode cc pc = .ok (.if_icmp .le off, 3)) (ht : (pc : Int) + off = (tgt : Int)) (kt : x ≤ y → Go cc nL own ret d G Qc tgt lv rest h) (kf : ¬ x ≤ y → Go cc nL own ret d G Qc (pc + 3) lv rest h) : Go cc nL own ret d G Qc pc lv (.int y :: .int x :: rest) h := by intro p l e s m args below meth c H locs ls C hr hk K RR hl; exact lv_icmp_le C.1 C.2.1 hd ht (fun q => kt q p l e s m args below meth c H locs ls C hr hk K RR hl) (fun q => kf q p l e s m args below meth c H locs ls C hr hk K RR hl)
theorem g_goto {off : Int} (tgt : Nat) (hd : decode cc pc = .ok (.goto off, 3)) (ht : (pc : Int) + off = (tgt : Int)) (k : Go cc nL own ret d G Qc tgt lv rest h) : Go cc nL own ret d G Qc pc lv rest h := by intro p l e s m args below meth c H locs ls C hr hk K RR hl; exact lv_goto C.1 C.2.1 hd ht (k p l e s m args below meth c H locs ls C hr hk K RR hl)
theorem g_lv (ps : List Nat) (hv : lv_pick lv ps = lv1) (k : Go cc nL own ret d G Qc pc lv1 rest h) : Go cc nL own ret d G Qc pc lv rest h := by
  intro p l e s m args below meth c H locs ls C hr hk K RR hl
  exact k p l e s m args below meth c H locs ls C hr hk K RR (lv_sub hl ps hv)
theorem g_ldc {index : Nat} {v : Int32} (hd : decode cc pc = .ok (.ldc index, 2)) (hw : Cond.constant own index v ∈ Wd) (k : Go cc nL own ret d G Qc (pc + 2) lv (.int v :: rest) h) : Go cc nL own ret d G Qc pc lv rest h := by
  intro p l e s m args below meth c H locs ls C hr hk K RR hl
  exact lv_ldc C.1 C.2.1 C.2.2.2.1 (C.2.2.2.2 _ hw) hd (k p l e s m args below meth c H locs ls C hr hk K RR hl)
theorem g_ldcw {index : Nat} {v : Int32} (hd : decode cc pc = .ok (.ldc_w index, 3)) (hw : Cond.constant own index v ∈ Wd) (k : Go cc nL own ret d G Qc (pc + 3) lv (.int v :: rest) h) : Go cc nL own ret d G Qc pc lv rest h := by
  intro p l e s m args below meth c H locs ls C hr hk K RR hl
  exact lv_ldcw C.1 C.2.1 C.2.2.2.1 (C.2.2.2.2 _ hw) hd (k p l e s m args below meth c H locs ls C hr hk K RR hl)
theorem g_ldc2 {index : Nat} {v : Int64} (hd : decode cc pc = .ok (.ldc2_w index, 3)) (hw : Cond.constantLong own index v ∈ Wd) (k : Go cc nL own ret d G Qc (pc + 3) lv (.long v :: rest) h) : Go cc nL own ret d G Qc pc lv rest h := by
  intro p l e s m args below meth c H locs ls C hr hk K RR hl
  exact lv_ldc2 C.1 C.2.1 C.2.2.2.1 (C.2.2.2.2 _ hw) hd (k p l e s m args below meth c H locs ls C hr hk K RR hl)
theorem g_ldcS {index i : Nat} (hd : decode cc pc = .ok (.ldc index, 2)) (hi : i < NS) (hs : stq i = (own, index, (stq i).2.2)) (k : Go cc nL own ret d G Qc (pc + 2) lv (.ref (gSa G i) :: rest) h) : Go cc nL own ret d G Qc pc lv rest h := by
  intro p l e s m args below meth c H locs ls C hr hk K RR hl
  have hZ := (K.2.2.2.1 i hi).1
  rw [hs] at hZ
  exact va_ldcS C.1 C.2.1 C.2.2.2.1 hZ hd (k p l e s m args below meth c H locs ls C hr hk K RR hl)
/-- the field k of the class number ci, by the link at index in the class own -/
def FLk (own : String) (index ci k : Nat) : Prop := ∃ r : vw_C, vwCl[ci]? = some r ∧ k < r.2.2 ∧ Cond.fieldLink own index (r.2.1 k).1 (r.2.1 k).2.1 (r.2.1 k).2.2.1 ∈ Wd
theorem g_get {o ci k index : Nat} {t : Nat × Nat} {v : Value} (hd : decode cc pc = .ok (.getfield index, 3)) (hL : FLk own index ci k) (ho : SH o = .inl ci) (hf : (FT ci)[k]? = some t) (hv : fvl G h o k t = v) (kk : Go cc nL own ret d G Qc (pc + 3) lv (v :: rest) h) : Go cc nL own ret d G Qc pc lv (.ref (gAd G o) :: rest) h := by
  intro p l e s m args below meth c H locs ls C hr hk K RR hl
  obtain ⟨r, hr1, hk1, hl1⟩ := hL
  refine va_get (D := G.1) (cl := vwCl) (tys := tyl G) (ws := wl G h) (C := r.1) (T := r.2.1) (N := r.2.2) C.1 C.2.1 C.2.2.2.2 (uw hr1) C.2.2.2.1 K.1 RR.1 o (wl_o ho) hr1 k hk1 (C.2.2.2.2 _ hl1) (fun _ h9 => h9) (v := v) ?_ hd (kk p l e s m args below meth c H locs ls C hr hk K RR hl)
  rw [List.getElem?_mapIdx, hf]
  exact congrArg some hv
theorem g_getI {o ci k index m0 : Nat} (hd : decode cc pc = .ok (.getfield index, 3)) (hL : FLk own index ci k) (ho : SH o = .inl ci) (hf : (FT ci)[k]? = some (0, m0)) (kk : Go cc nL own ret d G Qc (pc + 3) lv (.int (gI h o k) :: rest) h) : Go cc nL own ret d G Qc pc lv (.ref (gAd G o) :: rest) h := g_get hd hL ho hf rfl kk
theorem g_getJ {o ci k index m0 : Nat} (hd : decode cc pc = .ok (.getfield index, 3)) (hL : FLk own index ci k) (ho : SH o = .inl ci) (hf : (FT ci)[k]? = some (1, m0)) (kk : Go cc nL own ret d G Qc (pc + 3) lv (.long (gJ h o k) :: rest) h) : Go cc nL own ret d G Qc pc lv (.ref (gAd G o) :: rest) h := g_get hd hL ho hf rfl kk
theorem g_getO {o ci k index m0 : Nat} (hd : decode cc pc = .ok (.getfield index, 3)) (hL : FLk own index ci k) (ho : SH o = .inl ci) (hf : (FT ci)[k]? = some (2, m0)) (kk : Go cc nL own ret d G Qc (pc + 3) lv (.ref (gAd G (rf o k)) :: rest) h) : Go cc nL own ret d G Qc pc lv (.ref (gAd G o) :: rest) h := g_get hd hL ho hf rfl kk
theorem g_getA {o ci k index m0 : Nat} (hd : decode cc pc = .ok (.getfield index, 3)) (hL : FLk own index ci k) (ho : SH o = .inl ci) (hf : (FT ci)[k]? = some (3, m0)) (kk : Go cc nL own ret d G Qc (pc + 3) lv (.ref (gAd G (rf o k)) :: rest) h) : Go cc nL own ret d G Qc pc lv (.ref (gAd G o) :: rest) h := g_get hd hL ho hf rfl kk
/-- a reference that may change: it isn't null here -/
theorem g_getM {o ci k index n q : Nat} (hd : decode cc pc = .ok (.getfield index, 3)) (hL : FLk own index ci k) (ho : SH o = .inl ci) (hf : (FT ci)[k]? = some (4, n)) (hq : gR h n = some q) (kk : Go cc nL own ret d G Qc (pc + 3) lv (.ref (gAd G q) :: rest) h) : Go cc nL own ret d G Qc pc lv (.ref (gAd G o) :: rest) h := by
  refine g_get hd hL ho hf ?_ kk
  show va_rf ((gR h n).map (gAd G)) = _
  rw [hq]
  rfl
/-- a reference that may change, null here -/
theorem g_getM0 {o ci k index n : Nat} (hd : decode cc pc = .ok (.getfield index, 3)) (hL : FLk own index ci k) (ho : SH o = .inl ci) (hf : (FT ci)[k]? = some (4, n)) (hq : gR h n = none) (kk : Go cc nL own ret d G Qc (pc + 3) lv (.null :: rest) h) : Go cc nL own ret d G Qc pc lv (.ref (gAd G o) :: rest) h := by
  refine g_get hd hL ho hf ?_ kk
  show va_rf ((gR h n).map (gAd G)) = _
  rw [hq]
  rfl
theorem g_putI {o ci k index m0 : Nat} {x : Int32} (hd : decode cc pc = .ok (.putfield index, 3)) (hL : FLk own index ci k) (ho : SH o = .inl ci) (hf : (FT ci)[k]? = some (0, m0)) (hfin : uF ci k = false) (hty : parseFieldDescriptor (uD ci k) = some .int) (kk : Go cc nL own ret d G Qc (pc + 3) lv rest (sI h o k x)) : Go cc nL own ret d G Qc pc lv (.int x :: .ref (gAd G o) :: rest) h := by
  intro p l e s m args below meth c H locs ls C hr hk K RR hl
  obtain ⟨r, hr1, hk1, hl1⟩ := hL
  obtain ⟨e1, e2⟩ := uFD hr1 k
  refine va_put (D := G.1) (cl := vwCl) (tys := tyl G) (ws := wl G h) (C := r.1) (T := r.2.1) (N := r.2.2) (ty := .int) C.1 C.2.1 C.2.2.2.2 (uw hr1) (uty ci) (utok hr1) (unm hr1) C.2.2.2.1 K.1 RR.1 (wl_D K.2.1 h) RR.2 o (wl_o ho) hr1 k hk1 (C.2.2.2.2 _ hl1) (fun _ h9 => h9) (by rw [e1]; exact hfin) (by rw [e2]; exact hty) rfl rfl (by simpa using (List.getElem?_eq_some_iff.mp hf).1) hd (fun H1 locs1 hP hD hS => ?_)
  rw [wl_sI ho hf] at hP
  exact kk p l e s m args below meth c H1 locs1 ls C hr hk K ⟨hP, hS⟩ hl
theorem g_putJ {o ci k index m0 : Nat} {x : Int64} (hd : decode cc pc = .ok (.putfield index, 3)) (hL : FLk own index ci k) (ho : SH o = .inl ci) (hf : (FT ci)[k]? = some (1, m0)) (hfin : uF ci k = false) (hty : parseFieldDescriptor (uD ci k) = some .long) (kk : Go cc nL own ret d G Qc (pc + 3) lv rest (sJ h o k x)) : Go cc nL own ret d G Qc pc lv (.long x :: .ref (gAd G o) :: rest) h := by
  intro p l e s m args below meth c H locs ls C hr hk K RR hl
  obtain ⟨r, hr1, hk1, hl1⟩ := hL
  obtain ⟨e1, e2⟩ := uFD hr1 k
  refine va_put (D := G.1) (cl := vwCl) (tys := tyl G) (ws := wl G h) (C := r.1) (T := r.2.1) (N := r.2.2) (ty := .long) C.1 C.2.1 C.2.2.2.2 (uw hr1) (uty ci) (utok hr1) (unm hr1) C.2.2.2.1 K.1 RR.1 (wl_D K.2.1 h) RR.2 o (wl_o ho) hr1 k hk1 (C.2.2.2.2 _ hl1) (fun _ h9 => h9) (by rw [e1]; exact hfin) (by rw [e2]; exact hty) rfl rfl (by simpa using (List.getElem?_eq_some_iff.mp hf).1) hd (fun H1 locs1 hP hD hS => ?_)
  rw [wl_sJ ho hf] at hP
  exact kk p l e s m args below meth c H1 locs1 ls C hr hk K ⟨hP, hS⟩ hl
theorem g_putM {o ci k index n q : Nat} {ty : FieldType} (hd : decode cc pc = .ok (.putfield index, 3)) (hL : FLk own index ci k) (ho : SH o = .inl ci) (hf : (FT ci)[k]? = some (4, n)) (hM : Mu n = (o, k)) (hfin : uF ci k = false) (hty : parseFieldDescriptor (uD ci k) = some ty) (hn : ∀ a : Nat, narrow ty (.ref a) = .ref a) (hfit : ∀ a : Nat, fits ty (.ref a) = true) (kk : Go cc nL own ret d G Qc (pc + 3) lv rest (sR h n (some q))) : Go cc nL own ret d G Qc pc lv (.ref (gAd G q) :: .ref (gAd G o) :: rest) h := by
  intro p l e s m args below meth c H locs ls C hr hk K RR hl
  obtain ⟨r, hr1, hk1, hl1⟩ := hL
  obtain ⟨e1, e2⟩ := uFD hr1 k
  refine va_put (D := G.1) (cl := vwCl) (tys := tyl G) (ws := wl G h) (C := r.1) (T := r.2.1) (N := r.2.2) (ty := ty) C.1 C.2.1 C.2.2.2.2 (uw hr1) (uty ci) (utok hr1) (unm hr1) C.2.2.2.1 K.1 RR.1 (wl_D K.2.1 h) RR.2 o (wl_o ho) hr1 k hk1 (C.2.2.2.2 _ hl1) (fun _ h9 => h9) (by rw [e1]; exact hfin) (by rw [e2]; exact hty) (hn _) (hfit _) (by simpa using (List.getElem?_eq_some_iff.mp hf).1) hd (fun H1 locs1 hP hD hS => ?_)
  rw [wl_sR ho hf hM] at hP
  exact kk p l e s m args below meth c H1 locs1 ls C hr hk K ⟨hP, hS⟩ hl
theorem g_iald {o : Nat} {i : Int32} (hd : decode cc pc = .ok (.iaload, 1)) (ho : isA o 0) {n : Nat} (hn : alen o = n) (hin : vp_in i n) (kk : Go cc nL own ret d G Qc (pc + 1) lv (.int (gI h o i.toNatClampNeg) :: rest) h) : Go cc nL own ret d G Qc pc lv (.int i :: .ref (gAd G o) :: rest) h := by
  subst hn
  intro p l e s m args below meth c H locs ls C hr hk K RR hl
  exact va_iald (D := G.1) (cl := vwCl) (tys := tyl G) (ws := wl G h) C.1 C.2.1 K.1 RR.1 o 0 (wl_a ho (by decide)) rfl hin hd (kk p l e s m args below meth c H locs ls C hr hk K RR hl)
theorem g_bald {o : Nat} {i : Int32} (hd : decode cc pc = .ok (.baload, 1)) (ho : isA o 2) {n : Nat} (hn : alen o = n) (hin : vp_in i n) (kk : Go cc nL own ret d G Qc (pc + 1) lv (.int (gI h o i.toNatClampNeg) :: rest) h) : Go cc nL own ret d G Qc pc lv (.int i :: .ref (gAd G o) :: rest) h := by
  subst hn
  intro p l e s m args below meth c H locs ls C hr hk K RR hl
  exact va_bald (D := G.1) (cl := vwCl) (tys := tyl G) (ws := wl G h) C.1 C.2.1 K.1 RR.1 o 2 (wl_a ho (by decide)) rfl hin hd (kk p l e s m args below meth c H locs ls C hr hk K RR hl)
theorem g_zald {o : Nat} {i : Int32} (hd : decode cc pc = .ok (.baload, 1)) (ho : isA o 3) {n : Nat} (hn : alen o = n) (hin : vp_in i n) (kk : Go cc nL own ret d G Qc (pc + 1) lv (.int (gI h o i.toNatClampNeg) :: rest) h) : Go cc nL own ret d G Qc pc lv (.int i :: .ref (gAd G o) :: rest) h := by
  subst hn
  intro p l e s m args below meth c H locs ls C hr hk K RR hl
  exact va_zald (D := G.1) (cl := vwCl) (tys := tyl G) (ws := wl G h) C.1 C.2.1 K.1 RR.1 o 3 (wl_a ho (by decide)) rfl hin hd (kk p l e s m args below meth c H locs ls C hr hk K RR hl)
theorem g_lald {o : Nat} {i : Int32} (hd : decode cc pc = .ok (.laload, 1)) (ho : isA o 1) {n : Nat} (hn : alen o = n) (hin : vp_in i n) (kk : Go cc nL own ret d G Qc (pc + 1) lv (.long (gJ h o i.toNatClampNeg) :: rest) h) : Go cc nL own ret d G Qc pc lv (.int i :: .ref (gAd G o) :: rest) h := by
  subst hn
  intro p l e s m args below meth c H locs ls C hr hk K RR hl
  exact va_lald (D := G.1) (cl := vwCl) (tys := tyl G) (ws := wl G h) C.1 C.2.1 K.1 RR.1 o 1 (wl_a ho (by decide)) rfl hin hd (kk p l e s m args below meth c H locs ls C hr hk K RR hl)
theorem g_aald {o t : Nat} {i : Int32} (hd : decode cc pc = .ok (.aaload, 1)) (ho : isA o t) (ht : t = 4 ∨ t = 5 ∨ t = 6) {n : Nat} (hn : alen o = n) (hin : vp_in i n) (kk : Go cc nL own ret d G Qc (pc + 1) lv (.ref (gAd G (rf o i.toNatClampNeg)) :: rest) h) : Go cc nL own ret d G Qc pc lv (.int i :: .ref (gAd G o) :: rest) h := by
  subst hn
  intro p l e s m args below meth c H locs ls C hr hk K RR hl
  rcases ht with rfl | rfl | rfl
  · exact va_aldq (D := G.1) (cl := vwCl) (tys := tyl G) (ws := wl G h) C.1 C.2.1 K.1 RR.1 o 4 (wl_a ho (by decide)) rfl hin hd (kk p l e s m args below meth c H locs ls C hr hk K RR hl)
  · exact va_aldq (D := G.1) (cl := vwCl) (tys := tyl G) (ws := wl G h) C.1 C.2.1 K.1 RR.1 o 5 (wl_a ho (by decide)) rfl hin hd (kk p l e s m args below meth c H locs ls C hr hk K RR hl)
  · exact va_aldq (D := G.1) (cl := vwCl) (tys := tyl G) (ws := wl G h) C.1 C.2.1 K.1 RR.1 o 6 (wl_a ho (by decide)) rfl hin hd (kk p l e s m args below meth c H locs ls C hr hk K RR hl)
theorem g_alen {o t : Nat} {v : Int32} (hd : decode cc pc = .ok (.arraylength, 1)) (ho : isA o t) (ht : t < 7) {n : Nat} (hn : alen o = n) (hv : Int32.ofNat n = v) (kk : Go cc nL own ret d G Qc (pc + 1) lv (.int v :: rest) h) : Go cc nL own ret d G Qc pc lv (.ref (gAd G o) :: rest) h := by
  subst hn
  intro p l e s m args below meth c H locs ls C hr hk K RR hl
  obtain ⟨ty, hty⟩ : ∃ ty, (tyl G)[t]? = some (gCy G t, ty) := by
    match t, ht with
    | 0, _ => exact ⟨_, rfl⟩
    | 1, _ => exact ⟨_, rfl⟩
    | 2, _ => exact ⟨_, rfl⟩
    | 3, _ => exact ⟨_, rfl⟩
    | 4, _ => exact ⟨_, rfl⟩
    | 5, _ => exact ⟨_, rfl⟩
    | 6, _ => exact ⟨_, rfl⟩
  exact va_alen (D := G.1) (cl := vwCl) (tys := tyl G) (ws := wl G h) C.1 C.2.1 K.1 RR.1 o t (wl_a ho (by omega)) hty hv hd (kk p l e s m args below meth c H locs ls C hr hk K RR hl)
theorem g_iast {o : Nat} {i x : Int32} (hd : decode cc pc = .ok (.iastore, 1)) (ho : isA o 0) {n : Nat} (hn : alen o = n) (hin : vp_in i n) (kk : Go cc nL own ret d G Qc (pc + 1) lv rest (sI h o i.toNatClampNeg x)) : Go cc nL own ret d G Qc pc lv (.int x :: .int i :: .ref (gAd G o) :: rest) h := by
  subst hn
  intro p l e s m args below meth c H locs ls C hr hk K RR hl
  refine va_iast (D := G.1) (cl := vwCl) (tys := tyl G) (ws := wl G h) C.1 C.2.1 K.1 RR.1 (wl_D K.2.1 h) RR.2 o 0 (wl_a ho (by decide)) rfl hin hd (fun H1 locs1 hP hD hS => ?_)
  rw [wl_aI ho (Or.inl rfl)] at hP
  exact kk p l e s m args below meth c H1 locs1 ls C hr hk K ⟨hP, hS⟩ hl
theorem g_bast {o : Nat} {i x : Int32} (hd : decode cc pc = .ok (.bastore, 1)) (ho : isA o 2) {n : Nat} (hn : alen o = n) (hin : vp_in i n) (kk : Go cc nL own ret d G Qc (pc + 1) lv rest (sI h o i.toNatClampNeg (vp_nar .byte x))) : Go cc nL own ret d G Qc pc lv (.int x :: .int i :: .ref (gAd G o) :: rest) h := by
  subst hn
  intro p l e s m args below meth c H locs ls C hr hk K RR hl
  refine va_bast (D := G.1) (cl := vwCl) (tys := tyl G) (ws := wl G h) C.1 C.2.1 K.1 RR.1 (wl_D K.2.1 h) RR.2 o 2 (wl_a ho (by decide)) rfl hin hd (fun H1 locs1 hP hD hS => ?_)
  rw [wl_aI ho (Or.inr (Or.inl rfl))] at hP
  exact kk p l e s m args below meth c H1 locs1 ls C hr hk K ⟨hP, hS⟩ hl
theorem g_zast {o : Nat} {i x : Int32} (hd : decode cc pc = .ok (.bastore, 1)) (ho : isA o 3) {n : Nat} (hn : alen o = n) (hin : vp_in i n) (kk : Go cc nL own ret d G Qc (pc + 1) lv rest (sI h o i.toNatClampNeg (vp_nar .boolean x))) : Go cc nL own ret d G Qc pc lv (.int x :: .int i :: .ref (gAd G o) :: rest) h := by
  subst hn
  intro p l e s m args below meth c H locs ls C hr hk K RR hl
  refine va_zast (D := G.1) (cl := vwCl) (tys := tyl G) (ws := wl G h) C.1 C.2.1 K.1 RR.1 (wl_D K.2.1 h) RR.2 o 3 (wl_a ho (by decide)) rfl hin hd (fun H1 locs1 hP hD hS => ?_)
  rw [wl_aI ho (Or.inr (Or.inr rfl))] at hP
  exact kk p l e s m args below meth c H1 locs1 ls C hr hk K ⟨hP, hS⟩ hl
theorem g_last {o : Nat} {i : Int32} {x : Int64} (hd : decode cc pc = .ok (.lastore, 1)) (ho : isA o 1) {n : Nat} (hn : alen o = n) (hin : vp_in i n) (kk : Go cc nL own ret d G Qc (pc + 1) lv rest (sJ h o i.toNatClampNeg x)) : Go cc nL own ret d G Qc pc lv (.long x :: .int i :: .ref (gAd G o) :: rest) h := by
  subst hn
  intro p l e s m args below meth c H locs ls C hr hk K RR hl
  refine va_last (D := G.1) (cl := vwCl) (tys := tyl G) (ws := wl G h) C.1 C.2.1 K.1 RR.1 (wl_D K.2.1 h) RR.2 o 1 (wl_a ho (by decide)) rfl hin hd (fun H1 locs1 hP hD hS => ?_)
  rw [wl_aJ ho] at hP
  exact kk p l e s m args below meth c H1 locs1 ls C hr hk K ⟨hP, hS⟩ hl
theorem g_copyI {o1 o2 index : Nat} {sp dp n : Int32} (hd : decode cc pc = .ok (.invokestatic index, 3)) (hw : Cond.methodLink own index arraycopyName ∈ Wd) (h1 : isA o1 0) (h2 : isA o2 0) {n1 n2 : Nat} (hn1 : alen o1 = n1) (hn2 : alen o2 = n2) (hc : ¬ sp < 0 ∧ ¬ dp < 0 ∧ ¬ n < 0 ∧ sp.toNatClampNeg + n.toNatClampNeg ≤ n1 ∧ dp.toNatClampNeg + n.toNatClampNeg ≤ n2) (hdep : 1 ≤ d) (hst : (rest.map fun v => v.category).sum ≤ 8) (kk : Go cc nL own ret d G Qc (pc + 3) lv rest (cI h o1 sp.toNatClampNeg o2 dp.toNatClampNeg n.toNatClampNeg)) : Go cc nL own ret d G Qc pc lv (.int n :: .int dp :: .ref (gAd G o2) :: .int sp :: .ref (gAd G o1) :: rest) h := by
  subst hn1
  subst hn2
  intro p l e s m args below meth c H locs ls C hr hk K RR hl
  obtain ⟨c1, c2, c3, c4, c5⟩ := hc
  have hloc : (rest.map fun v => v.category).sum + (nativeFrameWords "java/lang/System" "arraycopy" 5 + 11) ≤ (rmD d).locals := by
    show _ ≤ 64 * d
    have : nativeFrameWords "java/lang/System" "arraycopy" 5 ≤ 40 := by decide +kernel
    omega
  refine va_copyi (D := G.1) (cl := vwCl) (tys := tyl G) (ws := wl G h) (ty := .int) C.1 C.2.1 (C.2.2.1.trans hl.1.symm) C.2.2.2.1 (C.2.2.2.2 _ hw) (C.2.2.2.2 _ wcN) (C.2.2.2.2 _ wcS) (C.2.2.2.2 _ wcI) K.1 RR.1 (wl_D K.2.1 h) RR.2 o1 o2 0 0 (wl_a h1 (by decide)) (wl_a h2 (by decide)) rfl rfl rfl c1 c2 c3 c4 c5 (fun _ _ => rfl) hdep hloc hd (fun H1 locs1 hP hD hS => ?_)
  rw [wl_cI h2] at hP
  exact kk p l e s m args below meth c H1 locs1 ls C hr hk K ⟨hP, hS⟩ hl
/-! String constants -/
theorem g_strV {i index : Nat} (hd : decode cc pc = .ok (.getfield index, 3)) (hi : i < NS) (hw : Cond.fieldLink own index "java/lang/String" "value" "[B" ∈ Wd) (kk : Go cc nL own ret d G Qc (pc + 3) lv (.ref (gSv G i) :: rest) h) : Go cc nL own ret d G Qc pc lv (.ref (gSa G i) :: rest) h := by
  intro p l e s m args below meth c H locs ls C hr hk K RR hl
  exact vk_getf C.1 C.2.1 (K.2.2.2.1 i hi).2.2.2.1 RR.2 C.2.2.2.1 (C.2.2.2.2 _ hw) (fun _ h9 => h9) hd (kk p l e s m args below meth c H locs ls C hr hk K RR hl)
theorem g_strC {i index : Nat} (hd : decode cc pc = .ok (.getfield index, 3)) (hi : i < NS) (hw : Cond.fieldLink own index "java/lang/String" "coder" "B" ∈ Wd) (kk : Go cc nL own ret d G Qc (pc + 3) lv (.int 0 :: rest) h) : Go cc nL own ret d G Qc pc lv (.ref (gSa G i) :: rest) h := by
  intro p l e s m args below meth c H locs ls C hr hk K RR hl
  exact vk_getf C.1 C.2.1 (K.2.2.2.1 i hi).2.2.1 RR.2 C.2.2.2.1 (C.2.2.2.2 _ hw) (fun _ h9 => h9) hd (kk p l e s m args below meth c H locs ls C hr hk K RR hl)
theorem g_strL {i : Nat} {v : Int32} (hd : decode cc pc = .ok (.arraylength, 1)) (hi : i < NS) (hv : Int32.ofNat (slen i) = v) (kk : Go cc nL own ret d G Qc (pc + 1) lv (.int v :: rest) h) : Go cc nL own ret d G Qc pc lv (.ref (gSv G i) :: rest) h := by
  intro p l e s m args below meth c H locs ls C hr hk K RR hl
  exact va_tlen C.1 C.2.1 (K.2.2.2.1 i hi).2.2.2.2 RR.2 hv hd (kk p l e s m args below meth c H locs ls C hr hk K RR hl)
theorem g_strB {i : Nat} {j : Int32} (hd : decode cc pc = .ok (.baload, 1)) (hi : i < NS) (hin : vp_in j (slen i)) (kk : Go cc nL own ret d G Qc (pc + 1) lv (.int (schr i j.toNatClampNeg) :: rest) h) : Go cc nL own ret d G Qc pc lv (.int j :: .ref (gSv G i) :: rest) h := by
  intro p l e s m args below meth c H locs ls C hr hk K RR hl
  exact va_tb C.1 C.2.1 (K.2.2.2.1 i hi).2.2.2.2 RR.2 hin rfl hd (kk p l e s m args below meth c H locs ls C hr hk K RR hl)
theorem g_compact {index : Nat} (hd : decode cc pc = .ok (.getstatic index, 3)) (hw : Cond.fieldLink own index "java/lang/String" "COMPACT_STRINGS" "Z" ∈ Wd) (kk : Go cc nL own ret d G Qc (pc + 3) lv (.int 1 :: rest) h) : Go cc nL own ret d G Qc pc lv rest h := by
  intro p l e s m args below meth c H locs ls C hr hk K RR hl
  exact va_gets C.1 C.2.1 K.2.2.2.2.1 RR.2 C.2.2.2.1 (C.2.2.2.2 _ hw) (fun _ h9 => h9) hd (kk p l e s m args below meth c H locs ls C hr hk K RR hl)
theorem g_getsV {index : Nat} (hd : decode cc pc = .ok (.getstatic index, 3)) (hw : Cond.fieldLink own index "jdk/internal/util/Preconditions" "SIOOBE_FORMATTER" "Ljava/util/function/BiFunction;" ∈ Wd) (k0 : Go cc nL own ret d G Qc (pc + 3) lv (.null :: rest) h) (k1 : ∀ t : Nat, Go cc nL own ret d G Qc (pc + 3) lv (.ref t :: rest) h) : Go cc nL own ret d G Qc pc lv rest h := by
  intro p l e s m args below meth c H locs ls C hr hk K RR hl
  rcases K.2.2.2.2.2 with hz | ⟨t, hz⟩
  · exact va_gets C.1 C.2.1 hz RR.2 C.2.2.2.1 (C.2.2.2.2 _ hw) (fun _ h9 => h9) hd (k0 p l e s m args below meth c H locs ls C hr hk K RR hl)
  · exact va_gets C.1 C.2.1 hz RR.2 C.2.2.2.1 (C.2.2.2.2 _ hw) (fun _ h9 => h9) hd (k1 t p l e s m args below meth c H locs ls C hr hk K RR hl)

/-! calls -/
theorem pcD_blind {av : List Value} : FrameBlind (PcD G av h) := fun _ _ _ _ q => ⟨q.1, q.2.1, KK.same rfl rfl q.2.2⟩
theorem pcD_pre {s U : State} {H : Heap} {locs : List Loc} {av : List Value} (K : KK G s) (RR : RW G s h H locs) (hU : U.heap = H) (hW : s.WarmedH U.vm) : PcD G av h av.toArray U :=
  ⟨rfl, by rw [hU]; exact RR.1, KK.moved hW (fun a h1 h2 => by rw [hU]; exact RR.2.2.1 a h1 h2) K⟩
def Mok (y : MethodName) (cc1 : ByteArray) (nL1 : Nat) (ret1 : Option FieldType) (n : Nat) : Prop := Cond.initialized y.cls ∈ Wd ∧ Cond.code y cc1 nL1 ret1 ∈ Wd ∧ (y.cls ≠ "java/lang/invoke/MethodHandle" ∧ y.cls ≠ "java/lang/invoke/VarHandle" ∧ (parseMethodDescriptor y.desc).map (fun d => d.parameters.length) = some n) ∧ nL1 ≤ 44
def MokV (y : MethodName) (cc1 : ByteArray) (nL1 : Nat) (ret1 : Option FieldType) (n : Nat) : Prop := Mok y cc1 nL1 ret1 n ∧ Cond.instanceMethod y ∈ Wd ∧ Cond.selects y.cls y y ∈ Wd
def MokS (y : MethodName) (cc1 : ByteArray) (nL1 : Nat) (ret1 : Option FieldType) (n : Nat) : Prop := Mok y cc1 nL1 ret1 n ∧ Cond.static y ∈ Wd
theorem wsD_good {y : MethodName} {cc1 : ByteArray} {nL1 n : Nat} {ret1 : Option FieldType} (hm : Mok y cc1 nL1 ret1 n) : GoodIn Wd (wsD y cc1 nL1 ret1) := by
  intro w hw
  have h1 : w ∈ Wd := by
    rcases List.mem_cons.mp hw with e | e
    · rw [e]; exact hm.2.1
    · exact e
  exact ⟨h1, Wd_good h1⟩
section XRUN
variable {p : Program} {l : Launch} {e : Env} {s : State} {m : MethodId} {args : Array Value} {below : List Frame} {meth : Method} {c : Code} {H : Heap} {locs : List Loc} {ls : Array Slot} {y : MethodName} {cc1 : ByteArray} {nL1 index n o ci d1 : Nat} {ret1 : Option FieldType} {As : List Value} {Q1 : Array Value → State → Outcome → State → Prop}
theorem x_callB {R : Room} {rm : Room} (C : CallFix p m c cc nL s args Wd own) (hw : Cond.methodLink own index y ∈ Wd) (hm : Mok y cc1 nL1 ret1 n) (hdep : d1 + 1 ≤ d) : CallB (rmD d) s args own index y cc1 nL1 ret1 (wsD y cc1 nL1 ret1) (rmD d1) 0 0 n :=
  callB_of n C.2.2.2.2 (wsD_good hm) rfl rfl rfl (C.2.2.2.2 _ hm.1) (C.2.2.2.2 _ hw) hm.2.2.1 ⟨hdep, by show 8 + (nL1 + 11) + 64 * d1 ≤ 64 * d; have := hm.2.2.2; omega⟩
theorem x_runV (C : CallFix p m c cc nL s args Wd own) (K : KK G s) (RR : RW G s h H locs) (hl : ls.size = nL) (hd : decode cc pc = .ok (.invokevirtual index, 3)) (hw : Cond.methodLink own index y ∈ Wd) (hm : MokV y cc1 nL1 ret1 n) (hn : As.length = n) (hci : (vwCl[ci]?).map (fun r => r.1) = some y.cls) (ho : SH o = .inl ci) (hdep : d1 + 1 ≤ d) (hst : (rest.map fun v => v.category).sum ≤ 8) (hM : Ct y cc1 nL1 ret1 d1 G (.ref (gAd G o) :: As) h Q1) :
    va_Run p l e (rmD d) s m args below meth c H locs 0 0 0 0 (F0 m pc ls (As.reverse ++ .ref (gAd G o) :: rest)) rest (Q1 (Value.ref (gAd G o) :: As).toArray) (gA G) := by
  obtain ⟨r, hr1, hr2⟩ := Option.map_eq_some_iff.mp hci
  have hrec := va_recv K.1 RR.1 hr1 (wl_o ho)
  rw [hr2] at hrec
  exact va_runV (As := As) (rest := rest) (C := y.cls) C (hM l) ⟨x_callB (R := rmD d) (rm := rmD d1) C hw hm.1 hdep, C.2.2.2.2 _ hm.2.1, C.2.2.2.2 _ hm.2.2⟩ ⟨pcD_blind, hrec, fun U hU hW => pcD_pre K RR hU hW⟩ rfl hn hl rfl (lv_room hst) hd ⟨Nat.le_refl _, Nat.le_refl _⟩
theorem x_runVS {i : Nat} (C : CallFix p m c cc nL s args Wd own) (K : KK G s) (RR : RW G s h H locs) (hl : ls.size = nL) (hd : decode cc pc = .ok (.invokevirtual index, 3)) (hw : Cond.methodLink own index y ∈ Wd) (hm : MokV y cc1 nL1 ret1 n) (hn : As.length = n) (hci : y.cls = "java/lang/String") (hi : i < NS) (hdep : d1 + 1 ≤ d) (hst : (rest.map fun v => v.category).sum ≤ 8) (hM : Ct y cc1 nL1 ret1 d1 G (.ref (gSa G i) :: As) h Q1) :
    va_Run p l e (rmD d) s m args below meth c H locs 0 0 0 0 (F0 m pc ls (As.reverse ++ .ref (gSa G i) :: rest)) rest (Q1 (Value.ref (gSa G i) :: As).toArray) (gA G) := by
  obtain ⟨cell, a1, a2, a3, -⟩ := ((K.2.2.2.1 i hi).2.1).kept RR.2.2.1
  exact va_runV (As := As) (rest := rest) (C := y.cls) C (hM l) ⟨x_callB (R := rmD d) (rm := rmD d1) C hw hm.1 hdep, C.2.2.2.2 _ hm.2.1, C.2.2.2.2 _ hm.2.2⟩ ⟨pcD_blind, ⟨cell, a1, a2, by rw [hci]; exact a3⟩, fun U hU hW => pcD_pre K RR hU hW⟩ rfl hn hl rfl (lv_room hst) hd ⟨Nat.le_refl _, Nat.le_refl _⟩
theorem x_runS (C : CallFix p m c cc nL s args Wd own) (K : KK G s) (RR : RW G s h H locs) (hl : ls.size = nL) (hd : decode cc pc = .ok (.invokestatic index, 3)) (hw : Cond.methodLink own index y ∈ Wd) (hm : MokS y cc1 nL1 ret1 n) (hn : As.length = n) (hdep : d1 + 1 ≤ d) (hst : (rest.map fun v => v.category).sum ≤ 8) (hM : Ct y cc1 nL1 ret1 d1 G As h Q1) :
    va_Run p l e (rmD d) s m args below meth c H locs 0 0 0 0 (F0 m pc ls (As.reverse ++ rest)) rest (Q1 As.toArray) (gA G) :=
  va_runS (As := As) (rest := rest) C (hM l) ⟨x_callB (R := rmD d) (rm := rmD d1) C hw hm.1 hdep, C.2.2.2.2 _ hm.2⟩ ⟨pcD_blind, fun U hU hW => pcD_pre K RR hU hW⟩ rfl hn hl rfl (lv_room hst) hd ⟨Nat.le_refl _, Nat.le_refl _⟩
theorem x_runN (C : CallFix p m c cc nL s args Wd own) (K : KK G s) (RR : RW G s h H locs) (hl : ls.size = nL) (hd : decode cc pc = .ok (.invokestatic index, 3)) (hw : va_Nw (.methodLinkNest own index y RX11) s) (hm : MokS y cc1 nL1 ret1 n) (hn : As.length = n) (hdep : d1 + 1 ≤ d) (hst : (rest.map fun v => v.category).sum ≤ 8) (hM : Ct y cc1 nL1 ret1 d1 G As h Q1) :
    va_Run p l e (rmD d) s m args below meth c H locs 0 0 0 0 (F0 m pc ls (As.reverse ++ rest)) rest (Q1 As.toArray) (gA G) :=
  va_runSN (As := As) (rest := rest) C (hM l) ⟨va_cnB n C.2.2.2.2 (wsD_good hm.1) rfl rfl rfl hw (C.2.2.2.2 _ hm.1.1) hm.1.2.2.1 ⟨hdep, by show 8 + (nL1 + 11) + 64 * d1 ≤ 64 * d; have := hm.1.2.2.2; omega⟩, C.2.2.2.2 _ hm.2, trivial⟩ ⟨pcD_blind, fun U hU hW => pcD_pre K RR hU hW⟩ rfl hn hl rfl (lv_room hst) hd ⟨Nat.le_refl _, Nat.le_refl _⟩
end XRUN

theorem g_callVI {y : MethodName} {cc1 : ByteArray} {nL1 index n d1 : Nat} {ret1 : Option FieldType} (As : List Value) {st0 : List Value} {Q1 : Int32 → Hp → Prop} {o ci : Nat} (hd : decode cc pc = .ok (.invokevirtual index, 3)) (hw : Cond.methodLink own index y ∈ Wd) (hm : MokV y cc1 nL1 ret1 n) (hn : As.length = n) (hci : (vwCl[ci]?).map (fun r => r.1) = some y.cls) (ho : SH o = .inl ci) (hdep : d1 + 1 ≤ d) (hst : (rest.map fun v => v.category).sum ≤ 8) (hs0 : st0 = As.reverse ++ .ref (gAd G o) :: rest) (hM : Ct y cc1 nL1 ret1 d1 G (.ref (gAd G o) :: As) h (QI G Q1)) (kk : ∀ (r : Int32) (h1 : Hp), Q1 r h1 → Go cc nL own ret d G Qc (pc + 3) lv (.int r :: rest) h1) : Go cc nL own ret d G Qc pc lv st0 h := by subst hs0; intro p l e s m args below meth c H locs ls C hr hk K RR hl; exact va_calli (x_runV (As := As) C K RR hl.1 hd hw hm hn hci ho hdep hst hM) RR.2 (fun q _ hq => hq) (fun q hq => hq) (fun r u t H1 locs1 ht hvm hq hB hz hk1 hS => kk r u hq p l e s m args below meth c H1 locs1 ls C hr hk K ⟨by rw [← ht]; exact hB, hS⟩ hl)
theorem g_callTI {y : MethodName} {cc1 : ByteArray} {nL1 index n d1 : Nat} {ret1 : Option FieldType} (As : List Value) {st0 : List Value} {Q1 : Int32 → Hp → Prop} {i : Nat} (hd : decode cc pc = .ok (.invokevirtual index, 3)) (hw : Cond.methodLink own index y ∈ Wd) (hm : MokV y cc1 nL1 ret1 n) (hn : As.length = n) (hci : y.cls = "java/lang/String") (hi : i < NS) (hdep : d1 + 1 ≤ d) (hst : (rest.map fun v => v.category).sum ≤ 8) (hs0 : st0 = As.reverse ++ .ref (gSa G i) :: rest) (hM : Ct y cc1 nL1 ret1 d1 G (.ref (gSa G i) :: As) h (QI G Q1)) (kk : ∀ (r : Int32) (h1 : Hp), Q1 r h1 → Go cc nL own ret d G Qc (pc + 3) lv (.int r :: rest) h1) : Go cc nL own ret d G Qc pc lv st0 h := by subst hs0; intro p l e s m args below meth c H locs ls C hr hk K RR hl; exact va_calli (x_runVS (As := As) C K RR hl.1 hd hw hm hn hci hi hdep hst hM) RR.2 (fun q _ hq => hq) (fun q hq => hq) (fun r u t H1 locs1 ht hvm hq hB hz hk1 hS => kk r u hq p l e s m args below meth c H1 locs1 ls C hr hk K ⟨by rw [← ht]; exact hB, hS⟩ hl)
theorem g_callSI {y : MethodName} {cc1 : ByteArray} {nL1 index n d1 : Nat} {ret1 : Option FieldType} (As : List Value) {st0 : List Value} {Q1 : Int32 → Hp → Prop} (hd : decode cc pc = .ok (.invokestatic index, 3)) (hw : Cond.methodLink own index y ∈ Wd) (hm : MokS y cc1 nL1 ret1 n) (hn : As.length = n) (hdep : d1 + 1 ≤ d) (hst : (rest.map fun v => v.category).sum ≤ 8) (hs0 : st0 = As.reverse ++ rest) (hM : Ct y cc1 nL1 ret1 d1 G As h (QI G Q1)) (kk : ∀ (r : Int32) (h1 : Hp), Q1 r h1 → Go cc nL own ret d G Qc (pc + 3) lv (.int r :: rest) h1) : Go cc nL own ret d G Qc pc lv st0 h := by subst hs0; intro p l e s m args below meth c H locs ls C hr hk K RR hl; exact va_calli (x_runS (As := As) C K RR hl.1 hd hw hm hn hdep hst hM) RR.2 (fun q _ hq => hq) (fun q hq => hq) (fun r u t H1 locs1 ht hvm hq hB hz hk1 hS => kk r u hq p l e s m args below meth c H1 locs1 ls C hr hk K ⟨by rw [← ht]; exact hB, hS⟩ hl)
theorem g_callVJ {y : MethodName} {cc1 : ByteArray} {nL1 index n d1 : Nat} {ret1 : Option FieldType} (As : List Value) {st0 : List Value} {Q1 : Int64 → Hp → Prop} {o ci : Nat} (hd : decode cc pc = .ok (.invokevirtual index, 3)) (hw : Cond.methodLink own index y ∈ Wd) (hm : MokV y cc1 nL1 ret1 n) (hn : As.length = n) (hci : (vwCl[ci]?).map (fun r => r.1) = some y.cls) (ho : SH o = .inl ci) (hdep : d1 + 1 ≤ d) (hst : (rest.map fun v => v.category).sum ≤ 8) (hs0 : st0 = As.reverse ++ .ref (gAd G o) :: rest) (hM : Ct y cc1 nL1 ret1 d1 G (.ref (gAd G o) :: As) h (QJ G Q1)) (kk : ∀ (r : Int64) (h1 : Hp), Q1 r h1 → Go cc nL own ret d G Qc (pc + 3) lv (.long r :: rest) h1) : Go cc nL own ret d G Qc pc lv st0 h := by subst hs0; intro p l e s m args below meth c H locs ls C hr hk K RR hl; exact va_calll (x_runV (As := As) C K RR hl.1 hd hw hm hn hci ho hdep hst hM) RR.2 (fun q _ hq => hq) (fun q hq => hq) (fun r u t H1 locs1 ht hvm hq hB hz hk1 hS => kk r u hq p l e s m args below meth c H1 locs1 ls C hr hk K ⟨by rw [← ht]; exact hB, hS⟩ hl)
theorem g_callTJ {y : MethodName} {cc1 : ByteArray} {nL1 index n d1 : Nat} {ret1 : Option FieldType} (As : List Value) {st0 : List Value} {Q1 : Int64 → Hp → Prop} {i : Nat} (hd : decode cc pc = .ok (.invokevirtual index, 3)) (hw : Cond.methodLink own index y ∈ Wd) (hm : MokV y cc1 nL1 ret1 n) (hn : As.length = n) (hci : y.cls = "java/lang/String") (hi : i < NS) (hdep : d1 + 1 ≤ d) (hst : (rest.map fun v => v.category).sum ≤ 8) (hs0 : st0 = As.reverse ++ .ref (gSa G i) :: rest) (hM : Ct y cc1 nL1 ret1 d1 G (.ref (gSa G i) :: As) h (QJ G Q1)) (kk : ∀ (r : Int64) (h1 : Hp), Q1 r h1 → Go cc nL own ret d G Qc (pc + 3) lv (.long r :: rest) h1) : Go cc nL own ret d G Qc pc lv st0 h := by subst hs0; intro p l e s m args below meth c H locs ls C hr hk K RR hl; exact va_calll (x_runVS (As := As) C K RR hl.1 hd hw hm hn hci hi hdep hst hM) RR.2 (fun q _ hq => hq) (fun q hq => hq) (fun r u t H1 locs1 ht hvm hq hB hz hk1 hS => kk r u hq p l e s m args below meth c H1 locs1 ls C hr hk K ⟨by rw [← ht]; exact hB, hS⟩ hl)
theorem g_callSJ {y : MethodName} {cc1 : ByteArray} {nL1 index n d1 : Nat} {ret1 : Option FieldType} (As : List Value) {st0 : List Value} {Q1 : Int64 → Hp → Prop} (hd : decode cc pc = .ok (.invokestatic index, 3)) (hw : Cond.methodLink own index y ∈ Wd) (hm : MokS y cc1 nL1 ret1 n) (hn : As.length = n) (hdep : d1 + 1 ≤ d) (hst : (rest.map fun v => v.category).sum ≤ 8) (hs0 : st0 = As.reverse ++ rest) (hM : Ct y cc1 nL1 ret1 d1 G As h (QJ G Q1)) (kk : ∀ (r : Int64) (h1 : Hp), Q1 r h1 → Go cc nL own ret d G Qc (pc + 3) lv (.long r :: rest) h1) : Go cc nL own ret d G Qc pc lv st0 h := by subst hs0; intro p l e s m args below meth c H locs ls C hr hk K RR hl; exact va_calll (x_runS (As := As) C K RR hl.1 hd hw hm hn hdep hst hM) RR.2 (fun q _ hq => hq) (fun q hq => hq) (fun r u t H1 locs1 ht hvm hq hB hz hk1 hS => kk r u hq p l e s m args below meth c H1 locs1 ls C hr hk K ⟨by rw [← ht]; exact hB, hS⟩ hl)
theorem g_callVV {y : MethodName} {cc1 : ByteArray} {nL1 index n d1 : Nat} {ret1 : Option FieldType} (As : List Value) {st0 : List Value} {Q1 : Hp → Prop} {o ci : Nat} (hd : decode cc pc = .ok (.invokevirtual index, 3)) (hw : Cond.methodLink own index y ∈ Wd) (hm : MokV y cc1 nL1 ret1 n) (hn : As.length = n) (hci : (vwCl[ci]?).map (fun r => r.1) = some y.cls) (ho : SH o = .inl ci) (hdep : d1 + 1 ≤ d) (hst : (rest.map fun v => v.category).sum ≤ 8) (hs0 : st0 = As.reverse ++ .ref (gAd G o) :: rest) (hM : Ct y cc1 nL1 ret1 d1 G (.ref (gAd G o) :: As) h (QV G Q1)) (kk : ∀ (h1 : Hp), Q1 h1 → Go cc nL own ret d G Qc (pc + 3) lv (rest) h1) : Go cc nL own ret d G Qc pc lv st0 h := by subst hs0; intro p l e s m args below meth c H locs ls C hr hk K RR hl; exact va_callv (x_runV (As := As) C K RR hl.1 hd hw hm hn hci ho hdep hst hM) RR.2 (fun q _ hq => hq) (fun q hq => hq) (fun u t H1 locs1 ht hvm hq hB hz hk1 hS => kk u hq p l e s m args below meth c H1 locs1 ls C hr hk K ⟨by rw [← ht]; exact hB, hS⟩ hl)
theorem g_callTV {y : MethodName} {cc1 : ByteArray} {nL1 index n d1 : Nat} {ret1 : Option FieldType} (As : List Value) {st0 : List Value} {Q1 : Hp → Prop} {i : Nat} (hd : decode cc pc = .ok (.invokevirtual index, 3)) (hw : Cond.methodLink own index y ∈ Wd) (hm : MokV y cc1 nL1 ret1 n) (hn : As.length = n) (hci : y.cls = "java/lang/String") (hi : i < NS) (hdep : d1 + 1 ≤ d) (hst : (rest.map fun v => v.category).sum ≤ 8) (hs0 : st0 = As.reverse ++ .ref (gSa G i) :: rest) (hM : Ct y cc1 nL1 ret1 d1 G (.ref (gSa G i) :: As) h (QV G Q1)) (kk : ∀ (h1 : Hp), Q1 h1 → Go cc nL own ret d G Qc (pc + 3) lv (rest) h1) : Go cc nL own ret d G Qc pc lv st0 h := by subst hs0; intro p l e s m args below meth c H locs ls C hr hk K RR hl; exact va_callv (x_runVS (As := As) C K RR hl.1 hd hw hm hn hci hi hdep hst hM) RR.2 (fun q _ hq => hq) (fun q hq => hq) (fun u t H1 locs1 ht hvm hq hB hz hk1 hS => kk u hq p l e s m args below meth c H1 locs1 ls C hr hk K ⟨by rw [← ht]; exact hB, hS⟩ hl)
theorem g_callSV {y : MethodName} {cc1 : ByteArray} {nL1 index n d1 : Nat} {ret1 : Option FieldType} (As : List Value) {st0 : List Value} {Q1 : Hp → Prop} (hd : decode cc pc = .ok (.invokestatic index, 3)) (hw : Cond.methodLink own index y ∈ Wd) (hm : MokS y cc1 nL1 ret1 n) (hn : As.length = n) (hdep : d1 + 1 ≤ d) (hst : (rest.map fun v => v.category).sum ≤ 8) (hs0 : st0 = As.reverse ++ rest) (hM : Ct y cc1 nL1 ret1 d1 G As h (QV G Q1)) (kk : ∀ (h1 : Hp), Q1 h1 → Go cc nL own ret d G Qc (pc + 3) lv (rest) h1) : Go cc nL own ret d G Qc pc lv st0 h := by subst hs0; intro p l e s m args below meth c H locs ls C hr hk K RR hl; exact va_callv (x_runS (As := As) C K RR hl.1 hd hw hm hn hdep hst hM) RR.2 (fun q _ hq => hq) (fun q hq => hq) (fun u t H1 locs1 ht hvm hq hB hz hk1 hS => kk u hq p l e s m args below meth c H1 locs1 ls C hr hk K ⟨by rw [← ht]; exact hB, hS⟩ hl)
theorem g_callWe {cc1 : ByteArray} {nL1 n d1 : Nat} {ret1 : Option FieldType} (As : List Value) {st0 : List Value} {Q1 : Int32 → Hp → Prop} (hown : own = RX2) (hd : decode cc pc = .ok (.invokestatic 62, 3)) (hm : MokS yX11_isWeather cc1 nL1 ret1 n) (hn : As.length = n) (hdep : d1 + 1 ≤ d) (hst : (rest.map fun v => v.category).sum ≤ 8) (hs0 : st0 = As.reverse ++ rest) (hM : Ct yX11_isWeather cc1 nL1 ret1 d1 G As h (QI G Q1)) (kk : ∀ (r : Int32) (h1 : Hp), Q1 r h1 → Go cc nL own ret d G Qc (pc + 3) lv (.int r :: rest) h1) : Go cc nL own ret d G Qc pc lv st0 h := by subst hs0; subst hown; intro p l e s m args below meth c H locs ls C hr hk K RR hl; exact va_calli (x_runN (As := As) C K RR hl.1 hd K.2.2.1 hm hn hdep hst hM) RR.2 (fun q _ hq => hq) (fun q hq => hq) (fun r u t H1 locs1 ht hvm hq hB hz hk1 hS => kk r u hq p l e s m args below meth c H1 locs1 ls C hr hk K ⟨by rw [← ht]; exact hB, hS⟩ hl)
theorem g_iret {v : Int32} {Q1 : Int32 → Hp → Prop} (hd : decode cc pc = .ok (.ireturn, 1)) (hq : Q1 v h) : Go cc nL own (some .int) d G (QI G Q1) pc lv [.int v] h := by intro p l e s m args below meth c H locs ls C hr hk K RR hl; exact W.iret C.1 C.2.1 hr (fun t ht hW => ⟨⟨v, h, rfl, hq, by show va_P _ _ _ t.heap; rw [ht]; exact RR.1⟩, RR.2.F ht⟩) RR.2.2.2 hd hk
theorem g_zret {v : Int32} {ty : FieldType} {Q1 : Int32 → Hp → Prop} (hd : decode cc pc = .ok (.ireturn, 1)) (hn : narrow ty (.int v) = .int v) (hq : Q1 v h) : Go cc nL own (some ty) d G (QI G Q1) pc lv [.int v] h := by intro p l e s m args below meth c H locs ls C hr hk K RR hl; exact W.zret C.1 C.2.1 hr hn (fun t ht hW => ⟨⟨v, h, rfl, hq, by show va_P _ _ _ t.heap; rw [ht]; exact RR.1⟩, RR.2.F ht⟩) RR.2.2.2 hd hk
theorem g_lret {v : Int64} {Q1 : Int64 → Hp → Prop} (hd : decode cc pc = .ok (.lreturn, 1)) (hq : Q1 v h) : Go cc nL own (some .long) d G (QJ G Q1) pc lv [.long v] h := by intro p l e s m args below meth c H locs ls C hr hk K RR hl; exact W.lret C.1 C.2.1 hr (fun t ht hW => ⟨⟨v, h, rfl, hq, by show va_P _ _ _ t.heap; rw [ht]; exact RR.1⟩, RR.2.F ht⟩) RR.2.2.2 hd hk
theorem g_vret {Q1 : Hp → Prop} (hd : decode cc pc = .ok (.return_, 1)) (hq : Q1 h) : Go cc nL own none d G (QV G Q1) pc lv [] h := by intro p l e s m args below meth c H locs ls C hr hk K RR hl; exact W.vret C.1 C.2.1 hr (fun t ht hW => ⟨⟨h, rfl, hq, by show va_P _ _ _ t.heap; rw [ht]; exact RR.1⟩, RR.2.F ht⟩) RR.2.2.2 hd hk
end GOROWS
