theorem ib_11 : Cond.instantiable RX11 16 ∈ Wd := mW 24 (by decide +kernel) rfl
theorem in_11 : Cond.initialized RX11 ∈ Wd := mW 1 (by decide +kernel) rfl
theorem ib_12 : Cond.instantiable RX12 46 ∈ Wd := mW 1374 (by decide +kernel) rfl
theorem in_12 : Cond.initialized RX12 ∈ Wd := mW 14 (by decide +kernel) rfl
theorem tb_in {w : Cond} (i : Nat) (h : tables_1[i]? = some w) : w ∈ lw_tbl := List.mem_append_right _ (List.mem_of_getElem? h)
theorem st_ib : ∀ (c : Nat) (q : vw_C), vwCl[c]? = some q → Cond.instantiable q.1 q.2.2 ∈ Wd
  | 0, _, rfl => ib_0
  | 1, _, rfl => ib_1
  | 2, _, rfl => ib_2
  | 3, _, rfl => ib_3
  | 4, _, rfl => ib_4
  | 5, _, rfl => ib_5
  | 6, _, rfl => ib_6
  | 7, _, rfl => ib_7
  | 8, _, rfl => ib_8
  | 9, _, rfl => ib_9
  | 10, _, rfl => ib_10
  | 11, _, rfl => ib_11
  | 12, _, rfl => ib_12
  | n + 13, _, h => absurd h (by rw [List.getElem?_eq_none (by show 13 ≤ n + 13; omega)]; exact fun e => nomatch e)
theorem st_D {s : State} {args : Array Value} (hts : ∀ w ∈ lw_tbl, w.before args s = true) : ∃ D : va_G, ∀ (c : Nat) (q : vw_C), vwCl[c]? = some q → u_Kn s q.1 q.2.1 q.2.2 (D.1 c) (D.2 c) := by
  have h : ∀ c : Nat, ∃ x : ClassId × (Nat → Nat), ∀ q : vw_C, vwCl[c]? = some q → u_Kn s q.1 q.2.1 q.2.2 x.1 x.2 := by
    intro c
    cases hq : vwCl[c]? with
    | none => exact ⟨(default, fun _ => 0), fun q h => nomatch h⟩
    | some q =>
      obtain ⟨cC, iS, hk⟩ := u_known (ws := Wd) (C := q.1) (T := q.2.1) (N := q.2.2) (n := q.2.2) (fun w hw => hts w (Wd_in w hw)) (uw hq) (hts _ (Wd_in _ (st_ib c q hq)))
      exact ⟨(cC, iS), fun q' h => by cases h; exact hk⟩
  obtain ⟨f, hf⟩ := Classical.axiomOfChoice h
  exact ⟨(fun c => (f c).1, fun c => (f c).2), fun c q hq => hf c q hq⟩
theorem st_ac {s : State} {args : Array Value} {ty : FieldType} (hp : ∀ U c, va_RA U c ty = (U.vm.findClass ("[" ++ ty.toString) = some c)) (h : (Cond.arrayClass ty).before args s = true) : ∃ c : ClassId, ArrOfT s c ty ∧ va_RA s c ty := by
  obtain ⟨c, k, comp, h1, h2, h3⟩ := Cond.arrayClass_spec h
  exact ⟨c, fun N z => ⟨(fun k h => by cases h), k, h2, comp, h3⟩, by rw [hp]; exact h1⟩
theorem st_ao {s : State} {args : Array Value} {C : String} (h : (Cond.arrayOver (.object C)).before args s = true) : ∃ c : ClassId, ArrOfT s c (.object C) ∧ va_RA s c (.object C) := by
  obtain ⟨comp, c, k, h1, h2, h3, h4, h5⟩ := Cond.arrayOver_spec h
  exact ⟨c, fun N z => ⟨(fun k h => by cases h), k, h3, comp, h4⟩, k, comp, h3, h4, h1, h5⟩
theorem st_K {s : State} {args : Array Value} (hts : ∀ w ∈ lw_tbl, w.before args s = true) : ∃ (D : va_G) (cy : Nat → ClassId), ∀ (ad sa sv : Nat → Nat) (sz : Nat), va_K D vwCl (tyl (D, ad, cy, sa, sv, sz)) s := by
  obtain ⟨D, hD⟩ := st_D hts
  obtain ⟨c0, h0⟩ := st_ac (ty := .int) (fun _ _ => rfl) (hts (.arrayClass .int) (tb_in 85 (by decide +kernel)))
  obtain ⟨c1, h1⟩ := st_ac (ty := .long) (fun _ _ => rfl) (hts (.arrayClass .long) (tb_in 378 (by decide +kernel)))
  obtain ⟨c2, h2⟩ := st_ac (ty := .byte) (fun _ _ => rfl) (hts (.arrayClass .byte) (tb_in 64 (by decide +kernel)))
  obtain ⟨c3, h3⟩ := st_ac (ty := .boolean) (fun _ _ => rfl) (hts (.arrayClass .boolean) (tb_in 1521 (by decide +kernel)))
  obtain ⟨c4, h4⟩ := st_ao (C := RX2) (hts (.arrayOver (.object RX2)) (tb_in 241 (by decide +kernel)))
  obtain ⟨c5, h5⟩ := st_ao (C := RX6) (hts (.arrayOver (.object RX6)) (tb_in 226 (by decide +kernel)))
  obtain ⟨c6, h6⟩ := st_ao (C := RX10) (hts (.arrayOver (.object RX10)) (tb_in 240 (by decide +kernel)))
  refine ⟨D, fun t => match t with | 0 => c0 | 1 => c1 | 2 => c2 | 3 => c3 | 4 => c4 | 5 => c5 | _ => c6, fun ad sa sv sz => ⟨hD, fun k q hk => ?_⟩⟩
  match k, hk with
  | 0, rfl => exact h0
  | 1, rfl => exact h1
  | 2, rfl => exact h2
  | 3, rfl => exact h3
  | 4, rfl => exact h4
  | 5, rfl => exact h5
  | 6, rfl => exact h6
  | n + 7, hk => exact absurd hk (by rw [List.getElem?_eq_none (by show 7 ≤ n + 7; omega)]; exact fun e => nomatch e)
theorem st_N {s : State} {args : Array Value} (hts : ∀ w ∈ lw_tbl, w.before args s = true) : (∀ q ∈ nestC, va_Nw (.methodLinkNest q.1 q.2.1 q.2.2 RX11) s) ∧ va_AO RX2 s ∧ va_AO RX6 s ∧ va_AO RX10 s ∧ va_Nw (.methodLinkNest RX2 62 yX11_isWeather RX11) s := by
  refine ⟨?_, va_AO.of (A := args) (hts _ (tb_in 241 (by decide +kernel))), va_AO.of (A := args) (hts _ (tb_in 226 (by decide +kernel))), va_AO.of (A := args) (hts _ (tb_in 240 (by decide +kernel))), va_Nw.of rfl (hts _ (tb_in 819 (by decide +kernel)))⟩
  unfold nestC
  refine List.forall_mem_cons.mpr ⟨va_Nw.of rfl (hts _ (tb_in 33 (by decide +kernel))), List.forall_mem_cons.mpr ⟨va_Nw.of rfl (hts _ (tb_in 39 (by decide +kernel))), List.forall_mem_cons.mpr ⟨va_Nw.of rfl (hts _ (tb_in 67 (by decide +kernel))), List.forall_mem_cons.mpr ⟨va_Nw.of rfl (hts _ (tb_in 137 (by decide +kernel))), List.forall_mem_cons.mpr ⟨va_Nw.of rfl (hts _ (tb_in 244 (by decide +kernel))), List.forall_mem_cons.mpr ⟨va_Nw.of rfl (hts _ (tb_in 286 (by decide +kernel))), List.forall_mem_cons.mpr ⟨va_Nw.of rfl (hts _ (tb_in 314 (by decide +kernel))), List.forall_mem_cons.mpr ⟨va_Nw.of rfl (hts _ (tb_in 341 (by decide +kernel))), List.forall_mem_cons.mpr ⟨va_Nw.of rfl (hts _ (tb_in 362 (by decide +kernel))), fun _ h => absurd h List.not_mem_nil⟩⟩⟩⟩⟩⟩⟩⟩⟩
def stC (i : Nat) : List Cond := [.exactly (.string (stq i).1 (stq i).2.1) "java/lang/String", .eq (.field (.string (stq i).1 (stq i).2.1) "java/lang/String" "coder" "B") (.int 0), .arrayOf (.field (.string (stq i).1 (stq i).2.1) "java/lang/String" "value" "[B") .byte, .eq (.length (.field (.string (stq i).1 (stq i).2.1) "java/lang/String" "value" "[B")) (.int (Int32.ofNat (slen i)))] ++ (List.range (slen i)).map (fun j => .eq (.elem (.field (.string (stq i).1 (stq i).2.1) "java/lang/String" "value" "[B") (.int (Int32.ofNat j))) (.int (schr i j)))
theorem st_S1 {s : State} {args : Array Value} (hts : ∀ w ∈ lw_tbl, w.before args s = true) (i k r : Nat) (hn : (Jvm.Cond.and given_1 narrow_1).before args s = true) (hf : ((flatC (Jvm.Cond.and given_1 narrow_1)).drop k).take (stC i).length = stC i) (hr : tables_1[r]? = some (.stringRef (stq i).1 (stq i).2.1 (stq i).2.2)) (hl : slen i < 2 ^ 31) :
    ∃ q : Nat × Nat, vk_R (stq i).1 (stq i).2.1 (stq i).2.2 q.1 s ∧ va_O "java/lang/String" q.1 (fun a => s.heap.size ≤ a) s s.heap ∧ va_OF "java/lang/String" "coder" "B" (.int 0) q.1 (fun a => s.heap.size ≤ a) s s.heap ∧ va_OF "java/lang/String" "value" "[B" (.ref q.2) q.1 (fun a => s.heap.size ≤ a) s s.heap ∧ va_T .byte q.2 (slen i) (fun j => .int (schr i j)) (fun a => s.heap.size ≤ a) s s.heap := by
  have hc : ∀ c ∈ stC i, c.before args s = true := fun c hc => flat_of_before _ hn c (List.mem_of_mem_drop (List.mem_of_mem_take (hf.symm ▸ hc)))
  have hm : ∀ c, c ∈ [Cond.exactly (.string (stq i).1 (stq i).2.1) "java/lang/String", .eq (.field (.string (stq i).1 (stq i).2.1) "java/lang/String" "coder" "B") (.int 0), .arrayOf (.field (.string (stq i).1 (stq i).2.1) "java/lang/String" "value" "[B") .byte, .eq (.length (.field (.string (stq i).1 (stq i).2.1) "java/lang/String" "value" "[B")) (.int (Int32.ofNat (slen i)))] → c.before args s = true := fun c h => hc c (List.mem_append_left _ h)
  obtain ⟨adK, adV, ⟨hS, -⟩, hev⟩ := vk_Sof (args := args) (s := s) (N := 1) (tm := fun _ => .string (stq i).1 (stq i).2.1) (len := [slen i]) (byt := [stB.getD i []]) (A := fun a => s.heap.size ≤ a)
    (fun j hj => by rw [show j = 0 by omega]; exact hl) (fun j hj => hm _ List.mem_cons_self) (fun j hj => hm _ (List.mem_cons_of_mem _ List.mem_cons_self)) (fun j hj => hm _ (List.mem_cons_of_mem _ (List.mem_cons_of_mem _ List.mem_cons_self)))
    (fun j hj => by rw [show j = 0 by omega]; exact hm _ (List.mem_cons_of_mem _ (List.mem_cons_of_mem _ (List.mem_cons_of_mem _ List.mem_cons_self))))
    (fun j hj k hk => by
      rw [show j = 0 by omega] at hk ⊢
      exact hc _ (List.mem_append_right _ (List.mem_map.mpr ⟨k, List.mem_range.mpr hk, rfl⟩)))
    (fun a b ha hb hne => absurd (by omega) hne) (fun a h => by omega)
  have h0 := hS 0 (by omega)
  exact ⟨(adK 0, adV 0), vk_R.of (hts _ (tb_in r hr)) (hev 0 (by omega)), h0.1, h0.2.1, h0.2.2.1, h0.2.2.2⟩
theorem st_f0 : ((flatC (Jvm.Cond.and given_1 narrow_1)).drop 48).take (stC 0).length = stC 0 := by decide +kernel
theorem st_r0 : tables_1[464]? = some (.stringRef (stq 0).1 (stq 0).2.1 (stq 0).2.2) := by decide +kernel
theorem st_f1 : ((flatC (Jvm.Cond.and given_1 narrow_1)).drop 64).take (stC 1).length = stC 1 := by decide +kernel
theorem st_r1 : tables_1[547]? = some (.stringRef (stq 1).1 (stq 1).2.1 (stq 1).2.2) := by decide +kernel
theorem st_f2 : ((flatC (Jvm.Cond.and given_1 narrow_1)).drop 72).take (stC 2).length = stC 2 := by decide +kernel
theorem st_r2 : tables_1[586]? = some (.stringRef (stq 2).1 (stq 2).2.1 (stq 2).2.2) := by decide +kernel
theorem st_f3 : ((flatC (Jvm.Cond.and given_1 narrow_1)).drop 83).take (stC 3).length = stC 3 := by decide +kernel
theorem st_r3 : tables_1[595]? = some (.stringRef (stq 3).1 (stq 3).2.1 (stq 3).2.2) := by decide +kernel
theorem st_f4 : ((flatC (Jvm.Cond.and given_1 narrow_1)).drop 88).take (stC 4).length = stC 4 := by decide +kernel
theorem st_r4 : tables_1[604]? = some (.stringRef (stq 4).1 (stq 4).2.1 (stq 4).2.2) := by decide +kernel
theorem st_f5 : ((flatC (Jvm.Cond.and given_1 narrow_1)).drop 97).take (stC 5).length = stC 5 := by decide +kernel
theorem st_r5 : tables_1[609]? = some (.stringRef (stq 5).1 (stq 5).2.1 (stq 5).2.2) := by decide +kernel
theorem st_f6 : ((flatC (Jvm.Cond.and given_1 narrow_1)).drop 105).take (stC 6).length = stC 6 := by decide +kernel
theorem st_r6 : tables_1[614]? = some (.stringRef (stq 6).1 (stq 6).2.1 (stq 6).2.2) := by decide +kernel
theorem st_f7 : ((flatC (Jvm.Cond.and given_1 narrow_1)).drop 114).take (stC 7).length = stC 7 := by decide +kernel
theorem st_r7 : tables_1[615]? = some (.stringRef (stq 7).1 (stq 7).2.1 (stq 7).2.2) := by decide +kernel
theorem st_f8 : ((flatC (Jvm.Cond.and given_1 narrow_1)).drop 122).take (stC 8).length = stC 8 := by decide +kernel
theorem st_r8 : tables_1[620]? = some (.stringRef (stq 8).1 (stq 8).2.1 (stq 8).2.2) := by decide +kernel
theorem st_f9 : ((flatC (Jvm.Cond.and given_1 narrow_1)).drop 131).take (stC 9).length = stC 9 := by decide +kernel
theorem st_r9 : tables_1[621]? = some (.stringRef (stq 9).1 (stq 9).2.1 (stq 9).2.2) := by decide +kernel
theorem st_f10 : ((flatC (Jvm.Cond.and given_1 narrow_1)).drop 140).take (stC 10).length = stC 10 := by decide +kernel
theorem st_r10 : tables_1[622]? = some (.stringRef (stq 10).1 (stq 10).2.1 (stq 10).2.2) := by decide +kernel
theorem st_f11 : ((flatC (Jvm.Cond.and given_1 narrow_1)).drop 148).take (stC 11).length = stC 11 := by decide +kernel
theorem st_r11 : tables_1[627]? = some (.stringRef (stq 11).1 (stq 11).2.1 (stq 11).2.2) := by decide +kernel
theorem st_f12 : ((flatC (Jvm.Cond.and given_1 narrow_1)).drop 153).take (stC 12).length = stC 12 := by decide +kernel
theorem st_r12 : tables_1[644]? = some (.stringRef (stq 12).1 (stq 12).2.1 (stq 12).2.2) := by decide +kernel
theorem st_f13 : ((flatC (Jvm.Cond.and given_1 narrow_1)).drop 158).take (stC 13).length = stC 13 := by decide +kernel
theorem st_r13 : tables_1[649]? = some (.stringRef (stq 13).1 (stq 13).2.1 (stq 13).2.2) := by decide +kernel
theorem st_f14 : ((flatC (Jvm.Cond.and given_1 narrow_1)).drop 163).take (stC 14).length = stC 14 := by decide +kernel
theorem st_r14 : tables_1[650]? = some (.stringRef (stq 14).1 (stq 14).2.1 (stq 14).2.2) := by decide +kernel
theorem st_f15 : ((flatC (Jvm.Cond.and given_1 narrow_1)).drop 169).take (stC 15).length = stC 15 := by decide +kernel
theorem st_r15 : tables_1[667]? = some (.stringRef (stq 15).1 (stq 15).2.1 (stq 15).2.2) := by decide +kernel
theorem st_f16 : ((flatC (Jvm.Cond.and given_1 narrow_1)).drop 176).take (stC 16).length = stC 16 := by decide +kernel
theorem st_r16 : tables_1[668]? = some (.stringRef (stq 16).1 (stq 16).2.1 (stq 16).2.2) := by decide +kernel
theorem st_f17 : ((flatC (Jvm.Cond.and given_1 narrow_1)).drop 181).take (stC 17).length = stC 17 := by decide +kernel
theorem st_r17 : tables_1[669]? = some (.stringRef (stq 17).1 (stq 17).2.1 (stq 17).2.2) := by decide +kernel
theorem st_f18 : ((flatC (Jvm.Cond.and given_1 narrow_1)).drop 186).take (stC 18).length = stC 18 := by decide +kernel
theorem st_r18 : tables_1[674]? = some (.stringRef (stq 18).1 (stq 18).2.1 (stq 18).2.2) := by decide +kernel
theorem st_f19 : ((flatC (Jvm.Cond.and given_1 narrow_1)).drop 191).take (stC 19).length = stC 19 := by decide +kernel
theorem st_r19 : tables_1[675]? = some (.stringRef (stq 19).1 (stq 19).2.1 (stq 19).2.2) := by decide +kernel
theorem st_f20 : ((flatC (Jvm.Cond.and given_1 narrow_1)).drop 196).take (stC 20).length = stC 20 := by decide +kernel
theorem st_r20 : tables_1[676]? = some (.stringRef (stq 20).1 (stq 20).2.1 (stq 20).2.2) := by decide +kernel
theorem st_f21 : ((flatC (Jvm.Cond.and given_1 narrow_1)).drop 201).take (stC 21).length = stC 21 := by decide +kernel
theorem st_r21 : tables_1[677]? = some (.stringRef (stq 21).1 (stq 21).2.1 (stq 21).2.2) := by decide +kernel
theorem st_f22 : ((flatC (Jvm.Cond.and given_1 narrow_1)).drop 208).take (stC 22).length = stC 22 := by decide +kernel
theorem st_r22 : tables_1[678]? = some (.stringRef (stq 22).1 (stq 22).2.1 (stq 22).2.2) := by decide +kernel
theorem st_f23 : ((flatC (Jvm.Cond.and given_1 narrow_1)).drop 214).take (stC 23).length = stC 23 := by decide +kernel
theorem st_r23 : tables_1[679]? = some (.stringRef (stq 23).1 (stq 23).2.1 (stq 23).2.2) := by decide +kernel
theorem st_f24 : ((flatC (Jvm.Cond.and given_1 narrow_1)).drop 222).take (stC 24).length = stC 24 := by decide +kernel
theorem st_r24 : tables_1[680]? = some (.stringRef (stq 24).1 (stq 24).2.1 (stq 24).2.2) := by decide +kernel
theorem st_f25 : ((flatC (Jvm.Cond.and given_1 narrow_1)).drop 230).take (stC 25).length = stC 25 := by decide +kernel
theorem st_r25 : tables_1[681]? = some (.stringRef (stq 25).1 (stq 25).2.1 (stq 25).2.2) := by decide +kernel
theorem st_f26 : ((flatC (Jvm.Cond.and given_1 narrow_1)).drop 237).take (stC 26).length = stC 26 := by decide +kernel
theorem st_r26 : tables_1[686]? = some (.stringRef (stq 26).1 (stq 26).2.1 (stq 26).2.2) := by decide +kernel
theorem st_f27 : ((flatC (Jvm.Cond.and given_1 narrow_1)).drop 245).take (stC 27).length = stC 27 := by decide +kernel
theorem st_r27 : tables_1[687]? = some (.stringRef (stq 27).1 (stq 27).2.1 (stq 27).2.2) := by decide +kernel
theorem st_f28 : ((flatC (Jvm.Cond.and given_1 narrow_1)).drop 253).take (stC 28).length = stC 28 := by decide +kernel
theorem st_r28 : tables_1[688]? = some (.stringRef (stq 28).1 (stq 28).2.1 (stq 28).2.2) := by decide +kernel
theorem st_f29 : ((flatC (Jvm.Cond.and given_1 narrow_1)).drop 259).take (stC 29).length = stC 29 := by decide +kernel
theorem st_r29 : tables_1[689]? = some (.stringRef (stq 29).1 (stq 29).2.1 (stq 29).2.2) := by decide +kernel
theorem st_f30 : ((flatC (Jvm.Cond.and given_1 narrow_1)).drop 264).take (stC 30).length = stC 30 := by decide +kernel
theorem st_r30 : tables_1[690]? = some (.stringRef (stq 30).1 (stq 30).2.1 (stq 30).2.2) := by decide +kernel
theorem st_f31 : ((flatC (Jvm.Cond.and given_1 narrow_1)).drop 269).take (stC 31).length = stC 31 := by decide +kernel
theorem st_r31 : tables_1[691]? = some (.stringRef (stq 31).1 (stq 31).2.1 (stq 31).2.2) := by decide +kernel
theorem st_f32 : ((flatC (Jvm.Cond.and given_1 narrow_1)).drop 274).take (stC 32).length = stC 32 := by decide +kernel
theorem st_r32 : tables_1[692]? = some (.stringRef (stq 32).1 (stq 32).2.1 (stq 32).2.2) := by decide +kernel
theorem st_f33 : ((flatC (Jvm.Cond.and given_1 narrow_1)).drop 282).take (stC 33).length = stC 33 := by decide +kernel
theorem st_r33 : tables_1[1548]? = some (.stringRef (stq 33).1 (stq 33).2.1 (stq 33).2.2) := by decide +kernel
theorem st_f34 : ((flatC (Jvm.Cond.and given_1 narrow_1)).drop 385).take (stC 34).length = stC 34 := by decide +kernel
theorem st_r34 : tables_1[1554]? = some (.stringRef (stq 34).1 (stq 34).2.1 (stq 34).2.2) := by decide +kernel
theorem st_S {s : State} {args : Array Value} (hts : ∀ w ∈ lw_tbl, w.before args s = true) (hn : (Jvm.Cond.and given_1 narrow_1).before args s = true) : ∃ sa sv : Nat → Nat, ∀ (D : va_G) (ad : Nat → Nat) (cy : Nat → ClassId), KS (D, ad, cy, sa, sv, s.heap.size) s := by
  have h : ∀ i : Nat, ∃ q : Nat × Nat, i < NS → vk_R (stq i).1 (stq i).2.1 (stq i).2.2 q.1 s ∧ va_O "java/lang/String" q.1 (fun a => s.heap.size ≤ a) s s.heap ∧ va_OF "java/lang/String" "coder" "B" (.int 0) q.1 (fun a => s.heap.size ≤ a) s s.heap ∧ va_OF "java/lang/String" "value" "[B" (.ref q.2) q.1 (fun a => s.heap.size ≤ a) s s.heap ∧ va_T .byte q.2 (slen i) (fun j => .int (schr i j)) (fun a => s.heap.size ≤ a) s s.heap := by
    intro i
    match i with
    | 0 => obtain ⟨q, hq⟩ := st_S1 hts 0 48 464 hn st_f0 st_r0 (by decide); exact ⟨q, fun _ => hq⟩
    | 1 => obtain ⟨q, hq⟩ := st_S1 hts 1 64 547 hn st_f1 st_r1 (by decide); exact ⟨q, fun _ => hq⟩
    | 2 => obtain ⟨q, hq⟩ := st_S1 hts 2 72 586 hn st_f2 st_r2 (by decide); exact ⟨q, fun _ => hq⟩
    | 3 => obtain ⟨q, hq⟩ := st_S1 hts 3 83 595 hn st_f3 st_r3 (by decide); exact ⟨q, fun _ => hq⟩
    | 4 => obtain ⟨q, hq⟩ := st_S1 hts 4 88 604 hn st_f4 st_r4 (by decide); exact ⟨q, fun _ => hq⟩
    | 5 => obtain ⟨q, hq⟩ := st_S1 hts 5 97 609 hn st_f5 st_r5 (by decide); exact ⟨q, fun _ => hq⟩
    | 6 => obtain ⟨q, hq⟩ := st_S1 hts 6 105 614 hn st_f6 st_r6 (by decide); exact ⟨q, fun _ => hq⟩
    | 7 => obtain ⟨q, hq⟩ := st_S1 hts 7 114 615 hn st_f7 st_r7 (by decide); exact ⟨q, fun _ => hq⟩
    | 8 => obtain ⟨q, hq⟩ := st_S1 hts 8 122 620 hn st_f8 st_r8 (by decide); exact ⟨q, fun _ => hq⟩
    | 9 => obtain ⟨q, hq⟩ := st_S1 hts 9 131 621 hn st_f9 st_r9 (by decide); exact ⟨q, fun _ => hq⟩
    | 10 => obtain ⟨q, hq⟩ := st_S1 hts 10 140 622 hn st_f10 st_r10 (by decide); exact ⟨q, fun _ => hq⟩
    | 11 => obtain ⟨q, hq⟩ := st_S1 hts 11 148 627 hn st_f11 st_r11 (by decide); exact ⟨q, fun _ => hq⟩
    | 12 => obtain ⟨q, hq⟩ := st_S1 hts 12 153 644 hn st_f12 st_r12 (by decide); exact ⟨q, fun _ => hq⟩
    | 13 => obtain ⟨q, hq⟩ := st_S1 hts 13 158 649 hn st_f13 st_r13 (by decide); exact ⟨q, fun _ => hq⟩
    | 14 => obtain ⟨q, hq⟩ := st_S1 hts 14 163 650 hn st_f14 st_r14 (by decide); exact ⟨q, fun _ => hq⟩
    | 15 => obtain ⟨q, hq⟩ := st_S1 hts 15 169 667 hn st_f15 st_r15 (by decide); exact ⟨q, fun _ => hq⟩
    | 16 => obtain ⟨q, hq⟩ := st_S1 hts 16 176 668 hn st_f16 st_r16 (by decide); exact ⟨q, fun _ => hq⟩
    | 17 => obtain ⟨q, hq⟩ := st_S1 hts 17 181 669 hn st_f17 st_r17 (by decide); exact ⟨q, fun _ => hq⟩
    | 18 => obtain ⟨q, hq⟩ := st_S1 hts 18 186 674 hn st_f18 st_r18 (by decide); exact ⟨q, fun _ => hq⟩
    | 19 => obtain ⟨q, hq⟩ := st_S1 hts 19 191 675 hn st_f19 st_r19 (by decide); exact ⟨q, fun _ => hq⟩
    | 20 => obtain ⟨q, hq⟩ := st_S1 hts 20 196 676 hn st_f20 st_r20 (by decide); exact ⟨q, fun _ => hq⟩
    | 21 => obtain ⟨q, hq⟩ := st_S1 hts 21 201 677 hn st_f21 st_r21 (by decide); exact ⟨q, fun _ => hq⟩
    | 22 => obtain ⟨q, hq⟩ := st_S1 hts 22 208 678 hn st_f22 st_r22 (by decide); exact ⟨q, fun _ => hq⟩
    | 23 => obtain ⟨q, hq⟩ := st_S1 hts 23 214 679 hn st_f23 st_r23 (by decide); exact ⟨q, fun _ => hq⟩
    | 24 => obtain ⟨q, hq⟩ := st_S1 hts 24 222 680 hn st_f24 st_r24 (by decide); exact ⟨q, fun _ => hq⟩
    | 25 => obtain ⟨q, hq⟩ := st_S1 hts 25 230 681 hn st_f25 st_r25 (by decide); exact ⟨q, fun _ => hq⟩
    | 26 => obtain ⟨q, hq⟩ := st_S1 hts 26 237 686 hn st_f26 st_r26 (by decide); exact ⟨q, fun _ => hq⟩
    | 27 => obtain ⟨q, hq⟩ := st_S1 hts 27 245 687 hn st_f27 st_r27 (by decide); exact ⟨q, fun _ => hq⟩
    | 28 => obtain ⟨q, hq⟩ := st_S1 hts 28 253 688 hn st_f28 st_r28 (by decide); exact ⟨q, fun _ => hq⟩
    | 29 => obtain ⟨q, hq⟩ := st_S1 hts 29 259 689 hn st_f29 st_r29 (by decide); exact ⟨q, fun _ => hq⟩
    | 30 => obtain ⟨q, hq⟩ := st_S1 hts 30 264 690 hn st_f30 st_r30 (by decide); exact ⟨q, fun _ => hq⟩
    | 31 => obtain ⟨q, hq⟩ := st_S1 hts 31 269 691 hn st_f31 st_r31 (by decide); exact ⟨q, fun _ => hq⟩
    | 32 => obtain ⟨q, hq⟩ := st_S1 hts 32 274 692 hn st_f32 st_r32 (by decide); exact ⟨q, fun _ => hq⟩
    | 33 => obtain ⟨q, hq⟩ := st_S1 hts 33 282 1548 hn st_f33 st_r33 (by decide); exact ⟨q, fun _ => hq⟩
    | 34 => obtain ⟨q, hq⟩ := st_S1 hts 34 385 1554 hn st_f34 st_r34 (by decide); exact ⟨q, fun _ => hq⟩
    | n + 35 => exact ⟨(0, 0), fun h => absurd h (by show ¬ n + 35 < 35; omega)⟩
  obtain ⟨f, hf⟩ := Classical.axiomOfChoice h
  refine ⟨fun i => (f i).1, fun i => (f i).2, fun D ad cy => ⟨fun i hi => hf i hi, ?_, ?_⟩⟩
  · exact va_Zof (args := args) (hts _ (tb_in 478 (by decide +kernel))) (hts _ (tb_in 16 (by decide +kernel))) (va_eqt (flat_of_before _ hn _ (List.mem_of_getElem? (i := 4) (by decide +kernel)))) (fun a h => by show ¬ s.heap.size ≤ a; omega)
  · exact va_Zqof (args := args) (hts _ (tb_in 517 (by decide +kernel))) (hts _ (tb_in 19 (by decide +kernel))) (flat_of_before _ hn _ (List.mem_of_getElem? (i := 5) (by decide +kernel))) (fun a h => by show ¬ s.heap.size ≤ a; omega)
