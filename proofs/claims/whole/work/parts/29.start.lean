/-- new, dup, a constructor, in the law's own frame -/
theorem s_newc {p : Program} {l : Launch} {e : Env} {s : State} {m : MethodId} {below : List Frame} {meth : Method} {c : Code} {b L : Nat} {xs : Nat → Int32} {G : Gx} {H : Heap} {locs : List Loc} {ls : Array Slot} {ws : va_W} {k n pc : Nat} {lv : List (Nat × Value)} {rest : List Value} {Q : State → Prop} {index i2 ci mc ms d1 : Nat} {S : Type} {r : vw_C} {y : MethodName} {cc1 : ByteArray} {nL1 : Nat} {fs : List Value} {Wf : Nat → S → va_W}
    (A : lw_At p s m meth c b L xs) (K : KA G s) (hP : va_P G.1 vwCl ws H) (hD : va_D (fun q => s.heap.size ≤ q) ws) (hS : va_S (fun q => s.heap.size ≤ q) s.heap H locs) (hl : lv_has ls 4 lv)
    (hd : decode code pc = .ok (.new index, 3)) (hd1 : decode code (pc + 3) = .ok (.dup, 1)) (hd2 : decode code (pc + 3 + 1) = .ok (.invokespecial i2, 3)) (hr0 : vwCl[ci]? = some r) (hcl : Cond.classLink R_law index r.1 ∈ Wd) (hins : Cond.instantiable r.1 r.2.2 ∈ Wd) (hini : Cond.initialized r.1 ∈ Wd) (hfs : ∀ j, j < r.2.2 → defaultValue (uty ci j) = vp_V fs j) (hm : Mok y cc1 nL1 none 0) (hy : y.name = "<init>") (hi : Cond.instanceMethod y ∈ Wd) (hlk : Cond.methodLink R_law i2 y ∈ Wd) (hM : CtA y cc1 nL1 d1 mc ms G ci fs Wf) (hdep : d1 + 1 ≤ 1000) (hst : ((Value.null :: rest).map fun v => v.category).sum ≤ 8) (hc : k + 1 + mc ≤ 600000) (hs : n + r.2.2 + ms ≤ 7302250)
    (kk : ∀ (q : Nat) (u : S) (H2 : Heap) (locs2 : List Loc), va_P G.1 vwCl (ws ++ Wf q u) H2 → va_D (fun q => s.heap.size ≤ q) (ws ++ Wf q u) → va_S (fun q => s.heap.size ≤ q) s.heap H2 locs2 → W p l e room_1 s m #[Value.ref b] below meth c H2 locs2 (k + 1 + mc) (n + r.2.2 + ms) Q (F0 m (pc + 3 + 1 + 3) ls (.ref q :: rest))) :
    W p l e room_1 s m #[Value.ref b] below meth c H locs k n Q (F0 m pc ls rest) := by
  have C := l_fix A
  have hA : ∀ q, s.heap.size ≤ q → (fun q => s.heap.size ≤ q) q := fun q h => h
  refine va_new (ci := ci) (fs := fs) (C := r.1) (T := r.2.1) (N := r.2.2) C.1 C.2.1 C.2.2.2.2 (uw hr0) (uty ci) (utok hr0) C.2.2.2.1 (C.2.2.2.2 _ hcl) (C.2.2.2.2 _ hins) (C.2.2.2.2 _ hini) K.1 hP hD hS hA hr0 hfs (by show k + 1 ≤ 600000; omega) (by show n + r.2.2 ≤ 7302250; omega) hd (fun q H1 hP1 hD1 hS1 => ?_)
  refine lv_dup C.1 C.2.1 hd1 rfl ?_
  have hF : ∀ z, va_A [(q, .inr (ci, fs))] H1.size z → s.heap.size ≤ z := by
    intro z hz
    rcases hz with ⟨j, e1, hz⟩ | hz
    · have h1 : (z, e1) ∈ [((q, .inr (ci, fs)) : Nat × va_E)] := List.mem_of_getElem? hz
      rw [List.mem_singleton] at h1
      have h2 := (vd_iff.mp hD1).2 (q, .inr (ci, fs)) (List.mem_append_right _ (List.mem_singleton.mpr rfl))
      have h3 : z = q := (Prod.mk.inj h1).1
      rw [h3]; exact h2
    · exact Nat.le_trans hS1.1 hz
  have hbl : FrameBlind (va_Pc [Value.ref q] (fun U => U.heap.size = H1.size ∧ va_P G.1 vwCl [(q, .inr (ci, fs))] U.heap ∧ KA G U)) := fun _ _ _ _ z => ⟨z.1, z.2.1, z.2.2.1, KA.same rfl z.2.2.2⟩
  have hPq : va_P G.1 vwCl [((q, .inr (ci, fs)) : Nat × va_E)] H1 := vp_mem.mpr (fun x hx => by rw [List.mem_singleton] at hx; rw [hx]; exact vp_mem.mp hP1 _ (List.mem_append_right _ (List.mem_singleton.mpr rfl)))
  have hpre : PreS s H1 (va_Pc [Value.ref q] (fun U => U.heap.size = H1.size ∧ va_P G.1 vwCl [(q, .inr (ci, fs))] U.heap ∧ KA G U)) (.ref q :: []) := ⟨hbl, fun U hU hW => ⟨rfl, by rw [hU], by rw [hU]; exact hPq, KA.moved hW K⟩⟩
  have hgood : GoodIn Wd (wsD y cc1 nL1 none) := wsD_good hm
  have hroom : (rmA d1 mc ms).frames + 1 ≤ room_1.frames ∧ 8 + (nL1 + 11) + (rmA d1 mc ms).locals ≤ room_1.locals := ⟨by show d1 + 1 ≤ 2048; omega, by show 8 + (nL1 + 11) + 64 * d1 ≤ 84000; have := hm.2.2.2; omega⟩
  have hfit : k + 1 + mc ≤ room_1.cells ∧ n + r.2.2 + ms ≤ room_1.slots := ⟨hc, hs⟩
  have hrun : va_Run p l e room_1 s m #[Value.ref b] below meth c H1 locs (k + 1) (n + r.2.2) mc ms (F0 m (pc + 3 + 1) ls (.ref q :: .ref q :: rest)) (.ref q :: rest) (va_Qv (fun _ : S => True) (fun u t => va_P G.1 vwCl (Wf q u) t.heap ∧ va_D (va_A [(q, .inr (ci, fs))] H1.size) (Wf q u)) (va_A [(q, .inr (ci, fs))] H1.size) #[Value.ref q]) (va_A [(q, .inr (ci, fs))] H1.size) :=
    va_runI (As := []) (rest := .ref q :: rest) C (hM l q H1.size) ⟨callB_of 0 C.2.2.2.2 hgood rfl rfl rfl (C.2.2.2.2 _ hm.1) (C.2.2.2.2 _ hlk) hm.2.2.1 hroom, hy, C.2.2.2.2 _ hi⟩ hpre rfl rfl hl.1 rfl (lv_room hst) hd2 hfit
  refine va_callv hrun hS1 (fun z _ h => hF z h) hF (fun u t H2 locs2 ht hvm hq hB hz hk1 hS2 => ?_)
  rw [ht] at hB
  obtain ⟨g1, g2⟩ := vd_call hP1 hD1 (fun z hz => Nat.le_trans hS1.1 hz) hk1 hB.1 hB.2
  exact kk q u H2 locs2 g1 g2 hS2
theorem mi_11 : Mok yX11_init cX11_init 2 none 0 := ⟨mW 1 (by decide +kernel) rfl, mW 27 (by decide +kernel) rfl, ⟨by decide, by decide, by decide +kernel⟩, by decide⟩
theorem ii_11 : Cond.instanceMethod yX11_init ∈ Wd := mW 26 (by decide +kernel) rfl
theorem cl_L_7 : Cond.classLink R_law 7 RX11 ∈ Wd := mW 23 (by decide +kernel) rfl
theorem ml_L_i11 : Cond.methodLink R_law 9 yX11_init ∈ Wd := mW 25 (by decide +kernel) rfl
theorem mi_12 : Mok yX12_init cX12_init 1 none 0 := ⟨mW 14 (by decide +kernel) rfl, mW 1377 (by decide +kernel) rfl, ⟨by decide, by decide, by decide +kernel⟩, by decide⟩
theorem ii_12 : Cond.instanceMethod yX12_init ∈ Wd := mW 1376 (by decide +kernel) rfl
theorem cl_L_10 : Cond.classLink R_law 10 RX12 ∈ Wd := mW 1373 (by decide +kernel) rfl
theorem ml_L_i12 : Cond.methodLink R_law 12 yX12_init ∈ Wd := mW 1375 (by decide +kernel) rfl
theorem dS_law_0 : decode code 0 = .ok (.new 7, 3) := by decide +kernel
theorem dS_law_3 : decode code 3 = .ok (.dup, 1) := by decide +kernel
theorem dS_law_4 : decode code 4 = .ok (.invokespecial 9, 3) := by decide +kernel
theorem dS_law_7 : decode code 7 = .ok (.astore_n 1, 1) := by decide +kernel
theorem dS_law_8 : decode code 8 = .ok (.new 10, 3) := by decide +kernel
theorem dS_law_11 : decode code 11 = .ok (.dup, 1) := by decide +kernel
theorem dS_law_12 : decode code 12 = .ok (.invokespecial 12, 3) := by decide +kernel
theorem dS_law_15 : decode code 15 = .ok (.astore_n 2, 1) := by decide +kernel
theorem dS_law_16 : decode code 16 = .ok (.iconst 0, 1) := by decide +kernel
theorem dS_law_17 : decode code 17 = .ok (.istore_n 3, 1) := by decide +kernel
set_option maxHeartbeats 4000000 in
theorem whole_start_of (hLaw : ∀ (L : Nat) (xs : Nat → Int32), L ≤ 3072 → ∃ n, Law_L18 L xs n 0 h0) {p : Program} {e : Env} {s : State} {m : MethodId} {below : List Frame} {meth : Method} {c : Code} (l : Launch) {b L : Nat} {xs : Nat → Int32} (hL : L ≤ 3072) (C0 : lw_At p s m meth c b L xs) : W p l e room_1 s m #[Value.ref b] below meth c s.heap [] 0 0 (lw_Z below #[Value.ref b] s) (entryFrame m ([Value.ref b] : List Value).toArray 4) := by
  obtain ⟨D, cy, hK⟩ := st_K C0.2.2.2.2.2.1
  obtain ⟨hN, hA2, hA6, hA10, hNw⟩ := st_N C0.2.2.2.2.2.1
  obtain ⟨sa, sv, hS⟩ := st_S C0.2.2.2.2.2.1 C0.2.2.2.2.2.2.2.2.2
  obtain ⟨n0, hw⟩ := hLaw L xs hL
  have K : ∀ ad : Nat → Nat, KA (D, ad, cy, sa, sv, s.heap.size) s := fun ad => ⟨hK ad sa sv s.heap.size, hN, hA2, hA6, hA10⟩
  have hl := lv_entry [Value.ref b] (n := 4) (Nat.le_of_ble_eq_true rfl)
  rw [lg_entry_eq]
  have hP0 : va_P D vwCl ([] : va_W) s.heap := vp_mem.mpr (fun x hx => absurd hx List.not_mem_nil)
  have hD0 : va_D (fun q => s.heap.size ≤ q) ([] : va_W) := vd_iff.mpr ⟨List.Pairwise.nil, fun x hx => absurd hx List.not_mem_nil⟩
  refine s_newc (G := (D, (fun _ => 0), cy, sa, sv, s.heap.size)) (ci := 11) (fs := [.null, .int 0, .null, .null, .null, .null, .null, .null, .null, .null, .null, .null, .null, .null, .null, .int 0]) (r := (RX11, TX11, 16)) C0 (K _) hP0 hD0 va_S.rf hl dS_law_0 dS_law_3 dS_law_4 rfl cl_L_7 ib_11 in_11 (by intro j hj; have hj : j < 16 := hj; match j, hj with | 0, _ => rfl | 1, _ => rfl | 2, _ => rfl | 3, _ => rfl | 4, _ => rfl | 5, _ => rfl | 6, _ => rfl | 7, _ => rfl | 8, _ => rfl | 9, _ => rfl | 10, _ => rfl | 11, _ => rfl | 12, _ => rfl | 13, _ => rfl | 14, _ => rfl | 15, _ => rfl | j + 16, hj => exact absurd hj (by omega)) mi_11 rfl ii_11 ml_L_i11 (c_ini_11 _) (by decide) (by decide) (by decide) (by decide) (fun q u H1 locs1 hP1 hD1 hS1 => ?_)
  refine lv_astore_n C0.1 C0.2.1 dS_law_7 rfl hl (by decide) rfl (fun ls1 hl1 => ?_)
  have hl1 : lv_has ls1 4 [(0, .ref b), (1, .ref q)] := lv1s_has hl1 rfl
  refine s_newc (G := (D, (fun _ => 0), cy, sa, sv, s.heap.size)) (ci := 12) (fs := [.int 0, .null, .null, .null, .null, .int 0, .int 0, .int 0, .int 0, .int 0, .int 0, .int 0, .int 0, .int 0, .int 0, .null, .null, .null, .null, .null, .null, .null, .int 0, .int 0, .null, .null, .null, .null, .int 0, .null, .null, .null, .null, .null, .null, .null, .int 0, .int 0, .null, .null, .null, .long 0, .long 0, .null, .null, .null]) (r := (RX12, TX12, 46)) C0 (K _) hP1 hD1 hS1 hl1 dS_law_8 dS_law_11 dS_law_12 rfl cl_L_10 ib_12 in_12 (by intro j hj; have hj : j < 46 := hj; match j, hj with | 0, _ => rfl | 1, _ => rfl | 2, _ => rfl | 3, _ => rfl | 4, _ => rfl | 5, _ => rfl | 6, _ => rfl | 7, _ => rfl | 8, _ => rfl | 9, _ => rfl | 10, _ => rfl | 11, _ => rfl | 12, _ => rfl | 13, _ => rfl | 14, _ => rfl | 15, _ => rfl | 16, _ => rfl | 17, _ => rfl | 18, _ => rfl | 19, _ => rfl | 20, _ => rfl | 21, _ => rfl | 22, _ => rfl | 23, _ => rfl | 24, _ => rfl | 25, _ => rfl | 26, _ => rfl | 27, _ => rfl | 28, _ => rfl | 29, _ => rfl | 30, _ => rfl | 31, _ => rfl | 32, _ => rfl | 33, _ => rfl | 34, _ => rfl | 35, _ => rfl | 36, _ => rfl | 37, _ => rfl | 38, _ => rfl | 39, _ => rfl | 40, _ => rfl | 41, _ => rfl | 42, _ => rfl | 43, _ => rfl | 44, _ => rfl | 45, _ => rfl | j + 46, hj => exact absurd hj (by omega)) mi_12 rfl ii_12 ml_L_i12 (c_ini_12 _) (by decide) (by decide) (by decide) (by decide) (fun p1 v H2 locs2 hP2 hD2 hS2 => ?_)
  refine lv_astore_n C0.1 C0.2.1 dS_law_15 rfl hl1 (by decide) rfl (fun ls2 hl2 => ?_)
  have hl2 : lv_has ls2 4 [(0, .ref b), (1, .ref q), (2, .ref p1)] := lv1s_has hl2 rfl
  refine lv_iconst (v := 0) C0.1 C0.2.1 dS_law_16 (by decide) ?_
  refine lv_istore_n C0.1 C0.2.1 dS_law_17 rfl hl2 (by decide) rfl (fun ls3 hl3 => ?_)
  have hl3 : lv_has ls3 4 [(0, .ref b), (1, .ref q), (2, .ref p1), (3, .int 0)] := lv1s_has hl3 rfl
  have hG : GOK (gS D cy sa sv s.heap.size q u p1 v) := st_G (sa := sa) (sv := sv) hD2
  have hW : va_P D vwCl (wl (gS D cy sa sv s.heap.size q u p1 v) h0) H2 := st_W (sa := sa) (sv := sv) (sz := s.heap.size) hP2
  exact gl_Law_L18 (G := gS D cy sa sv s.heap.size q u p1 v) n0 0 h0 hw p l e s m below meth c H2 locs2 ls3 C0 ⟨hK _ sa sv s.heap.size, hG, hNw, hS D _ cy⟩ ⟨hW, hS2⟩ rfl (by decide) (by decide) hl3
