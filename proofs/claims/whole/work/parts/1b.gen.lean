theorem dX5_settleRoad_0 : decode cX5_settleRoad 0 = .ok (.aload_n 0, 1) := by decide +kernel
theorem dX5_settleRoad_1 : decode cX5_settleRoad 1 = .ok (.getfield 54, 3) := by decide +kernel
theorem dX5_settleRoad_4 : decode cX5_settleRoad 4 = .ok (.iconst 0, 1) := by decide +kernel
theorem dX5_settleRoad_5 : decode cX5_settleRoad 5 = .ok (.aload_n 0, 1) := by decide +kernel
theorem dX5_settleRoad_6 : decode cX5_settleRoad 6 = .ok (.getfield 51, 3) := by decide +kernel
theorem dX5_settleRoad_9 : decode cX5_settleRoad 9 = .ok (.iload_n 3, 1) := by decide +kernel
theorem dX5_settleRoad_10 : decode cX5_settleRoad 10 = .ok (.iaload, 1) := by decide +kernel
theorem dX5_settleRoad_11 : decode cX5_settleRoad 11 = .ok (.iastore, 1) := by decide +kernel
theorem dX5_settleRoad_12 : decode cX5_settleRoad 12 = .ok (.aload_n 0, 1) := by decide +kernel
theorem dX5_settleRoad_13 : decode cX5_settleRoad 13 = .ok (.getfield 54, 3) := by decide +kernel
theorem dX5_settleRoad_16 : decode cX5_settleRoad 16 = .ok (.iconst 1, 1) := by decide +kernel
theorem dX5_settleRoad_17 : decode cX5_settleRoad 17 = .ok (.aload_n 0, 1) := by decide +kernel
theorem dX5_settleRoad_18 : decode cX5_settleRoad 18 = .ok (.getfield 44, 3) := by decide +kernel
theorem dX5_settleRoad_21 : decode cX5_settleRoad 21 = .ok (.iload_n 3, 1) := by decide +kernel
theorem dX5_settleRoad_22 : decode cX5_settleRoad 22 = .ok (.iaload, 1) := by decide +kernel
theorem dX5_settleRoad_23 : decode cX5_settleRoad 23 = .ok (.iastore, 1) := by decide +kernel
theorem dX5_settleRoad_24 : decode cX5_settleRoad 24 = .ok (.aload_n 0, 1) := by decide +kernel
theorem dX5_settleRoad_25 : decode cX5_settleRoad 25 = .ok (.getfield 54, 3) := by decide +kernel
theorem dX5_settleRoad_28 : decode cX5_settleRoad 28 = .ok (.iconst 2, 1) := by decide +kernel
theorem dX5_settleRoad_29 : decode cX5_settleRoad 29 = .ok (.aload_n 0, 1) := by decide +kernel
theorem dX5_settleRoad_30 : decode cX5_settleRoad 30 = .ok (.getfield 48, 3) := by decide +kernel
theorem dX5_settleRoad_33 : decode cX5_settleRoad 33 = .ok (.iload_n 3, 1) := by decide +kernel
theorem dX5_settleRoad_34 : decode cX5_settleRoad 34 = .ok (.iaload, 1) := by decide +kernel
theorem dX5_settleRoad_35 : decode cX5_settleRoad 35 = .ok (.iastore, 1) := by decide +kernel
theorem dX5_settleRoad_36 : decode cX5_settleRoad 36 = .ok (.aload_n 0, 1) := by decide +kernel
theorem dX5_settleRoad_37 : decode cX5_settleRoad 37 = .ok (.getfield 54, 3) := by decide +kernel
theorem dX5_settleRoad_40 : decode cX5_settleRoad 40 = .ok (.iconst 3, 1) := by decide +kernel
theorem dX5_settleRoad_41 : decode cX5_settleRoad 41 = .ok (.iload_n 3, 1) := by decide +kernel
theorem dX5_settleRoad_42 : decode cX5_settleRoad 42 = .ok (.iastore, 1) := by decide +kernel
theorem dX5_settleRoad_43 : decode cX5_settleRoad 43 = .ok (.aload_n 0, 1) := by decide +kernel
theorem dX5_settleRoad_44 : decode cX5_settleRoad 44 = .ok (.getfield 54, 3) := by decide +kernel
theorem dX5_settleRoad_47 : decode cX5_settleRoad 47 = .ok (.iconst 4, 1) := by decide +kernel
theorem dX5_settleRoad_48 : decode cX5_settleRoad 48 = .ok (.iload_n 2, 1) := by decide +kernel
theorem dX5_settleRoad_49 : decode cX5_settleRoad 49 = .ok (.iastore, 1) := by decide +kernel
theorem dX5_settleRoad_50 : decode cX5_settleRoad 50 = .ok (.aload_n 0, 1) := by decide +kernel
theorem dX5_settleRoad_51 : decode cX5_settleRoad 51 = .ok (.getfield 21, 3) := by decide +kernel
theorem dX5_settleRoad_54 : decode cX5_settleRoad 54 = .ok (.getfield 66, 3) := by decide +kernel
theorem dX5_settleRoad_57 : decode cX5_settleRoad 57 = .ok (.ifCond .ne 12, 3) := by decide +kernel
theorem dX5_settleRoad_60 : decode cX5_settleRoad 60 = .ok (.aload_n 0, 1) := by decide +kernel
theorem dX5_settleRoad_61 : decode cX5_settleRoad 61 = .ok (.getfield 51, 3) := by decide +kernel
theorem dX5_settleRoad_64 : decode cX5_settleRoad 64 = .ok (.iload_n 3, 1) := by decide +kernel
theorem dX5_settleRoad_65 : decode cX5_settleRoad 65 = .ok (.iaload, 1) := by decide +kernel
theorem dX5_settleRoad_66 : decode cX5_settleRoad 66 = .ok (.goto 14, 3) := by decide +kernel
theorem dX5_settleRoad_69 : decode cX5_settleRoad 69 = .ok (.aload_n 0, 1) := by decide +kernel
theorem dX5_settleRoad_70 : decode cX5_settleRoad 70 = .ok (.getfield 21, 3) := by decide +kernel
theorem dX5_settleRoad_73 : decode cX5_settleRoad 73 = .ok (.aload_n 0, 1) := by decide +kernel
theorem dX5_settleRoad_74 : decode cX5_settleRoad 74 = .ok (.getfield 54, 3) := by decide +kernel
theorem dX5_settleRoad_77 : decode cX5_settleRoad 77 = .ok (.invokevirtual 243, 3) := by decide +kernel
theorem dX5_settleRoad_80 : decode cX5_settleRoad 80 = .ok (.istore 4, 2) := by decide +kernel
theorem dX5_settleRoad_82 : decode cX5_settleRoad 82 = .ok (.aload_n 1, 1) := by decide +kernel
theorem dX5_settleRoad_83 : decode cX5_settleRoad 83 = .ok (.getfield 247, 3) := by decide +kernel
theorem dX5_settleRoad_86 : decode cX5_settleRoad 86 = .ok (.iload_n 2, 1) := by decide +kernel
theorem dX5_settleRoad_87 : decode cX5_settleRoad 87 = .ok (.bipush 16, 2) := by decide +kernel
theorem dX5_settleRoad_89 : decode cX5_settleRoad 89 = .ok (.imul, 1) := by decide +kernel
theorem dX5_settleRoad_90 : decode cX5_settleRoad 90 = .ok (.iload_n 3, 1) := by decide +kernel
theorem dX5_settleRoad_91 : decode cX5_settleRoad 91 = .ok (.iadd, 1) := by decide +kernel
theorem dX5_settleRoad_92 : decode cX5_settleRoad 92 = .ok (.bipush (-99), 2) := by decide +kernel
theorem dX5_settleRoad_94 : decode cX5_settleRoad 94 = .ok (.bipush 99, 2) := by decide +kernel
theorem dX5_settleRoad_96 : decode cX5_settleRoad 96 = .ok (.iload 4, 2) := by decide +kernel
theorem dX5_settleRoad_98 : decode cX5_settleRoad 98 = .ok (.invokestatic 249, 3) := by decide +kernel
theorem dX5_settleRoad_101 : decode cX5_settleRoad 101 = .ok (.invokestatic 255, 3) := by decide +kernel
theorem dX5_settleRoad_104 : decode cX5_settleRoad 104 = .ok (.iastore, 1) := by decide +kernel
theorem dX5_settleRoad_105 : decode cX5_settleRoad 105 = .ok (.aload_n 0, 1) := by decide +kernel
theorem dX5_settleRoad_106 : decode cX5_settleRoad 106 = .ok (.getfield 25, 3) := by decide +kernel
theorem dX5_settleRoad_109 : decode cX5_settleRoad 109 = .ok (.getfield 66, 3) := by decide +kernel
theorem dX5_settleRoad_112 : decode cX5_settleRoad 112 = .ok (.ifCond .eq 18, 3) := by decide +kernel
theorem dX5_settleRoad_115 : decode cX5_settleRoad 115 = .ok (.aload_n 0, 1) := by decide +kernel
theorem dX5_settleRoad_116 : decode cX5_settleRoad 116 = .ok (.getfield 25, 3) := by decide +kernel
theorem dX5_settleRoad_119 : decode cX5_settleRoad 119 = .ok (.aload_n 0, 1) := by decide +kernel
theorem dX5_settleRoad_120 : decode cX5_settleRoad 120 = .ok (.getfield 54, 3) := by decide +kernel
theorem dX5_settleRoad_123 : decode cX5_settleRoad 123 = .ok (.invokevirtual 243, 3) := by decide +kernel
theorem dX5_settleRoad_126 : decode cX5_settleRoad 126 = .ok (.iconst 1, 1) := by decide +kernel
theorem dX5_settleRoad_127 : decode cX5_settleRoad 127 = .ok (.if_icmp .ne 15, 3) := by decide +kernel
theorem dX5_settleRoad_130 : decode cX5_settleRoad 130 = .ok (.aload_n 1, 1) := by decide +kernel
theorem dX5_settleRoad_131 : decode cX5_settleRoad 131 = .ok (.getfield 232, 3) := by decide +kernel
theorem dX5_settleRoad_134 : decode cX5_settleRoad 134 = .ok (.iload_n 2, 1) := by decide +kernel
theorem dX5_settleRoad_135 : decode cX5_settleRoad 135 = .ok (.dup2, 1) := by decide +kernel
theorem dX5_settleRoad_136 : decode cX5_settleRoad 136 = .ok (.iaload, 1) := by decide +kernel
theorem dX5_settleRoad_137 : decode cX5_settleRoad 137 = .ok (.iconst 1, 1) := by decide +kernel
theorem dX5_settleRoad_138 : decode cX5_settleRoad 138 = .ok (.iload_n 3, 1) := by decide +kernel
theorem dX5_settleRoad_139 : decode cX5_settleRoad 139 = .ok (.ishl, 1) := by decide +kernel
theorem dX5_settleRoad_140 : decode cX5_settleRoad 140 = .ok (.ior, 1) := by decide +kernel
theorem dX5_settleRoad_141 : decode cX5_settleRoad 141 = .ok (.iastore, 1) := by decide +kernel
theorem dX5_settleRoad_142 : decode cX5_settleRoad 142 = .ok (.return_, 1) := by decide +kernel
theorem fl_X5_54 : FLk RX5 54 5 11 := ⟨_, rfl, by decide, mW 97 (by decide +kernel) rfl⟩
theorem fl_X5_247 : FLk RX5 247 2 8 := ⟨_, rfl, by decide, mW 168 (by decide +kernel) rfl⟩
theorem ml_X5_249 : Cond.methodLink RX5 249 yJ9_min_7cf53 ∈ Wd := mW 736 (by decide +kernel) rfl
theorem ml_X5_255 : Cond.methodLink RX5 255 yJ9_max_7cf53 ∈ Wd := mW 737 (by decide +kernel) rfl
theorem fl_X5_232 : FLk RX5 232 2 7 := ⟨_, rfl, by decide, mW 166 (by decide +kernel) rfl⟩
theorem ml_X5_243 : Cond.methodLink RX5 243 yX3_tell ∈ Wd := mW 706 (by decide +kernel) rfl
theorem mk_X3_tell : MokV yX3_tell cX3_tell 5 (some .int) 1 := ⟨⟨mW 4 (by decide +kernel) rfl, mW 709 (by decide +kernel) rfl, ⟨by decide, by decide, by decide +kernel⟩, by decide⟩, mW 707 (by decide +kernel) rfl, mW 708 (by decide +kernel) rfl⟩
def Reader_settleRoad (x2 : Int32) (x3 : Int32) (h : Hp) (Q : Hp → Prop) : Prop := vp_in x3 16 ∧ ∀ h1 : Hp, h1 = sI h 13 0 (gI h 12 (x3).toNatClampNeg) → vp_in x3 16 ∧ ∀ h2 : Hp, h2 = sI h1 13 1 (gI h1 10 (x3).toNatClampNeg) → vp_in x3 16 ∧ ∀ h3 : Hp, h3 = sI h2 13 2 (gI h2 11 (x3).toNatClampNeg) → ∀ h4 : Hp, h4 = sI h3 13 3 x3 → ∀ h5 : Hp, h5 = sI h4 13 4 x2 → ∀ J80 : Int32 → Hp → Prop, J80 = (fun s6 h7 => J9_min_7cf53 99 s6 h7 (fun r8 h9 => J9_max_7cf53 (-99) r8 h9 (fun r10 h11 => vp_in ((x2 * 16) + x3) 160 ∧ ∀ h12 : Hp, h12 = sI h11 19 (((x2 * 16) + x3)).toNatClampNeg r10 → ∀ J130 : Hp → Prop, J130 = (fun h13 => vp_in x2 10 ∧ vp_in x2 10 ∧ ∀ h14 : Hp, h14 = sI h13 18 (x2).toNatClampNeg ((gI h13 18 (x2).toNatClampNeg) ||| ((1 : Int32) <<< (x3 &&& 31))) → Q h14) → ((gI h12 7 3) = 0 → J130 h12) ∧ (¬ (gI h12 7 3) = 0 → Law_tell 7 h12 (fun r15 h16 => (¬ r15 = 1 → Q h16) ∧ (r15 = 1 → J130 h16)))))) → (¬ (gI h5 4 3) = 0 → Law_tell 4 h5 (fun r17 h18 => J80 r17 h18)) ∧ ((gI h5 4 3) = 0 → vp_in x3 16 ∧ J80 (gI h5 12 (x3).toNatClampNeg) h5)
set_option maxHeartbeats 4000000 in
set_option maxRecDepth 20000 in
theorem c_Reader_settleRoad {G : Gx}  {x2 : Int32} {x3 : Int32} {h : Hp} {Q : Hp → Prop} (hw : Reader_settleRoad x2 x3 h Q) : Ct yX5_settleRoad cX5_settleRoad 5 none 5 G [.ref (gAd G 2), .ref (gAd G 14), .int x2, .int x3] h (QV G Q) := by
  refine ct_go [(0, .ref (gAd G 2)), (1, .ref (gAd G 14)), (2, .int x2), (3, .int x3)] (plainFor_of_name (by decide)) rfl (Nat.le_of_ble_eq_true rfl) rfl ?_
  refine g_aload_n dX5_settleRoad_0 rfl rfl ?_
  refine g_getA dX5_settleRoad_1 fl_X5_54 sh2 rfl ?_
  refine g_iconst (v := 0) dX5_settleRoad_4 (by decide) ?_
  refine g_aload_n dX5_settleRoad_5 rfl rfl ?_
  refine g_getA dX5_settleRoad_6 fl_X5_51 sh2 rfl ?_
  refine g_iload_n dX5_settleRoad_9 rfl rfl ?_
  refine g_iald dX5_settleRoad_10 ia12 al12 hw.1 ?_
  have hw := hw.2
  refine g_iastK dX5_settleRoad_11 ia13 al13 (by unfold vp_in; decide) (k := 0) (by decide) ?_
  refine g_heap (fun h1 eh1 => ?_)
  have hw := hw h1 eh1
  refine g_aload_n dX5_settleRoad_12 rfl rfl ?_
  refine g_getA dX5_settleRoad_13 fl_X5_54 sh2 rfl ?_
  refine g_iconst (v := 1) dX5_settleRoad_16 (by decide) ?_
  refine g_aload_n dX5_settleRoad_17 rfl rfl ?_
  refine g_getA dX5_settleRoad_18 fl_X5_44 sh2 rfl ?_
  refine g_iload_n dX5_settleRoad_21 rfl rfl ?_
  refine g_iald dX5_settleRoad_22 ia10 al10 hw.1 ?_
  have hw := hw.2
  refine g_iastK dX5_settleRoad_23 ia13 al13 (by unfold vp_in; decide) (k := 1) (by decide) ?_
  refine g_heap (fun h2 eh2 => ?_)
  have hw := hw h2 eh2
  refine g_aload_n dX5_settleRoad_24 rfl rfl ?_
  refine g_getA dX5_settleRoad_25 fl_X5_54 sh2 rfl ?_
  refine g_iconst (v := 2) dX5_settleRoad_28 (by decide) ?_
  refine g_aload_n dX5_settleRoad_29 rfl rfl ?_
  refine g_getA dX5_settleRoad_30 fl_X5_48 sh2 rfl ?_
  refine g_iload_n dX5_settleRoad_33 rfl rfl ?_
  refine g_iald dX5_settleRoad_34 ia11 al11 hw.1 ?_
  have hw := hw.2
  refine g_iastK dX5_settleRoad_35 ia13 al13 (by unfold vp_in; decide) (k := 2) (by decide) ?_
  refine g_heap (fun h3 eh3 => ?_)
  have hw := hw h3 eh3
  refine g_aload_n dX5_settleRoad_36 rfl rfl ?_
  refine g_getA dX5_settleRoad_37 fl_X5_54 sh2 rfl ?_
  refine g_iconst (v := 3) dX5_settleRoad_40 (by decide) ?_
  refine g_iload_n dX5_settleRoad_41 rfl rfl ?_
  refine g_iastK dX5_settleRoad_42 ia13 al13 (by unfold vp_in; decide) (k := 3) (by decide) ?_
  refine g_heap (fun h4 eh4 => ?_)
  have hw := hw h4 eh4
  refine g_aload_n dX5_settleRoad_43 rfl rfl ?_
  refine g_getA dX5_settleRoad_44 fl_X5_54 sh2 rfl ?_
  refine g_iconst (v := 4) dX5_settleRoad_47 (by decide) ?_
  refine g_iload_n dX5_settleRoad_48 rfl rfl ?_
  refine g_iastK dX5_settleRoad_49 ia13 al13 (by unfold vp_in; decide) (k := 4) (by decide) ?_
  refine g_heap (fun h5 eh5 => ?_)
  have hw := hw h5 eh5
  refine g_aload_n dX5_settleRoad_50 rfl rfl ?_
  refine g_getO dX5_settleRoad_51 fl_X5_21 sh2 rfl ?_
  refine g_getI dX5_settleRoad_54 fl_X5_66 sh4 rfl ?_
  refine jn_el hw (fun J80 eJ80 hw => ?_)
  have hJ80 : ∀ (s6 : Int32) (h7 : Hp), J80 s6 h7 → Go cX5_settleRoad 5 RX5 none 5 G (QV G Q) 80 [(0, .ref (gAd G 2)), (1, .ref (gAd G 14)), (2, .int x2), (3, .int x3)] [.int s6] h7 := by
    intro s6 h7 hw
    subst eJ80
    refine g_istore dX5_settleRoad_80 (by decide) (lv1 := [(0, .ref (gAd G 2)), (1, .ref (gAd G 14)), (2, .int x2), (3, .int x3), (4, .int s6)]) rfl ?_
    refine g_aload_n dX5_settleRoad_82 rfl rfl ?_
    refine g_getA dX5_settleRoad_83 fl_X5_247 sh14 rfl ?_
    refine g_iload_n dX5_settleRoad_86 rfl rfl ?_
    refine g_bipush (v := 16) dX5_settleRoad_87 (by decide) ?_
    refine g_imul dX5_settleRoad_89 ?_
    refine g_iload_n dX5_settleRoad_90 rfl rfl ?_
    refine g_iadd dX5_settleRoad_91 ?_
    refine g_bipush (v := (-99)) dX5_settleRoad_92 (by decide) ?_
    refine g_bipush (v := 99) dX5_settleRoad_94 (by decide) ?_
    refine g_iload dX5_settleRoad_96 rfl ?_
    refine g_callSI [.int 99, .int s6] dX5_settleRoad_98 ml_X5_249 mk_J9_min_7cf53 rfl (Nat.le_of_ble_eq_true rfl) (Nat.le_of_ble_eq_true rfl) rfl (c_J9_min_7cf53 hw) (fun r8 h9 hw => ?_)
    refine g_callSI [.int (-99), .int r8] dX5_settleRoad_101 ml_X5_255 mk_J9_max_7cf53 rfl (Nat.le_of_ble_eq_true rfl) (Nat.le_of_ble_eq_true rfl) rfl (c_J9_max_7cf53 hw) (fun r10 h11 hw => ?_)
    refine g_iast dX5_settleRoad_104 ia19 al19 hw.1 ?_
    have hw := hw.2
    refine g_heap (fun h12 eh12 => ?_)
    have hw := hw h12 eh12
    refine g_aload_n dX5_settleRoad_105 rfl rfl ?_
    refine g_getO dX5_settleRoad_106 fl_X5_25 sh2 rfl ?_
    refine g_getI dX5_settleRoad_109 fl_X5_66 sh7 rfl ?_
    refine jn_el hw (fun J130 eJ130 hw => ?_)
    have hJ130 : ∀ (h13 : Hp), J130 h13 → Go cX5_settleRoad 5 RX5 none 5 G (QV G Q) 130 [(1, .ref (gAd G 14)), (2, .int x2), (3, .int x3)] [] h13 := by
      intro h13 hw
      subst eJ130
      refine g_aload_n dX5_settleRoad_130 rfl rfl ?_
      refine g_getA dX5_settleRoad_131 fl_X5_232 sh14 rfl ?_
      refine g_iload_n dX5_settleRoad_134 rfl rfl ?_
      refine g_dup2_11 dX5_settleRoad_135 rfl rfl ?_
      refine g_iald dX5_settleRoad_136 ia18 al18 hw.1 ?_
      have hw := hw.2
      refine g_iconst (v := 1) dX5_settleRoad_137 (by decide) ?_
      refine g_iload_n dX5_settleRoad_138 rfl rfl ?_
      refine g_ishl dX5_settleRoad_139 ?_
      refine g_ior dX5_settleRoad_140 ?_
      refine g_iast dX5_settleRoad_141 ia18 al18 hw.1 ?_
      have hw := hw.2
      refine g_heap (fun h14 eh14 => ?_)
      have hw := hw h14 eh14
      exact g_vret dX5_settleRoad_142 hw
    refine g_if_eq 130 dX5_settleRoad_112 rfl (fun hc => ?_) (fun hc => ?_)
    · have hw := hw.1 hc
      refine g_lv [1, 2, 3] rfl ?_
      exact hJ130 _ hw
    · have hw := hw.2 hc
      refine g_aload_n dX5_settleRoad_115 rfl rfl ?_
      refine g_getO dX5_settleRoad_116 fl_X5_25 sh2 rfl ?_
      refine g_aload_n dX5_settleRoad_119 rfl rfl ?_
      refine g_getA dX5_settleRoad_120 fl_X5_54 sh2 rfl ?_
      refine g_callVI [.ref (gAd G 13)] (ci := 3) dX5_settleRoad_123 ml_X5_243 mk_X3_tell rfl rfl sh7 (Nat.le_of_ble_eq_true rfl) (Nat.le_of_ble_eq_true rfl) rfl (c_Law_tell sh7 hw) (fun r15 h16 hw => ?_)
      refine g_iconst (v := 1) dX5_settleRoad_126 (by decide) ?_
      refine g_icmp_ne 142 dX5_settleRoad_127 rfl (fun hc => ?_) (fun hc => ?_)
      · have hw := hw.1 hc
        exact g_vret dX5_settleRoad_142 hw
      · have hw := hw.2 hc
        refine g_lv [1, 2, 3] rfl ?_
        exact hJ130 _ hw
  refine g_if_ne 69 dX5_settleRoad_57 rfl (fun hc => ?_) (fun hc => ?_)
  · have hw := hw.1 hc
    refine g_aload_n dX5_settleRoad_69 rfl rfl ?_
    refine g_getO dX5_settleRoad_70 fl_X5_21 sh2 rfl ?_
    refine g_aload_n dX5_settleRoad_73 rfl rfl ?_
    refine g_getA dX5_settleRoad_74 fl_X5_54 sh2 rfl ?_
    refine g_callVI [.ref (gAd G 13)] (ci := 3) dX5_settleRoad_77 ml_X5_243 mk_X3_tell rfl rfl sh4 (Nat.le_of_ble_eq_true rfl) (Nat.le_of_ble_eq_true rfl) rfl (c_Law_tell sh4 hw) (fun r17 h18 hw => ?_)
    exact hJ80 _ _ hw
  · have hw := hw.2 hc
    refine g_aload_n dX5_settleRoad_60 rfl rfl ?_
    refine g_getA dX5_settleRoad_61 fl_X5_51 sh2 rfl ?_
    refine g_iload_n dX5_settleRoad_64 rfl rfl ?_
    refine g_iald dX5_settleRoad_65 ia12 al12 hw.1 ?_
    have hw := hw.2
    refine g_goto 80 dX5_settleRoad_66 rfl ?_
    exact hJ80 _ _ hw
theorem dX5_settle_0 : decode cX5_settle 0 = .ok (.aload_n 1, 1) := by decide +kernel
theorem dX5_settle_1 : decode cX5_settle 1 = .ok (.aload_n 0, 1) := by decide +kernel
theorem dX5_settle_2 : decode cX5_settle 2 = .ok (.getfield 31, 3) := by decide +kernel
theorem dX5_settle_5 : decode cX5_settle 5 = .ok (.ifCond .ne 7, 3) := by decide +kernel
theorem dX5_settle_8 : decode cX5_settle 8 = .ok (.iconst 1, 1) := by decide +kernel
theorem dX5_settle_9 : decode cX5_settle 9 = .ok (.goto 7, 3) := by decide +kernel
theorem dX5_settle_12 : decode cX5_settle 12 = .ok (.aload_n 0, 1) := by decide +kernel
theorem dX5_settle_13 : decode cX5_settle 13 = .ok (.getfield 31, 3) := by decide +kernel
theorem dX5_settle_16 : decode cX5_settle 16 = .ok (.putfield 217, 3) := by decide +kernel
theorem dX5_settle_19 : decode cX5_settle 19 = .ok (.aload_n 1, 1) := by decide +kernel
theorem dX5_settle_20 : decode cX5_settle 20 = .ok (.aload_n 0, 1) := by decide +kernel
theorem dX5_settle_21 : decode cX5_settle 21 = .ok (.getfield 31, 3) := by decide +kernel
theorem dX5_settle_24 : decode cX5_settle 24 = .ok (.ifCond .ne 7, 3) := by decide +kernel
theorem dX5_settle_27 : decode cX5_settle 27 = .ok (.iconst 1, 1) := by decide +kernel
theorem dX5_settle_28 : decode cX5_settle 28 = .ok (.goto 7, 3) := by decide +kernel
theorem dX5_settle_31 : decode cX5_settle 31 = .ok (.aload_n 0, 1) := by decide +kernel
theorem dX5_settle_32 : decode cX5_settle 32 = .ok (.getfield 35, 3) := by decide +kernel
theorem dX5_settle_35 : decode cX5_settle 35 = .ok (.putfield 220, 3) := by decide +kernel
theorem dX5_settle_38 : decode cX5_settle 38 = .ok (.aload_n 1, 1) := by decide +kernel
theorem dX5_settle_39 : decode cX5_settle 39 = .ok (.aload_n 0, 1) := by decide +kernel
theorem dX5_settle_40 : decode cX5_settle 40 = .ok (.getfield 38, 3) := by decide +kernel
theorem dX5_settle_43 : decode cX5_settle 43 = .ok (.putfield 221, 3) := by decide +kernel
theorem dX5_settle_46 : decode cX5_settle 46 = .ok (.aload_n 1, 1) := by decide +kernel
theorem dX5_settle_47 : decode cX5_settle 47 = .ok (.aload_n 0, 1) := by decide +kernel
theorem dX5_settle_48 : decode cX5_settle 48 = .ok (.getfield 41, 3) := by decide +kernel
theorem dX5_settle_51 : decode cX5_settle 51 = .ok (.putfield 222, 3) := by decide +kernel
theorem dX5_settle_54 : decode cX5_settle 54 = .ok (.aload_n 1, 1) := by decide +kernel
theorem dX5_settle_55 : decode cX5_settle 55 = .ok (.getfield 223, 3) := by decide +kernel
theorem dX5_settle_58 : decode cX5_settle 58 = .ok (.iconst 0, 1) := by decide +kernel
theorem dX5_settle_59 : decode cX5_settle 59 = .ok (.invokestatic 226, 3) := by decide +kernel
theorem dX5_settle_62 : decode cX5_settle 62 = .ok (.aload_n 1, 1) := by decide +kernel
theorem dX5_settle_63 : decode cX5_settle 63 = .ok (.getfield 232, 3) := by decide +kernel
theorem dX5_settle_66 : decode cX5_settle 66 = .ok (.iconst 0, 1) := by decide +kernel
theorem dX5_settle_67 : decode cX5_settle 67 = .ok (.invokestatic 226, 3) := by decide +kernel
theorem dX5_settle_70 : decode cX5_settle 70 = .ok (.iconst 0, 1) := by decide +kernel
theorem dX5_settle_71 : decode cX5_settle 71 = .ok (.istore_n 2, 1) := by decide +kernel
theorem dX5_settle_72 : decode cX5_settle 72 = .ok (.iload_n 2, 1) := by decide +kernel
theorem dX5_settle_73 : decode cX5_settle 73 = .ok (.aload_n 0, 1) := by decide +kernel
theorem dX5_settle_74 : decode cX5_settle 74 = .ok (.getfield 38, 3) := by decide +kernel
theorem dX5_settle_77 : decode cX5_settle 77 = .ok (.if_icmp .ge 90, 3) := by decide +kernel
theorem dX5_settle_80 : decode cX5_settle 80 = .ok (.iload_n 2, 1) := by decide +kernel
theorem dX5_settle_81 : decode cX5_settle 81 = .ok (.bipush 16, 2) := by decide +kernel
theorem dX5_settle_83 : decode cX5_settle 83 = .ok (.if_icmp .ge 84, 3) := by decide +kernel
theorem dX5_settle_86 : decode cX5_settle 86 = .ok (.aload_n 1, 1) := by decide +kernel
theorem dX5_settle_87 : decode cX5_settle 87 = .ok (.getfield 234, 3) := by decide +kernel
theorem dX5_settle_90 : decode cX5_settle 90 = .ok (.iload_n 2, 1) := by decide +kernel
theorem dX5_settle_91 : decode cX5_settle 91 = .ok (.aload_n 0, 1) := by decide +kernel
theorem dX5_settle_92 : decode cX5_settle 92 = .ok (.getfield 44, 3) := by decide +kernel
theorem dX5_settle_95 : decode cX5_settle 95 = .ok (.iload_n 2, 1) := by decide +kernel
theorem dX5_settle_96 : decode cX5_settle 96 = .ok (.iaload, 1) := by decide +kernel
theorem dX5_settle_97 : decode cX5_settle 97 = .ok (.iastore, 1) := by decide +kernel
theorem dX5_settle_98 : decode cX5_settle 98 = .ok (.aload_n 1, 1) := by decide +kernel
theorem dX5_settle_99 : decode cX5_settle 99 = .ok (.getfield 235, 3) := by decide +kernel
theorem dX5_settle_102 : decode cX5_settle 102 = .ok (.iload_n 2, 1) := by decide +kernel
theorem dX5_settle_103 : decode cX5_settle 103 = .ok (.aload_n 0, 1) := by decide +kernel
theorem dX5_settle_104 : decode cX5_settle 104 = .ok (.getfield 48, 3) := by decide +kernel
theorem dX5_settle_107 : decode cX5_settle 107 = .ok (.iload_n 2, 1) := by decide +kernel
theorem dX5_settle_108 : decode cX5_settle 108 = .ok (.iaload, 1) := by decide +kernel
theorem dX5_settle_109 : decode cX5_settle 109 = .ok (.iastore, 1) := by decide +kernel
theorem dX5_settle_110 : decode cX5_settle 110 = .ok (.aload_n 1, 1) := by decide +kernel
theorem dX5_settle_111 : decode cX5_settle 111 = .ok (.aload_n 0, 1) := by decide +kernel
theorem dX5_settle_112 : decode cX5_settle 112 = .ok (.getfield 44, 3) := by decide +kernel
theorem dX5_settle_115 : decode cX5_settle 115 = .ok (.iload_n 2, 1) := by decide +kernel
theorem dX5_settle_116 : decode cX5_settle 116 = .ok (.iaload, 1) := by decide +kernel
theorem dX5_settle_117 : decode cX5_settle 117 = .ok (.invokevirtual 236, 3) := by decide +kernel
theorem dX5_settle_120 : decode cX5_settle 120 = .ok (.ifCond .eq 20, 3) := by decide +kernel
theorem dX5_settle_123 : decode cX5_settle 123 = .ok (.aload_n 1, 1) := by decide +kernel
theorem dX5_settle_124 : decode cX5_settle 124 = .ok (.getfield 223, 3) := by decide +kernel
theorem dX5_settle_127 : decode cX5_settle 127 = .ok (.aload_n 0, 1) := by decide +kernel
theorem dX5_settle_128 : decode cX5_settle 128 = .ok (.getfield 44, 3) := by decide +kernel
theorem dX5_settle_131 : decode cX5_settle 131 = .ok (.iload_n 2, 1) := by decide +kernel
theorem dX5_settle_132 : decode cX5_settle 132 = .ok (.iaload, 1) := by decide +kernel
theorem dX5_settle_133 : decode cX5_settle 133 = .ok (.dup2, 1) := by decide +kernel
theorem dX5_settle_134 : decode cX5_settle 134 = .ok (.iaload, 1) := by decide +kernel
theorem dX5_settle_135 : decode cX5_settle 135 = .ok (.iconst 1, 1) := by decide +kernel
theorem dX5_settle_136 : decode cX5_settle 136 = .ok (.iload_n 2, 1) := by decide +kernel
theorem dX5_settle_137 : decode cX5_settle 137 = .ok (.ishl, 1) := by decide +kernel
theorem dX5_settle_138 : decode cX5_settle 138 = .ok (.ior, 1) := by decide +kernel
theorem dX5_settle_139 : decode cX5_settle 139 = .ok (.iastore, 1) := by decide +kernel
theorem dX5_settle_140 : decode cX5_settle 140 = .ok (.iconst 0, 1) := by decide +kernel
theorem dX5_settle_141 : decode cX5_settle 141 = .ok (.istore_n 3, 1) := by decide +kernel
theorem dX5_settle_142 : decode cX5_settle 142 = .ok (.iload_n 3, 1) := by decide +kernel
theorem dX5_settle_143 : decode cX5_settle 143 = .ok (.bipush 10, 2) := by decide +kernel
theorem dX5_settle_145 : decode cX5_settle 145 = .ok (.if_icmp .ge 16, 3) := by decide +kernel
theorem dX5_settle_148 : decode cX5_settle 148 = .ok (.aload_n 0, 1) := by decide +kernel
theorem dX5_settle_149 : decode cX5_settle 149 = .ok (.aload_n 1, 1) := by decide +kernel
theorem dX5_settle_150 : decode cX5_settle 150 = .ok (.iload_n 3, 1) := by decide +kernel
theorem dX5_settle_151 : decode cX5_settle 151 = .ok (.iload_n 2, 1) := by decide +kernel
theorem dX5_settle_152 : decode cX5_settle 152 = .ok (.invokevirtual 239, 3) := by decide +kernel
theorem dX5_settle_155 : decode cX5_settle 155 = .ok (.iinc 3 1, 3) := by decide +kernel
theorem dX5_settle_158 : decode cX5_settle 158 = .ok (.goto (-16), 3) := by decide +kernel
theorem dX5_settle_161 : decode cX5_settle 161 = .ok (.iinc 2 1, 3) := by decide +kernel
theorem dX5_settle_164 : decode cX5_settle 164 = .ok (.goto (-92), 3) := by decide +kernel
theorem dX5_settle_167 : decode cX5_settle 167 = .ok (.return_, 1) := by decide +kernel
theorem fl_X5_217 : FLk RX5 217 2 0 := ⟨_, rfl, by decide, mW 145 (by decide +kernel) rfl⟩
theorem pf_2_0 : parseFieldDescriptor (uD 2 0) = some .int := by decide +kernel
theorem fl_X5_220 : FLk RX5 220 2 1 := ⟨_, rfl, by decide, mW 147 (by decide +kernel) rfl⟩
theorem pf_2_1 : parseFieldDescriptor (uD 2 1) = some .int := by decide +kernel
theorem fl_X5_221 : FLk RX5 221 2 2 := ⟨_, rfl, by decide, mW 150 (by decide +kernel) rfl⟩
theorem pf_2_2 : parseFieldDescriptor (uD 2 2) = some .int := by decide +kernel
theorem fl_X5_222 : FLk RX5 222 2 3 := ⟨_, rfl, by decide, mW 154 (by decide +kernel) rfl⟩
theorem pf_2_3 : parseFieldDescriptor (uD 2 3) = some .int := by decide +kernel
theorem fl_X5_223 : FLk RX5 223 2 6 := ⟨_, rfl, by decide, mW 164 (by decide +kernel) rfl⟩
theorem ml_X5_226 : Cond.methodLink RX5 226 yJ7_fill_53178 ∈ Wd := mW 697 (by decide +kernel) rfl
theorem mk_J7_fill_53178 : MokS yJ7_fill_53178 cJ7_fill_53178 4 none 2 := ⟨⟨mW 7 (by decide +kernel) rfl, mW 196 (by decide +kernel) rfl, ⟨by decide, by decide, by decide +kernel⟩, by decide⟩, mW 195 (by decide +kernel) rfl⟩
theorem fl_X5_234 : FLk RX5 234 2 4 := ⟨_, rfl, by decide, mW 159 (by decide +kernel) rfl⟩
theorem fl_X5_235 : FLk RX5 235 2 5 := ⟨_, rfl, by decide, mW 162 (by decide +kernel) rfl⟩
theorem ml_X5_236 : Cond.methodLink RX5 236 yX2_hasPlace ∈ Wd := mW 698 (by decide +kernel) rfl
theorem mk_X2_hasPlace : MokV yX2_hasPlace cX2_hasPlace 2 (some .boolean) 1 := ⟨⟨mW 5 (by decide +kernel) rfl, mW 701 (by decide +kernel) rfl, ⟨by decide, by decide, by decide +kernel⟩, by decide⟩, mW 699 (by decide +kernel) rfl, mW 700 (by decide +kernel) rfl⟩
theorem ml_X5_239 : Cond.methodLink RX5 239 yX5_settleRoad ∈ Wd := mW 702 (by decide +kernel) rfl
theorem mk_X5_settleRoad : MokV yX5_settleRoad cX5_settleRoad 5 none 3 := ⟨⟨mW 2 (by decide +kernel) rfl, mW 705 (by decide +kernel) rfl, ⟨by decide, by decide, by decide +kernel⟩, by decide⟩, mW 704 (by decide +kernel) rfl, mS (q := (yX5_settleRoad, 15)) 19 (by decide +kernel)⟩
def Reader_settle_L142 (x2 : Int32) (K161 : Hp → Prop) : Nat → Int32 → Hp → Prop
  | 0, _, _ => False
  | n + 1, x3, h => (10 ≤ x3 → K161 h) ∧ (¬ 10 ≤ x3 → Reader_settleRoad x3 x2 h (fun h16 => ∀ v17 : Int32, v17 = (x3 + 1) → Reader_settle_L142 x2 K161 n v17 h16))
set_option maxHeartbeats 4000000 in
set_option maxRecDepth 20000 in
theorem gl_Reader_settle_L142 {G : Gx}  {x2 : Int32} {Q : Hp → Prop} {K161 : Hp → Prop} (hK161 : ∀  (h1 : Hp), K161  h1 → Go cX5_settle 4 RX5 none 6 G (QV G Q) 161 [(0, .ref (gAd G 2)), (1, .ref (gAd G 14)), (2, .int x2)] [] h1) : ∀ (n : Nat) (x3 : Int32) (h : Hp), Reader_settle_L142 x2 K161 n x3 h → Go cX5_settle 4 RX5 none 6 G (QV G Q) 142 [(0, .ref (gAd G 2)), (1, .ref (gAd G 14)), (2, .int x2), (3, .int x3)] [] h := by
  intro n
  induction n with
  | zero => intro _ h hw; exact False.elim hw
  | succ n ih =>
    intro x3 h hw
    refine g_iload_n dX5_settle_142 rfl rfl ?_
    refine g_bipush (v := 10) dX5_settle_143 (by decide) ?_
    refine g_icmp_ge 161 dX5_settle_145 rfl (fun hc => ?_) (fun hc => ?_)
    · have hw := hw.1 hc
      refine g_lv [0, 1, 2] rfl ?_
      exact hK161 _ hw
    · have hw := hw.2 hc
      refine g_aload_n dX5_settle_148 rfl rfl ?_
      refine g_aload_n dX5_settle_149 rfl rfl ?_
      refine g_iload_n dX5_settle_150 rfl rfl ?_
      refine g_iload_n dX5_settle_151 rfl rfl ?_
      refine g_callVV [.ref (gAd G 14), .int x3, .int x2] (ci := 5) dX5_settle_152 ml_X5_239 mk_X5_settleRoad rfl rfl sh2 (Nat.le_of_ble_eq_true rfl) (Nat.le_of_ble_eq_true rfl) rfl (c_Reader_settleRoad hw) (fun h16 hw => ?_)
      obtain ⟨v17, ev17⟩ : ∃ y : Int32, y = (x3 + 1) := ⟨_, rfl⟩
      have hw := hw v17 ev17
      refine g_iinc dX5_settle_155 rfl (by rw [ev17]; rfl) (by decide) (lv1 := [(0, .ref (gAd G 2)), (1, .ref (gAd G 14)), (2, .int x2), (3, .int v17)]) rfl ?_
      refine g_goto 142 dX5_settle_158 rfl ?_
      exact ih _ _ hw
def Reader_settle_L72 (Q : Hp → Prop) : Nat → Int32 → Hp → Prop
  | 0, _, _ => False
  | n + 1, x2, h => ((gI h 2 6) ≤ x2 → Q h) ∧ (¬ (gI h 2 6) ≤ x2 → (16 ≤ x2 → Q h) ∧ (¬ 16 ≤ x2 → vp_in x2 16 ∧ vp_in x2 16 ∧ ∀ h11 : Hp, h11 = sI h 15 (x2).toNatClampNeg (gI h 10 (x2).toNatClampNeg) → vp_in x2 16 ∧ vp_in x2 16 ∧ ∀ h12 : Hp, h12 = sI h11 16 (x2).toNatClampNeg (gI h11 11 (x2).toNatClampNeg) → vp_in x2 16 ∧ Land_hasPlace (gI h12 10 (x2).toNatClampNeg) h12 (fun r13 h14 => ∀ J140 : Hp → Prop, J140 = (fun h15 => ∃ n18, Reader_settle_L142 x2 (fun h19 => ∀ v20 : Int32, v20 = (x2 + 1) → Reader_settle_L72 Q n v20 h19) n18 0 h15) → (r13 = 0 → J140 h14) ∧ (¬ r13 = 0 → vp_in x2 16 ∧ vp_in (gI h14 10 (x2).toNatClampNeg) 8 ∧ vp_in (gI h14 10 (x2).toNatClampNeg) 8 ∧ ∀ h21 : Hp, h21 = sI h14 17 ((gI h14 10 (x2).toNatClampNeg)).toNatClampNeg ((gI h14 17 ((gI h14 10 (x2).toNatClampNeg)).toNatClampNeg) ||| ((1 : Int32) <<< (x2 &&& 31))) → J140 h21))))
set_option maxHeartbeats 4000000 in
set_option maxRecDepth 20000 in
theorem gl_Reader_settle_L72 {G : Gx}  {Q : Hp → Prop} : ∀ (n : Nat) (x2 : Int32) (h : Hp), Reader_settle_L72 Q n x2 h → Go cX5_settle 4 RX5 none 6 G (QV G Q) 72 [(0, .ref (gAd G 2)), (1, .ref (gAd G 14)), (2, .int x2)] [] h := by
  intro n
  induction n with
  | zero => intro _ h hw; exact False.elim hw
  | succ n ih =>
    intro x2 h hw
    refine g_iload_n dX5_settle_72 rfl rfl ?_
    refine g_aload_n dX5_settle_73 rfl rfl ?_
    refine g_getI dX5_settle_74 fl_X5_38 sh2 rfl ?_
    refine g_icmp_ge 167 dX5_settle_77 rfl (fun hc => ?_) (fun hc => ?_)
    · have hw := hw.1 hc
      exact g_vret dX5_settle_167 hw
    · have hw := hw.2 hc
      refine g_iload_n dX5_settle_80 rfl rfl ?_
      refine g_bipush (v := 16) dX5_settle_81 (by decide) ?_
      refine g_icmp_ge 167 dX5_settle_83 rfl (fun hc => ?_) (fun hc => ?_)
      · have hw := hw.1 hc
        exact g_vret dX5_settle_167 hw
      · have hw := hw.2 hc
        refine g_aload_n dX5_settle_86 rfl rfl ?_
        refine g_getA dX5_settle_87 fl_X5_234 sh14 rfl ?_
        refine g_iload_n dX5_settle_90 rfl rfl ?_
        refine g_aload_n dX5_settle_91 rfl rfl ?_
        refine g_getA dX5_settle_92 fl_X5_44 sh2 rfl ?_
        refine g_iload_n dX5_settle_95 rfl rfl ?_
        refine g_iald dX5_settle_96 ia10 al10 hw.1 ?_
        have hw := hw.2
        refine g_iast dX5_settle_97 ia15 al15 hw.1 ?_
        have hw := hw.2
        refine g_heap (fun h11 eh11 => ?_)
        have hw := hw h11 eh11
        refine g_aload_n dX5_settle_98 rfl rfl ?_
        refine g_getA dX5_settle_99 fl_X5_235 sh14 rfl ?_
        refine g_iload_n dX5_settle_102 rfl rfl ?_
        refine g_aload_n dX5_settle_103 rfl rfl ?_
        refine g_getA dX5_settle_104 fl_X5_48 sh2 rfl ?_
        refine g_iload_n dX5_settle_107 rfl rfl ?_
        refine g_iald dX5_settle_108 ia11 al11 hw.1 ?_
        have hw := hw.2
        refine g_iast dX5_settle_109 ia16 al16 hw.1 ?_
        have hw := hw.2
        refine g_heap (fun h12 eh12 => ?_)
        have hw := hw h12 eh12
        refine g_aload_n dX5_settle_110 rfl rfl ?_
        refine g_aload_n dX5_settle_111 rfl rfl ?_
        refine g_getA dX5_settle_112 fl_X5_44 sh2 rfl ?_
        refine g_iload_n dX5_settle_115 rfl rfl ?_
        refine g_iald dX5_settle_116 ia10 al10 hw.1 ?_
        have hw := hw.2
        refine g_callVI [.int (gI h12 10 (x2).toNatClampNeg)] (ci := 2) dX5_settle_117 ml_X5_236 mk_X2_hasPlace rfl rfl sh14 (Nat.le_of_ble_eq_true rfl) (Nat.le_of_ble_eq_true rfl) rfl (c_Land_hasPlace hw) (fun r13 h14 hw => ?_)
        refine jn_el hw (fun J140 eJ140 hw => ?_)
        have hJ140 : ∀ (h15 : Hp), J140 h15 → Go cX5_settle 4 RX5 none 6 G (QV G Q) 140 [(0, .ref (gAd G 2)), (1, .ref (gAd G 14)), (2, .int x2)] [] h15 := by
          intro h15 hw
          subst eJ140
          refine g_iconst (v := 0) dX5_settle_140 (by decide) ?_
          refine g_istore_n dX5_settle_141 rfl (by decide) (lv1 := [(0, .ref (gAd G 2)), (1, .ref (gAd G 14)), (2, .int x2), (3, .int 0)]) rfl ?_
          obtain ⟨n18, hw⟩ := hw
          refine gl_Reader_settle_L142  ?_ _ _ _ hw
          · intro h19 hw
            obtain ⟨v20, ev20⟩ : ∃ y : Int32, y = (x2 + 1) := ⟨_, rfl⟩
            have hw := hw v20 ev20
            refine g_iinc dX5_settle_161 rfl (by rw [ev20]; rfl) (by decide) (lv1 := [(0, .ref (gAd G 2)), (1, .ref (gAd G 14)), (2, .int v20)]) rfl ?_
            refine g_goto 72 dX5_settle_164 rfl ?_
            exact ih _ _ hw
        refine g_if_eq 140 dX5_settle_120 rfl (fun hc => ?_) (fun hc => ?_)
        · have hw := hw.1 hc
          exact hJ140 _ hw
        · have hw := hw.2 hc
          refine g_aload_n dX5_settle_123 rfl rfl ?_
          refine g_getA dX5_settle_124 fl_X5_223 sh14 rfl ?_
          refine g_aload_n dX5_settle_127 rfl rfl ?_
          refine g_getA dX5_settle_128 fl_X5_44 sh2 rfl ?_
          refine g_iload_n dX5_settle_131 rfl rfl ?_
          refine g_iald dX5_settle_132 ia10 al10 hw.1 ?_
          have hw := hw.2
          refine g_dup2_11 dX5_settle_133 rfl rfl ?_
          refine g_iald dX5_settle_134 ia17 al17 hw.1 ?_
          have hw := hw.2
          refine g_iconst (v := 1) dX5_settle_135 (by decide) ?_
          refine g_iload_n dX5_settle_136 rfl rfl ?_
          refine g_ishl dX5_settle_137 ?_
          refine g_ior dX5_settle_138 ?_
          refine g_iast dX5_settle_139 ia17 al17 hw.1 ?_
          have hw := hw.2
          refine g_heap (fun h21 eh21 => ?_)
          have hw := hw h21 eh21
          exact hJ140 _ hw
def Reader_settle  (h : Hp) (Q : Hp → Prop) : Prop := ∀ J16 : Int32 → Hp → Prop, J16 = (fun s1 h2 => ∀ h3 : Hp, h3 = sI h2 14 0 s1 → ∀ J35 : Int32 → Hp → Prop, J35 = (fun s4 h5 => ∀ h6 : Hp, h6 = sI h5 14 1 s4 → ∀ h7 : Hp, h7 = sI h6 14 2 (gI h6 2 6) → ∀ h8 : Hp, h8 = sI h7 14 3 (gI h7 2 7) → J7_fill_53178 17 0 h8 (fun h9 => J7_fill_53178 18 0 h9 (fun h10 => ∃ n22, Reader_settle_L72 Q n22 0 h10))) → (¬ (gI h3 2 4) = 0 → J35 (gI h3 2 5) h3) ∧ ((gI h3 2 4) = 0 → J35 1 h3)) → (¬ (gI h 2 4) = 0 → J16 (gI h 2 4) h) ∧ ((gI h 2 4) = 0 → J16 1 h)
set_option maxHeartbeats 4000000 in
set_option maxRecDepth 20000 in
theorem c_Reader_settle {G : Gx}   {h : Hp} {Q : Hp → Prop} (hw : Reader_settle  h Q) : Ct yX5_settle cX5_settle 4 none 6 G [.ref (gAd G 2), .ref (gAd G 14)] h (QV G Q) := by
  refine ct_go [(0, .ref (gAd G 2)), (1, .ref (gAd G 14))] (plainFor_of_name (by decide)) rfl (Nat.le_of_ble_eq_true rfl) rfl ?_
  refine g_aload_n dX5_settle_0 rfl rfl ?_
  refine g_aload_n dX5_settle_1 rfl rfl ?_
  refine g_getI dX5_settle_2 fl_X5_31 sh2 rfl ?_
  refine jn_el hw (fun J16 eJ16 hw => ?_)
  have hJ16 : ∀ (s1 : Int32) (h2 : Hp), J16 s1 h2 → Go cX5_settle 4 RX5 none 6 G (QV G Q) 16 [(0, .ref (gAd G 2)), (1, .ref (gAd G 14))] [.int s1, .ref (gAd G 14)] h2 := by
    intro s1 h2 hw
    subst eJ16
    refine g_putI dX5_settle_16 fl_X5_217 sh14 rfl rfl pf_2_0 ?_
    refine g_heap (fun h3 eh3 => ?_)
    have hw := hw h3 eh3
    refine g_aload_n dX5_settle_19 rfl rfl ?_
    refine g_aload_n dX5_settle_20 rfl rfl ?_
    refine g_getI dX5_settle_21 fl_X5_31 sh2 rfl ?_
    refine jn_el hw (fun J35 eJ35 hw => ?_)
    have hJ35 : ∀ (s4 : Int32) (h5 : Hp), J35 s4 h5 → Go cX5_settle 4 RX5 none 6 G (QV G Q) 35 [(0, .ref (gAd G 2)), (1, .ref (gAd G 14))] [.int s4, .ref (gAd G 14)] h5 := by
      intro s4 h5 hw
      subst eJ35
      refine g_putI dX5_settle_35 fl_X5_220 sh14 rfl rfl pf_2_1 ?_
      refine g_heap (fun h6 eh6 => ?_)
      have hw := hw h6 eh6
      refine g_aload_n dX5_settle_38 rfl rfl ?_
      refine g_aload_n dX5_settle_39 rfl rfl ?_
      refine g_getI dX5_settle_40 fl_X5_38 sh2 rfl ?_
      refine g_putI dX5_settle_43 fl_X5_221 sh14 rfl rfl pf_2_2 ?_
      refine g_heap (fun h7 eh7 => ?_)
      have hw := hw h7 eh7
      refine g_aload_n dX5_settle_46 rfl rfl ?_
      refine g_aload_n dX5_settle_47 rfl rfl ?_
      refine g_getI dX5_settle_48 fl_X5_41 sh2 rfl ?_
      refine g_putI dX5_settle_51 fl_X5_222 sh14 rfl rfl pf_2_3 ?_
      refine g_heap (fun h8 eh8 => ?_)
      have hw := hw h8 eh8
      refine g_aload_n dX5_settle_54 rfl rfl ?_
      refine g_getA dX5_settle_55 fl_X5_223 sh14 rfl ?_
      refine g_iconst (v := 0) dX5_settle_58 (by decide) ?_
      refine g_callSV [.ref (gAd G 17), .int 0] dX5_settle_59 ml_X5_226 mk_J7_fill_53178 rfl (Nat.le_of_ble_eq_true rfl) (Nat.le_of_ble_eq_true rfl) rfl (c_J7_fill_53178 ia17 hw) (fun h9 hw => ?_)
      refine g_aload_n dX5_settle_62 rfl rfl ?_
      refine g_getA dX5_settle_63 fl_X5_232 sh14 rfl ?_
      refine g_iconst (v := 0) dX5_settle_66 (by decide) ?_
      refine g_callSV [.ref (gAd G 18), .int 0] dX5_settle_67 ml_X5_226 mk_J7_fill_53178 rfl (Nat.le_of_ble_eq_true rfl) (Nat.le_of_ble_eq_true rfl) rfl (c_J7_fill_53178 ia18 hw) (fun h10 hw => ?_)
      refine g_iconst (v := 0) dX5_settle_70 (by decide) ?_
      refine g_istore_n dX5_settle_71 rfl (by decide) (lv1 := [(0, .ref (gAd G 2)), (1, .ref (gAd G 14)), (2, .int 0)]) rfl ?_
      obtain ⟨n22, hw⟩ := hw
      refine gl_Reader_settle_L72   _ _ _ hw
    refine g_if_ne 31 dX5_settle_24 rfl (fun hc => ?_) (fun hc => ?_)
    · have hw := hw.1 hc
      refine g_aload_n dX5_settle_31 rfl rfl ?_
      refine g_getI dX5_settle_32 fl_X5_35 sh2 rfl ?_
      exact hJ35 _ _ hw
    · have hw := hw.2 hc
      refine g_iconst (v := 1) dX5_settle_27 (by decide) ?_
      refine g_goto 35 dX5_settle_28 rfl ?_
      exact hJ35 _ _ hw
  refine g_if_ne 12 dX5_settle_5 rfl (fun hc => ?_) (fun hc => ?_)
  · have hw := hw.1 hc
    refine g_aload_n dX5_settle_12 rfl rfl ?_
    refine g_getI dX5_settle_13 fl_X5_31 sh2 rfl ?_
    exact hJ16 _ _ hw
  · have hw := hw.2 hc
    refine g_iconst (v := 1) dX5_settle_8 (by decide) ?_
    refine g_goto 16 dX5_settle_9 rfl ?_
    exact hJ16 _ _ hw
theorem dX6_begin_0 : decode cX6_begin 0 = .ok (.aload_n 0, 1) := by decide +kernel
theorem dX6_begin_1 : decode cX6_begin 1 = .ok (.iconst 0, 1) := by decide +kernel
theorem dX6_begin_2 : decode cX6_begin 2 = .ok (.putfield 9, 3) := by decide +kernel
theorem dX6_begin_5 : decode cX6_begin 5 = .ok (.aload_n 0, 1) := by decide +kernel
theorem dX6_begin_6 : decode cX6_begin 6 = .ok (.lconst 0, 1) := by decide +kernel
theorem dX6_begin_7 : decode cX6_begin 7 = .ok (.putfield 15, 3) := by decide +kernel
theorem dX6_begin_10 : decode cX6_begin 10 = .ok (.aload_n 0, 1) := by decide +kernel
theorem dX6_begin_11 : decode cX6_begin 11 = .ok (.iconst 0, 1) := by decide +kernel
theorem dX6_begin_12 : decode cX6_begin 12 = .ok (.putfield 19, 3) := by decide +kernel
theorem dX6_begin_15 : decode cX6_begin 15 = .ok (.aload_n 0, 1) := by decide +kernel
theorem dX6_begin_16 : decode cX6_begin 16 = .ok (.iload_n 1, 1) := by decide +kernel
theorem dX6_begin_17 : decode cX6_begin 17 = .ok (.putfield 22, 3) := by decide +kernel
theorem dX6_begin_20 : decode cX6_begin 20 = .ok (.aload_n 0, 1) := by decide +kernel
theorem dX6_begin_21 : decode cX6_begin 21 = .ok (.getfield 25, 3) := by decide +kernel
theorem dX6_begin_24 : decode cX6_begin 24 = .ok (.iconst (-1), 1) := by decide +kernel
theorem dX6_begin_25 : decode cX6_begin 25 = .ok (.invokestatic 29, 3) := by decide +kernel
theorem dX6_begin_28 : decode cX6_begin 28 = .ok (.return_, 1) := by decide +kernel
theorem fl_X6_9 : FLk RX6 9 6 0 := ⟨_, rfl, by decide, mW 197 (by decide +kernel) rfl⟩
theorem pf_6_0 : parseFieldDescriptor (uD 6 0) = some .int := by decide +kernel
theorem fl_X6_15 : FLk RX6 15 6 1 := ⟨_, rfl, by decide, mW 200 (by decide +kernel) rfl⟩
theorem pf_6_1 : parseFieldDescriptor (uD 6 1) = some .long := by decide +kernel
theorem fl_X6_19 : FLk RX6 19 6 2 := ⟨_, rfl, by decide, mW 202 (by decide +kernel) rfl⟩
theorem pf_6_2 : parseFieldDescriptor (uD 6 2) = some .int := by decide +kernel
theorem fl_X6_22 : FLk RX6 22 6 3 := ⟨_, rfl, by decide, mW 204 (by decide +kernel) rfl⟩
theorem pf_6_3 : parseFieldDescriptor (uD 6 3) = some .int := by decide +kernel
theorem fl_X6_25 : FLk RX6 25 6 4 := ⟨_, rfl, by decide, mW 207 (by decide +kernel) rfl⟩
theorem ml_X6_29 : Cond.methodLink RX6 29 yJ7_fill_53178 ∈ Wd := mW 194 (by decide +kernel) rfl
def Stand_begin (o0 : Nat) (x1 : Int32) (h : Hp) (Q : Hp → Prop) : Prop := ∀ h1 : Hp, h1 = sI h o0 0 0 → ∀ h2 : Hp, h2 = sJ h1 o0 1 (0 : Int64) → ∀ h3 : Hp, h3 = sI h2 o0 2 0 → ∀ h4 : Hp, h4 = sI h3 o0 3 x1 → J7_fill_53178 (rf o0 4) (-1) h4 (fun h5 => Q h5)
set_option maxHeartbeats 4000000 in
set_option maxRecDepth 20000 in
theorem c_Stand_begin {G : Gx} {o0 : Nat} (ho0 : SH o0 = .inl 6) {x1 : Int32} {h : Hp} {Q : Hp → Prop} (hw : Stand_begin o0 x1 h Q) : Ct yX6_begin cX6_begin 2 none 2 G [.ref (gAd G o0), .int x1] h (QV G Q) := by
  refine ct_go [(0, .ref (gAd G o0)), (1, .int x1)] (plainFor_of_name (by decide)) rfl (Nat.le_of_ble_eq_true rfl) rfl ?_
  refine g_aload_n dX6_begin_0 rfl rfl ?_
  refine g_iconst (v := 0) dX6_begin_1 (by decide) ?_
  refine g_putI dX6_begin_2 fl_X6_9 ho0 rfl rfl pf_6_0 ?_
  refine g_heap (fun h1 eh1 => ?_)
  have hw := hw h1 eh1
  refine g_aload_n dX6_begin_5 rfl rfl ?_
  refine g_lconst (v := (0 : Int64)) dX6_begin_6 (by decide) ?_
  refine g_putJ dX6_begin_7 fl_X6_15 ho0 rfl rfl pf_6_1 ?_
  refine g_heap (fun h2 eh2 => ?_)
  have hw := hw h2 eh2
  refine g_aload_n dX6_begin_10 rfl rfl ?_
  refine g_iconst (v := 0) dX6_begin_11 (by decide) ?_
  refine g_putI dX6_begin_12 fl_X6_19 ho0 rfl rfl pf_6_2 ?_
  refine g_heap (fun h3 eh3 => ?_)
  have hw := hw h3 eh3
  refine g_aload_n dX6_begin_15 rfl rfl ?_
  refine g_iload_n dX6_begin_16 rfl rfl ?_
  refine g_putI dX6_begin_17 fl_X6_22 ho0 rfl rfl pf_6_3 ?_
  refine g_heap (fun h4 eh4 => ?_)
  have hw := hw h4 eh4
  refine g_aload_n dX6_begin_20 rfl rfl ?_
  refine g_getA dX6_begin_21 fl_X6_25 ho0 rfl ?_
  refine g_iconst (v := (-1)) dX6_begin_24 (by decide) ?_
  refine g_callSV [.ref (gAd G (rf o0 4)), .int (-1)] dX6_begin_25 ml_X6_29 mk_J7_fill_53178 rfl (Nat.le_of_ble_eq_true rfl) (Nat.le_of_ble_eq_true rfl) rfl (c_J7_fill_53178 (rf_a ho0 (k := 4) rfl) hw) (fun h5 hw => ?_)
  exact g_vret dX6_begin_28 hw
theorem dX4_forget_0 : decode cX4_forget 0 = .ok (.aload_n 0, 1) := by decide +kernel
theorem dX4_forget_1 : decode cX4_forget 1 = .ok (.iconst 0, 1) := by decide +kernel
theorem dX4_forget_2 : decode cX4_forget 2 = .ok (.putfield 21, 3) := by decide +kernel
theorem dX4_forget_5 : decode cX4_forget 5 = .ok (.return_, 1) := by decide +kernel
theorem fl_X4_21 : FLk RX4 21 4 2 := ⟨_, rfl, by decide, mW 230 (by decide +kernel) rfl⟩
theorem pf_4_2 : parseFieldDescriptor (uD 4 2) = some .int := by decide +kernel
def Past_forget  (h : Hp) (Q : Hp → Prop) : Prop := ∀ h1 : Hp, h1 = sI h 24 2 0 → Q h1
set_option maxHeartbeats 4000000 in
set_option maxRecDepth 20000 in
theorem c_Past_forget {G : Gx}   {h : Hp} {Q : Hp → Prop} (hw : Past_forget  h Q) : Ct yX4_forget cX4_forget 1 none 1 G [.ref (gAd G 24)] h (QV G Q) := by
  refine ct_go [(0, .ref (gAd G 24))] (plainFor_of_name (by decide)) rfl (Nat.le_of_ble_eq_true rfl) rfl ?_
  refine g_aload_n dX4_forget_0 rfl rfl ?_
  refine g_iconst (v := 0) dX4_forget_1 (by decide) ?_
  refine g_putI dX4_forget_2 fl_X4_21 sh24 rfl rfl pf_4_2 ?_
  refine g_heap (fun h1 eh1 => ?_)
  have hw := hw h1 eh1
  exact g_vret dX4_forget_5 hw
theorem dX0_forget_0 : decode cX0_forget 0 = .ok (.aload_n 0, 1) := by decide +kernel
theorem dX0_forget_1 : decode cX0_forget 1 = .ok (.iconst (-1), 1) := by decide +kernel
theorem dX0_forget_2 : decode cX0_forget 2 = .ok (.putfield 9, 3) := by decide +kernel
theorem dX0_forget_5 : decode cX0_forget 5 = .ok (.return_, 1) := by decide +kernel
theorem fl_X0_9 : FLk RX0 9 0 0 := ⟨_, rfl, by decide, mW 290 (by decide +kernel) rfl⟩
theorem pf_0_0 : parseFieldDescriptor (uD 0 0) = some .int := by decide +kernel
def Game_forget  (h : Hp) (Q : Hp → Prop) : Prop := ∀ h1 : Hp, h1 = sI h 80 0 (-1) → Q h1
set_option maxHeartbeats 4000000 in
set_option maxRecDepth 20000 in
theorem c_Game_forget {G : Gx}   {h : Hp} {Q : Hp → Prop} (hw : Game_forget  h Q) : Ct yX0_forget cX0_forget 1 none 1 G [.ref (gAd G 80)] h (QV G Q) := by
  refine ct_go [(0, .ref (gAd G 80))] (plainFor_of_name (by decide)) rfl (Nat.le_of_ble_eq_true rfl) rfl ?_
  refine g_aload_n dX0_forget_0 rfl rfl ?_
  refine g_iconst (v := (-1)) dX0_forget_1 (by decide) ?_
  refine g_putI dX0_forget_2 fl_X0_9 sh80 rfl rfl pf_0_0 ?_
  refine g_heap (fun h1 eh1 => ?_)
  have hw := hw h1 eh1
  exact g_vret dX0_forget_5 hw
theorem dX11_land_0 : decode cX11_land 0 = .ok (.iload_n 1, 1) := by decide +kernel
theorem dX11_land_1 : decode cX11_land 1 = .ok (.ifCond .lt 11, 3) := by decide +kernel
theorem dX11_land_4 : decode cX11_land 4 = .ok (.iload_n 1, 1) := by decide +kernel
theorem dX11_land_5 : decode cX11_land 5 = .ok (.aload_n 0, 1) := by decide +kernel
theorem dX11_land_6 : decode cX11_land 6 = .ok (.getfield 13, 3) := by decide +kernel
theorem dX11_land_9 : decode cX11_land 9 = .ok (.if_icmp .le 6, 3) := by decide +kernel
theorem dX11_land_12 : decode cX11_land 12 = .ok (.bipush (-3), 2) := by decide +kernel
theorem dX11_land_14 : decode cX11_land 14 = .ok (.ireturn, 1) := by decide +kernel
theorem dX11_land_15 : decode cX11_land 15 = .ok (.aload_n 0, 1) := by decide +kernel
theorem dX11_land_16 : decode cX11_land 16 = .ok (.getfield 20, 3) := by decide +kernel
theorem dX11_land_19 : decode cX11_land 19 = .ok (.aload_n 0, 1) := by decide +kernel
theorem dX11_land_20 : decode cX11_land 20 = .ok (.getfield 9, 3) := by decide +kernel
theorem dX11_land_23 : decode cX11_land 23 = .ok (.iload_n 1, 1) := by decide +kernel
theorem dX11_land_24 : decode cX11_land 24 = .ok (.invokevirtual 102, 3) := by decide +kernel
theorem dX11_land_27 : decode cX11_land 27 = .ok (.aload_n 0, 1) := by decide +kernel
theorem dX11_land_28 : decode cX11_land 28 = .ok (.iconst 0, 1) := by decide +kernel
theorem dX11_land_29 : decode cX11_land 29 = .ok (.putfield 13, 3) := by decide +kernel
theorem dX11_land_32 : decode cX11_land 32 = .ok (.aload_n 0, 1) := by decide +kernel
theorem dX11_land_33 : decode cX11_land 33 = .ok (.getfield 20, 3) := by decide +kernel
theorem dX11_land_36 : decode cX11_land 36 = .ok (.getfield 106, 3) := by decide +kernel
theorem dX11_land_39 : decode cX11_land 39 = .ok (.ifCond .eq 14, 3) := by decide +kernel
theorem dX11_land_42 : decode cX11_land 42 = .ok (.bipush (-30), 2) := by decide +kernel
theorem dX11_land_44 : decode cX11_land 44 = .ok (.aload_n 0, 1) := by decide +kernel
theorem dX11_land_45 : decode cX11_land 45 = .ok (.getfield 20, 3) := by decide +kernel
theorem dX11_land_48 : decode cX11_land 48 = .ok (.getfield 106, 3) := by decide +kernel
theorem dX11_land_51 : decode cX11_land 51 = .ok (.isub, 1) := by decide +kernel
theorem dX11_land_52 : decode cX11_land 52 = .ok (.ireturn, 1) := by decide +kernel
theorem dX11_land_53 : decode cX11_land 53 = .ok (.aload_n 0, 1) := by decide +kernel
theorem dX11_land_54 : decode cX11_land 54 = .ok (.getfield 20, 3) := by decide +kernel
theorem dX11_land_57 : decode cX11_land 57 = .ok (.aload_n 0, 1) := by decide +kernel
theorem dX11_land_58 : decode cX11_land 58 = .ok (.getfield 27, 3) := by decide +kernel
theorem dX11_land_61 : decode cX11_land 61 = .ok (.invokevirtual 109, 3) := by decide +kernel
theorem dX11_land_64 : decode cX11_land 64 = .ok (.aload_n 0, 1) := by decide +kernel
theorem dX11_land_65 : decode cX11_land 65 = .ok (.getfield 34, 3) := by decide +kernel
theorem dX11_land_68 : decode cX11_land 68 = .ok (.aload_n 0, 1) := by decide +kernel
theorem dX11_land_69 : decode cX11_land 69 = .ok (.getfield 20, 3) := by decide +kernel
theorem dX11_land_72 : decode cX11_land 72 = .ok (.getfield 113, 3) := by decide +kernel
theorem dX11_land_75 : decode cX11_land 75 = .ok (.invokevirtual 116, 3) := by decide +kernel
theorem dX11_land_78 : decode cX11_land 78 = .ok (.aload_n 0, 1) := by decide +kernel
theorem dX11_land_79 : decode cX11_land 79 = .ok (.getfield 44, 3) := by decide +kernel
theorem dX11_land_82 : decode cX11_land 82 = .ok (.invokevirtual 119, 3) := by decide +kernel
theorem dX11_land_85 : decode cX11_land 85 = .ok (.aload_n 0, 1) := by decide +kernel
theorem dX11_land_86 : decode cX11_land 86 = .ok (.getfield 72, 3) := by decide +kernel
theorem dX11_land_89 : decode cX11_land 89 = .ok (.invokevirtual 122, 3) := by decide +kernel
theorem dX11_land_92 : decode cX11_land 92 = .ok (.aload_n 0, 1) := by decide +kernel
theorem dX11_land_93 : decode cX11_land 93 = .ok (.getfield 27, 3) := by decide +kernel
theorem dX11_land_96 : decode cX11_land 96 = .ok (.getfield 123, 3) := by decide +kernel
theorem dX11_land_99 : decode cX11_land 99 = .ok (.ireturn, 1) := by decide +kernel
theorem fl_X11_20 : FLk RX11 20 11 2 := ⟨_, rfl, by decide, mW 381 (by decide +kernel) rfl⟩
theorem ml_X11_102 : Cond.methodLink RX11 102 yX5_readText ∈ Wd := mW 440 (by decide +kernel) rfl
theorem mk_X5_readText : MokV yX5_readText cX5_readText 4 none 2 := ⟨⟨mW 2 (by decide +kernel) rfl, mW 443 (by decide +kernel) rfl, ⟨by decide, by decide, by decide +kernel⟩, by decide⟩, mW 441 (by decide +kernel) rfl, mW 442 (by decide +kernel) rfl⟩
theorem fl_X11_106 : FLk RX11 106 5 13 := ⟨_, rfl, by decide, mW 101 (by decide +kernel) rfl⟩
theorem fl_X11_27 : FLk RX11 27 11 3 := ⟨_, rfl, by decide, mW 382 (by decide +kernel) rfl⟩
theorem ml_X11_109 : Cond.methodLink RX11 109 yX5_settle ∈ Wd := mW 693 (by decide +kernel) rfl
theorem mk_X5_settle : MokV yX5_settle cX5_settle 4 none 1 := ⟨⟨mW 2 (by decide +kernel) rfl, mW 696 (by decide +kernel) rfl, ⟨by decide, by decide, by decide +kernel⟩, by decide⟩, mW 694 (by decide +kernel) rfl, mW 695 (by decide +kernel) rfl⟩
theorem fl_X11_34 : FLk RX11 34 11 4 := ⟨_, rfl, by decide, mW 383 (by decide +kernel) rfl⟩
theorem fl_X11_113 : FLk RX11 113 5 12 := ⟨_, rfl, by decide, mW 99 (by decide +kernel) rfl⟩
theorem ml_X11_116 : Cond.methodLink RX11 116 yX6_begin ∈ Wd := mW 738 (by decide +kernel) rfl
theorem mk_X6_begin : MokV yX6_begin cX6_begin 2 none 1 := ⟨⟨mW 6 (by decide +kernel) rfl, mW 741 (by decide +kernel) rfl, ⟨by decide, by decide, by decide +kernel⟩, by decide⟩, mW 739 (by decide +kernel) rfl, mW 740 (by decide +kernel) rfl⟩
theorem fl_X11_44 : FLk RX11 44 11 6 := ⟨_, rfl, by decide, mW 385 (by decide +kernel) rfl⟩
theorem ml_X11_119 : Cond.methodLink RX11 119 yX4_forget ∈ Wd := mW 742 (by decide +kernel) rfl
theorem mk_X4_forget : MokV yX4_forget cX4_forget 1 none 0 := ⟨⟨mW 8 (by decide +kernel) rfl, mW 745 (by decide +kernel) rfl, ⟨by decide, by decide, by decide +kernel⟩, by decide⟩, mW 743 (by decide +kernel) rfl, mW 744 (by decide +kernel) rfl⟩
theorem fl_X11_72 : FLk RX11 72 11 11 := ⟨_, rfl, by decide, mW 390 (by decide +kernel) rfl⟩
theorem ml_X11_122 : Cond.methodLink RX11 122 yX0_forget ∈ Wd := mW 746 (by decide +kernel) rfl
theorem mk_X0_forget : MokV yX0_forget cX0_forget 1 none 0 := ⟨⟨mW 10 (by decide +kernel) rfl, mW 749 (by decide +kernel) rfl, ⟨by decide, by decide, by decide +kernel⟩, by decide⟩, mW 747 (by decide +kernel) rfl, mW 748 (by decide +kernel) rfl⟩
theorem fl_X11_123 : FLk RX11 123 2 3 := ⟨_, rfl, by decide, mW 153 (by decide +kernel) rfl⟩
def C_land (x1 : Int32) (h : Hp) (Q : Int32 → Hp → Prop) : Prop := (x1 < 0 → Q (-3) h) ∧ (¬ x1 < 0 → (x1 ≤ (gI h 0 1) → Reader_readText x1 h (fun h1 => ∀ h2 : Hp, h2 = sI h1 0 1 0 → ((gI h2 2 13) = 0 → Reader_settle  h2 (fun h3 => Stand_begin 20 (gI h3 2 12) h3 (fun h4 => Past_forget  h4 (fun h5 => Game_forget  h5 (fun h6 => Q (gI h6 14 3) h6))))) ∧ (¬ (gI h2 2 13) = 0 → Q ((-30 : Int32) - (gI h2 2 13)) h2))) ∧ (¬ x1 ≤ (gI h 0 1) → Q (-3) h))
set_option maxHeartbeats 4000000 in
set_option maxRecDepth 20000 in
theorem c_C_land {G : Gx}  {x1 : Int32} {h : Hp} {Q : Int32 → Hp → Prop} (hw : C_land x1 h Q) : Ct yX11_land cX11_land 2 (some .int) 78 G [.ref (gAd G 0), .int x1] h (QI G Q) := by
  refine ct_go [(0, .ref (gAd G 0)), (1, .int x1)] (plainFor_of_name (by decide)) rfl (Nat.le_of_ble_eq_true rfl) rfl ?_
  refine g_iload_n dX11_land_0 rfl rfl ?_
  refine g_if_lt 12 dX11_land_1 rfl (fun hc => ?_) (fun hc => ?_)
  · have hw := hw.1 hc
    refine g_bipush (v := (-3)) dX11_land_12 (by decide) ?_
    exact g_iret dX11_land_14 hw
  · have hw := hw.2 hc
    refine g_iload_n dX11_land_4 rfl rfl ?_
    refine g_aload_n dX11_land_5 rfl rfl ?_
    refine g_getI dX11_land_6 fl_X11_13 sh0 rfl ?_
    refine g_icmp_le 15 dX11_land_9 rfl (fun hc => ?_) (fun hc => ?_)
    · have hw := hw.1 hc
      refine g_aload_n dX11_land_15 rfl rfl ?_
      refine g_getO dX11_land_16 fl_X11_20 sh0 rfl ?_
      refine g_aload_n dX11_land_19 rfl rfl ?_
      refine g_getA dX11_land_20 fl_X11_9 sh0 rfl ?_
      refine g_iload_n dX11_land_23 rfl rfl ?_
      refine g_callVV [.ref (gAd G 1), .int x1] (ci := 5) dX11_land_24 ml_X11_102 mk_X5_readText rfl rfl sh2 (Nat.le_of_ble_eq_true rfl) (Nat.le_of_ble_eq_true rfl) rfl (c_Reader_readText hw) (fun h1 hw => ?_)
      refine g_aload_n dX11_land_27 rfl rfl ?_
      refine g_iconst (v := 0) dX11_land_28 (by decide) ?_
      refine g_putI dX11_land_29 fl_X11_13 sh0 rfl rfl pf_11_1 ?_
      refine g_heap (fun h2 eh2 => ?_)
      have hw := hw h2 eh2
      refine g_aload_n dX11_land_32 rfl rfl ?_
      refine g_getO dX11_land_33 fl_X11_20 sh0 rfl ?_
      refine g_getI dX11_land_36 fl_X11_106 sh2 rfl ?_
      refine g_if_eq 53 dX11_land_39 rfl (fun hc => ?_) (fun hc => ?_)
      · have hw := hw.1 hc
        refine g_aload_n dX11_land_53 rfl rfl ?_
        refine g_getO dX11_land_54 fl_X11_20 sh0 rfl ?_
        refine g_aload_n dX11_land_57 rfl rfl ?_
        refine g_getO dX11_land_58 fl_X11_27 sh0 rfl ?_
        refine g_callVV [.ref (gAd G 14)] (ci := 5) dX11_land_61 ml_X11_109 mk_X5_settle rfl rfl sh2 (Nat.le_of_ble_eq_true rfl) (Nat.le_of_ble_eq_true rfl) rfl (c_Reader_settle hw) (fun h3 hw => ?_)
        refine g_aload_n dX11_land_64 rfl rfl ?_
        refine g_getO dX11_land_65 fl_X11_34 sh0 rfl ?_
        refine g_aload_n dX11_land_68 rfl rfl ?_
        refine g_getO dX11_land_69 fl_X11_20 sh0 rfl ?_
        refine g_getI dX11_land_72 fl_X11_113 sh2 rfl ?_
        refine g_callVV [.int (gI h3 2 12)] (ci := 6) dX11_land_75 ml_X11_116 mk_X6_begin rfl rfl sh20 (Nat.le_of_ble_eq_true rfl) (Nat.le_of_ble_eq_true rfl) rfl (c_Stand_begin sh20 hw) (fun h4 hw => ?_)
        refine g_aload_n dX11_land_78 rfl rfl ?_
        refine g_getO dX11_land_79 fl_X11_44 sh0 rfl ?_
        refine g_callVV [] (ci := 4) dX11_land_82 ml_X11_119 mk_X4_forget rfl rfl sh24 (Nat.le_of_ble_eq_true rfl) (Nat.le_of_ble_eq_true rfl) rfl (c_Past_forget hw) (fun h5 hw => ?_)
        refine g_aload_n dX11_land_85 rfl rfl ?_
        refine g_getO dX11_land_86 fl_X11_72 sh0 rfl ?_
        refine g_callVV [] (ci := 0) dX11_land_89 ml_X11_122 mk_X0_forget rfl rfl sh80 (Nat.le_of_ble_eq_true rfl) (Nat.le_of_ble_eq_true rfl) rfl (c_Game_forget hw) (fun h6 hw => ?_)
        refine g_aload_n dX11_land_92 rfl rfl ?_
        refine g_getO dX11_land_93 fl_X11_27 sh0 rfl ?_
        refine g_getI dX11_land_96 fl_X11_123 sh14 rfl ?_
        exact g_iret dX11_land_99 hw
      · have hw := hw.2 hc
        refine g_bipush (v := (-30)) dX11_land_42 (by decide) ?_
        refine g_aload_n dX11_land_44 rfl rfl ?_
        refine g_getO dX11_land_45 fl_X11_20 sh0 rfl ?_
        refine g_getI dX11_land_48 fl_X11_106 sh2 rfl ?_
        refine g_isub dX11_land_51 ?_
        exact g_iret dX11_land_52 hw
    · have hw := hw.2 hc
      refine g_bipush (v := (-3)) dX11_land_12 (by decide) ?_
      exact g_iret dX11_land_14 hw
theorem dX11_fault_0 : decode cX11_fault 0 = .ok (.iload_n 1, 1) := by decide +kernel
theorem dX11_fault_1 : decode cX11_fault 1 = .ok (.ifCond .ne 11, 3) := by decide +kernel
theorem dX11_fault_4 : decode cX11_fault 4 = .ok (.aload_n 0, 1) := by decide +kernel
theorem dX11_fault_5 : decode cX11_fault 5 = .ok (.getfield 20, 3) := by decide +kernel
theorem dX11_fault_8 : decode cX11_fault 8 = .ok (.getfield 106, 3) := by decide +kernel
theorem dX11_fault_11 : decode cX11_fault 11 = .ok (.ireturn, 1) := by decide +kernel
theorem dX11_fault_12 : decode cX11_fault 12 = .ok (.iload_n 1, 1) := by decide +kernel
theorem dX11_fault_13 : decode cX11_fault 13 = .ok (.iconst 1, 1) := by decide +kernel
theorem dX11_fault_14 : decode cX11_fault 14 = .ok (.if_icmp .ne 13, 3) := by decide +kernel
theorem dX11_fault_17 : decode cX11_fault 17 = .ok (.aload_n 0, 1) := by decide +kernel
theorem dX11_fault_18 : decode cX11_fault 18 = .ok (.getfield 20, 3) := by decide +kernel
theorem dX11_fault_21 : decode cX11_fault 21 = .ok (.getfield 126, 3) := by decide +kernel
theorem dX11_fault_24 : decode cX11_fault 24 = .ok (.goto 4, 3) := by decide +kernel
theorem dX11_fault_27 : decode cX11_fault 27 = .ok (.iconst (-1), 1) := by decide +kernel
theorem dX11_fault_28 : decode cX11_fault 28 = .ok (.ireturn, 1) := by decide +kernel
theorem fl_X11_126 : FLk RX11 126 5 14 := ⟨_, rfl, by decide, mW 103 (by decide +kernel) rfl⟩
def C_fault (x1 : Int32) (h : Hp) (Q : Int32 → Hp → Prop) : Prop := (¬ x1 = 0 → (¬ x1 = 1 → Q (-1) h) ∧ (x1 = 1 → Q (gI h 2 14) h)) ∧ (x1 = 0 → Q (gI h 2 13) h)
set_option maxHeartbeats 4000000 in
set_option maxRecDepth 20000 in
theorem c_C_fault {G : Gx}  {x1 : Int32} {h : Hp} {Q : Int32 → Hp → Prop} (hw : C_fault x1 h Q) : Ct yX11_fault cX11_fault 2 (some .int) 1 G [.ref (gAd G 0), .int x1] h (QI G Q) := by
  refine ct_go [(0, .ref (gAd G 0)), (1, .int x1)] (plainFor_of_name (by decide)) rfl (Nat.le_of_ble_eq_true rfl) rfl ?_
  refine g_iload_n dX11_fault_0 rfl rfl ?_
  refine g_if_ne 12 dX11_fault_1 rfl (fun hc => ?_) (fun hc => ?_)
  · have hw := hw.1 hc
    refine g_iload_n dX11_fault_12 rfl rfl ?_
    refine g_iconst (v := 1) dX11_fault_13 (by decide) ?_
    refine g_icmp_ne 27 dX11_fault_14 rfl (fun hc => ?_) (fun hc => ?_)
    · have hw := hw.1 hc
      refine g_iconst (v := (-1)) dX11_fault_27 (by decide) ?_
      exact g_iret dX11_fault_28 hw
    · have hw := hw.2 hc
      refine g_aload_n dX11_fault_17 rfl rfl ?_
      refine g_getO dX11_fault_18 fl_X11_20 sh0 rfl ?_
      refine g_getI dX11_fault_21 fl_X11_126 sh2 rfl ?_
      refine g_goto 28 dX11_fault_24 rfl ?_
      exact g_iret dX11_fault_28 hw
  · have hw := hw.2 hc
    refine g_aload_n dX11_fault_4 rfl rfl ?_
    refine g_getO dX11_fault_5 fl_X11_20 sh0 rfl ?_
    refine g_getI dX11_fault_8 fl_X11_106 sh2 rfl ?_
    exact g_iret dX11_fault_11 hw
theorem dX2_owner_0 : decode cX2_owner 0 = .ok (.aload_n 0, 1) := by decide +kernel
theorem dX2_owner_1 : decode cX2_owner 1 = .ok (.getfield 15, 3) := by decide +kernel
theorem dX2_owner_4 : decode cX2_owner 4 = .ok (.iload_n 1, 1) := by decide +kernel
theorem dX2_owner_5 : decode cX2_owner 5 = .ok (.ishr, 1) := by decide +kernel
theorem dX2_owner_6 : decode cX2_owner 6 = .ok (.iconst 1, 1) := by decide +kernel
theorem dX2_owner_7 : decode cX2_owner 7 = .ok (.iand, 1) := by decide +kernel
theorem dX2_owner_8 : decode cX2_owner 8 = .ok (.ireturn, 1) := by decide +kernel
theorem fl_X2_15 : FLk RX2 15 2 1 := ⟨_, rfl, by decide, mW 146 (by decide +kernel) rfl⟩
def Land_owner (x1 : Int32) (h : Hp) (Q : Int32 → Hp → Prop) : Prop := Q (((gI h 14 1) >>> (x1 &&& 31)) &&& 1) h
set_option maxHeartbeats 4000000 in
set_option maxRecDepth 20000 in
theorem c_Land_owner {G : Gx}  {x1 : Int32} {h : Hp} {Q : Int32 → Hp → Prop} (hw : Land_owner x1 h Q) : Ct yX2_owner cX2_owner 2 (some .int) 1 G [.ref (gAd G 14), .int x1] h (QI G Q) := by
  refine ct_go [(0, .ref (gAd G 14)), (1, .int x1)] (plainFor_of_name (by decide)) rfl (Nat.le_of_ble_eq_true rfl) rfl ?_
  refine g_aload_n dX2_owner_0 rfl rfl ?_
  refine g_getI dX2_owner_1 fl_X2_15 sh14 rfl ?_
  refine g_iload_n dX2_owner_4 rfl rfl ?_
  refine g_ishr dX2_owner_5 ?_
  refine g_iconst (v := 1) dX2_owner_6 (by decide) ?_
  refine g_iand dX2_owner_7 ?_
  exact g_iret dX2_owner_8 hw
theorem dX6_planOf_0 : decode cX6_planOf 0 = .ok (.iload_n 1, 1) := by decide +kernel
theorem dX6_planOf_1 : decode cX6_planOf 1 = .ok (.ifCond .lt 21, 3) := by decide +kernel
theorem dX6_planOf_4 : decode cX6_planOf 4 = .ok (.iload_n 1, 1) := by decide +kernel
theorem dX6_planOf_5 : decode cX6_planOf 5 = .ok (.aload_n 0, 1) := by decide +kernel
theorem dX6_planOf_6 : decode cX6_planOf 6 = .ok (.getfield 25, 3) := by decide +kernel
theorem dX6_planOf_9 : decode cX6_planOf 9 = .ok (.arraylength, 1) := by decide +kernel
theorem dX6_planOf_10 : decode cX6_planOf 10 = .ok (.if_icmp .ge 12, 3) := by decide +kernel
theorem dX6_planOf_13 : decode cX6_planOf 13 = .ok (.aload_n 0, 1) := by decide +kernel
theorem dX6_planOf_14 : decode cX6_planOf 14 = .ok (.getfield 25, 3) := by decide +kernel
theorem dX6_planOf_17 : decode cX6_planOf 17 = .ok (.iload_n 1, 1) := by decide +kernel
theorem dX6_planOf_18 : decode cX6_planOf 18 = .ok (.iaload, 1) := by decide +kernel
theorem dX6_planOf_19 : decode cX6_planOf 19 = .ok (.goto 4, 3) := by decide +kernel
theorem dX6_planOf_22 : decode cX6_planOf 22 = .ok (.iconst (-1), 1) := by decide +kernel
theorem dX6_planOf_23 : decode cX6_planOf 23 = .ok (.ireturn, 1) := by decide +kernel
def Stand_planOf (o0 : Nat) (x1 : Int32) (h : Hp) (Q : Int32 → Hp → Prop) : Prop := (x1 < 0 → Q (-1) h) ∧ (¬ x1 < 0 → (8 ≤ x1 → Q (-1) h) ∧ (¬ 8 ≤ x1 → vp_in x1 8 ∧ Q (gI h (rf o0 4) (x1).toNatClampNeg) h))
set_option maxHeartbeats 4000000 in
set_option maxRecDepth 20000 in
theorem c_Stand_planOf {G : Gx} {o0 : Nat} (ho0 : SH o0 = .inl 6) {x1 : Int32} {h : Hp} {Q : Int32 → Hp → Prop} (hw : Stand_planOf o0 x1 h Q) : Ct yX6_planOf cX6_planOf 2 (some .int) 1 G [.ref (gAd G o0), .int x1] h (QI G Q) := by
  refine ct_go [(0, .ref (gAd G o0)), (1, .int x1)] (plainFor_of_name (by decide)) rfl (Nat.le_of_ble_eq_true rfl) rfl ?_
  refine g_iload_n dX6_planOf_0 rfl rfl ?_
  refine g_if_lt 22 dX6_planOf_1 rfl (fun hc => ?_) (fun hc => ?_)
  · have hw := hw.1 hc
    refine g_iconst (v := (-1)) dX6_planOf_22 (by decide) ?_
    exact g_iret dX6_planOf_23 hw
  · have hw := hw.2 hc
    refine g_iload_n dX6_planOf_4 rfl rfl ?_
    refine g_aload_n dX6_planOf_5 rfl rfl ?_
    refine g_getA dX6_planOf_6 fl_X6_25 ho0 rfl ?_
    refine g_alen dX6_planOf_9 (rf_a ho0 (k := 4) rfl) (by decide) (ln_6_4 ho0) (v := 8) (by decide) ?_
    refine g_icmp_ge 22 dX6_planOf_10 rfl (fun hc => ?_) (fun hc => ?_)
    · have hw := hw.1 hc
      refine g_iconst (v := (-1)) dX6_planOf_22 (by decide) ?_
      exact g_iret dX6_planOf_23 hw
    · have hw := hw.2 hc
      refine g_aload_n dX6_planOf_13 rfl rfl ?_
      refine g_getA dX6_planOf_14 fl_X6_25 ho0 rfl ?_
      refine g_iload_n dX6_planOf_17 rfl rfl ?_
      refine g_iald dX6_planOf_18 (rf_a ho0 (k := 4) rfl) (ln_6_4 ho0) hw.1 ?_
      have hw := hw.2
      refine g_goto 23 dX6_planOf_19 rfl ?_
      exact g_iret dX6_planOf_23 hw
theorem dX2_openRoads_0 : decode cX2_openRoads 0 = .ok (.iload_n 1, 1) := by decide +kernel
theorem dX2_openRoads_1 : decode cX2_openRoads 1 = .ok (.ifCond .lt 21, 3) := by decide +kernel
theorem dX2_openRoads_4 : decode cX2_openRoads 4 = .ok (.iload_n 1, 1) := by decide +kernel
theorem dX2_openRoads_5 : decode cX2_openRoads 5 = .ok (.aload_n 0, 1) := by decide +kernel
theorem dX2_openRoads_6 : decode cX2_openRoads 6 = .ok (.getfield 34, 3) := by decide +kernel
theorem dX2_openRoads_9 : decode cX2_openRoads 9 = .ok (.arraylength, 1) := by decide +kernel
theorem dX2_openRoads_10 : decode cX2_openRoads 10 = .ok (.if_icmp .ge 12, 3) := by decide +kernel
theorem dX2_openRoads_13 : decode cX2_openRoads 13 = .ok (.aload_n 0, 1) := by decide +kernel
theorem dX2_openRoads_14 : decode cX2_openRoads 14 = .ok (.getfield 34, 3) := by decide +kernel
theorem dX2_openRoads_17 : decode cX2_openRoads 17 = .ok (.iload_n 1, 1) := by decide +kernel
theorem dX2_openRoads_18 : decode cX2_openRoads 18 = .ok (.iaload, 1) := by decide +kernel
theorem dX2_openRoads_19 : decode cX2_openRoads 19 = .ok (.goto 4, 3) := by decide +kernel
theorem dX2_openRoads_22 : decode cX2_openRoads 22 = .ok (.iconst 0, 1) := by decide +kernel
theorem dX2_openRoads_23 : decode cX2_openRoads 23 = .ok (.ireturn, 1) := by decide +kernel
theorem fl_X2_34 : FLk RX2 34 2 7 := ⟨_, rfl, by decide, mW 165 (by decide +kernel) rfl⟩
def Land_openRoads (x1 : Int32) (h : Hp) (Q : Int32 → Hp → Prop) : Prop := (x1 < 0 → Q 0 h) ∧ (¬ x1 < 0 → (10 ≤ x1 → Q 0 h) ∧ (¬ 10 ≤ x1 → vp_in x1 10 ∧ Q (gI h 18 (x1).toNatClampNeg) h))
set_option maxHeartbeats 4000000 in
set_option maxRecDepth 20000 in
theorem c_Land_openRoads {G : Gx}  {x1 : Int32} {h : Hp} {Q : Int32 → Hp → Prop} (hw : Land_openRoads x1 h Q) : Ct yX2_openRoads cX2_openRoads 2 (some .int) 1 G [.ref (gAd G 14), .int x1] h (QI G Q) := by
  refine ct_go [(0, .ref (gAd G 14)), (1, .int x1)] (plainFor_of_name (by decide)) rfl (Nat.le_of_ble_eq_true rfl) rfl ?_
  refine g_iload_n dX2_openRoads_0 rfl rfl ?_
  refine g_if_lt 22 dX2_openRoads_1 rfl (fun hc => ?_) (fun hc => ?_)
  · have hw := hw.1 hc
    refine g_iconst (v := 0) dX2_openRoads_22 (by decide) ?_
    exact g_iret dX2_openRoads_23 hw
  · have hw := hw.2 hc
    refine g_iload_n dX2_openRoads_4 rfl rfl ?_
    refine g_aload_n dX2_openRoads_5 rfl rfl ?_
    refine g_getA dX2_openRoads_6 fl_X2_34 sh14 rfl ?_
    refine g_alen dX2_openRoads_9 ia18 (by decide) al18 (v := 10) (by decide) ?_
    refine g_icmp_ge 22 dX2_openRoads_10 rfl (fun hc => ?_) (fun hc => ?_)
    · have hw := hw.1 hc
      refine g_iconst (v := 0) dX2_openRoads_22 (by decide) ?_
      exact g_iret dX2_openRoads_23 hw
    · have hw := hw.2 hc
      refine g_aload_n dX2_openRoads_13 rfl rfl ?_
      refine g_getA dX2_openRoads_14 fl_X2_34 sh14 rfl ?_
      refine g_iload_n dX2_openRoads_17 rfl rfl ?_
      refine g_iald dX2_openRoads_18 ia18 al18 hw.1 ?_
      have hw := hw.2
      refine g_goto 23 dX2_openRoads_19 rfl ?_
      exact g_iret dX2_openRoads_23 hw
theorem dX2_openFrom_0 : decode cX2_openFrom 0 = .ok (.aload_n 0, 1) := by decide +kernel
theorem dX2_openFrom_1 : decode cX2_openFrom 1 = .ok (.iload_n 2, 1) := by decide +kernel
theorem dX2_openFrom_2 : decode cX2_openFrom 2 = .ok (.invokevirtual 46, 3) := by decide +kernel
theorem dX2_openFrom_5 : decode cX2_openFrom 5 = .ok (.ifCond .eq 18, 3) := by decide +kernel
theorem dX2_openFrom_8 : decode cX2_openFrom 8 = .ok (.aload_n 0, 1) := by decide +kernel
theorem dX2_openFrom_9 : decode cX2_openFrom 9 = .ok (.getfield 31, 3) := by decide +kernel
theorem dX2_openFrom_12 : decode cX2_openFrom 12 = .ok (.iload_n 2, 1) := by decide +kernel
theorem dX2_openFrom_13 : decode cX2_openFrom 13 = .ok (.iaload, 1) := by decide +kernel
theorem dX2_openFrom_14 : decode cX2_openFrom 14 = .ok (.aload_n 0, 1) := by decide +kernel
theorem dX2_openFrom_15 : decode cX2_openFrom 15 = .ok (.iload_n 1, 1) := by decide +kernel
theorem dX2_openFrom_16 : decode cX2_openFrom 16 = .ok (.invokevirtual 50, 3) := by decide +kernel
theorem dX2_openFrom_19 : decode cX2_openFrom 19 = .ok (.iand, 1) := by decide +kernel
theorem dX2_openFrom_20 : decode cX2_openFrom 20 = .ok (.goto 4, 3) := by decide +kernel
theorem dX2_openFrom_23 : decode cX2_openFrom 23 = .ok (.iconst 0, 1) := by decide +kernel
theorem dX2_openFrom_24 : decode cX2_openFrom 24 = .ok (.ireturn, 1) := by decide +kernel
theorem ml_X2_46 : Cond.methodLink RX2 46 yX2_hasPlace ∈ Wd := mW 771 (by decide +kernel) rfl
theorem fl_X2_31 : FLk RX2 31 2 6 := ⟨_, rfl, by decide, mW 163 (by decide +kernel) rfl⟩
theorem ml_X2_50 : Cond.methodLink RX2 50 yX2_openRoads ∈ Wd := mW 772 (by decide +kernel) rfl
theorem mk_X2_openRoads : MokV yX2_openRoads cX2_openRoads 2 (some .int) 1 := ⟨⟨mW 5 (by decide +kernel) rfl, mW 775 (by decide +kernel) rfl, ⟨by decide, by decide, by decide +kernel⟩, by decide⟩, mW 773 (by decide +kernel) rfl, mW 774 (by decide +kernel) rfl⟩
def Land_openFrom (x1 : Int32) (x2 : Int32) (h : Hp) (Q : Int32 → Hp → Prop) : Prop := Land_hasPlace x2 h (fun r1 h2 => (r1 = 0 → Q 0 h2) ∧ (¬ r1 = 0 → vp_in x2 8 ∧ Land_openRoads x1 h2 (fun r3 h4 => Q ((gI h2 17 (x2).toNatClampNeg) &&& r3) h4)))
set_option maxHeartbeats 4000000 in
set_option maxRecDepth 20000 in
theorem c_Land_openFrom {G : Gx}  {x1 : Int32} {x2 : Int32} {h : Hp} {Q : Int32 → Hp → Prop} (hw : Land_openFrom x1 x2 h Q) : Ct yX2_openFrom cX2_openFrom 3 (some .int) 2 G [.ref (gAd G 14), .int x1, .int x2] h (QI G Q) := by
  refine ct_go [(0, .ref (gAd G 14)), (1, .int x1), (2, .int x2)] (plainFor_of_name (by decide)) rfl (Nat.le_of_ble_eq_true rfl) rfl ?_
  refine g_aload_n dX2_openFrom_0 rfl rfl ?_
  refine g_iload_n dX2_openFrom_1 rfl rfl ?_
  refine g_callVI [.int x2] (ci := 2) dX2_openFrom_2 ml_X2_46 mk_X2_hasPlace rfl rfl sh14 (Nat.le_of_ble_eq_true rfl) (Nat.le_of_ble_eq_true rfl) rfl (c_Land_hasPlace hw) (fun r1 h2 hw => ?_)
  refine g_if_eq 23 dX2_openFrom_5 rfl (fun hc => ?_) (fun hc => ?_)
  · have hw := hw.1 hc
    refine g_iconst (v := 0) dX2_openFrom_23 (by decide) ?_
    exact g_iret dX2_openFrom_24 hw
  · have hw := hw.2 hc
    refine g_aload_n dX2_openFrom_8 rfl rfl ?_
    refine g_getA dX2_openFrom_9 fl_X2_31 sh14 rfl ?_
    refine g_iload_n dX2_openFrom_12 rfl rfl ?_
    refine g_iald dX2_openFrom_13 ia17 al17 hw.1 ?_
    have hw := hw.2
    refine g_aload_n dX2_openFrom_14 rfl rfl ?_
    refine g_iload_n dX2_openFrom_15 rfl rfl ?_
    refine g_callVI [.int x1] (ci := 2) dX2_openFrom_16 ml_X2_50 mk_X2_openRoads rfl rfl sh14 (Nat.le_of_ble_eq_true rfl) (Nat.le_of_ble_eq_true rfl) rfl (c_Land_openRoads hw) (fun r3 h4 hw => ?_)
    refine g_iand dX2_openFrom_19 ?_
    refine g_goto 24 dX2_openFrom_20 rfl ?_
    exact g_iret dX2_openFrom_24 hw
theorem dJ6_bitCount_0f7a4_0 : decode cJ6_bitCount_0f7a4 0 = .ok (.iload_n 0, 1) := by decide +kernel
theorem dJ6_bitCount_0f7a4_1 : decode cJ6_bitCount_0f7a4 1 = .ok (.iload_n 0, 1) := by decide +kernel
theorem dJ6_bitCount_0f7a4_2 : decode cJ6_bitCount_0f7a4 2 = .ok (.iconst 1, 1) := by decide +kernel
theorem dJ6_bitCount_0f7a4_3 : decode cJ6_bitCount_0f7a4 3 = .ok (.iushr, 1) := by decide +kernel
theorem dJ6_bitCount_0f7a4_4 : decode cJ6_bitCount_0f7a4 4 = .ok (.ldc_w 265, 3) := by decide +kernel
theorem dJ6_bitCount_0f7a4_7 : decode cJ6_bitCount_0f7a4 7 = .ok (.iand, 1) := by decide +kernel
theorem dJ6_bitCount_0f7a4_8 : decode cJ6_bitCount_0f7a4 8 = .ok (.isub, 1) := by decide +kernel
theorem dJ6_bitCount_0f7a4_9 : decode cJ6_bitCount_0f7a4 9 = .ok (.istore_n 0, 1) := by decide +kernel
theorem dJ6_bitCount_0f7a4_10 : decode cJ6_bitCount_0f7a4 10 = .ok (.iload_n 0, 1) := by decide +kernel
theorem dJ6_bitCount_0f7a4_11 : decode cJ6_bitCount_0f7a4 11 = .ok (.ldc_w 266, 3) := by decide +kernel
theorem dJ6_bitCount_0f7a4_14 : decode cJ6_bitCount_0f7a4 14 = .ok (.iand, 1) := by decide +kernel
theorem dJ6_bitCount_0f7a4_15 : decode cJ6_bitCount_0f7a4 15 = .ok (.iload_n 0, 1) := by decide +kernel
theorem dJ6_bitCount_0f7a4_16 : decode cJ6_bitCount_0f7a4 16 = .ok (.iconst 2, 1) := by decide +kernel
theorem dJ6_bitCount_0f7a4_17 : decode cJ6_bitCount_0f7a4 17 = .ok (.iushr, 1) := by decide +kernel
theorem dJ6_bitCount_0f7a4_18 : decode cJ6_bitCount_0f7a4 18 = .ok (.ldc_w 266, 3) := by decide +kernel
theorem dJ6_bitCount_0f7a4_21 : decode cJ6_bitCount_0f7a4 21 = .ok (.iand, 1) := by decide +kernel
theorem dJ6_bitCount_0f7a4_22 : decode cJ6_bitCount_0f7a4 22 = .ok (.iadd, 1) := by decide +kernel
theorem dJ6_bitCount_0f7a4_23 : decode cJ6_bitCount_0f7a4 23 = .ok (.istore_n 0, 1) := by decide +kernel
theorem dJ6_bitCount_0f7a4_24 : decode cJ6_bitCount_0f7a4 24 = .ok (.iload_n 0, 1) := by decide +kernel
theorem dJ6_bitCount_0f7a4_25 : decode cJ6_bitCount_0f7a4 25 = .ok (.iload_n 0, 1) := by decide +kernel
theorem dJ6_bitCount_0f7a4_26 : decode cJ6_bitCount_0f7a4 26 = .ok (.iconst 4, 1) := by decide +kernel
theorem dJ6_bitCount_0f7a4_27 : decode cJ6_bitCount_0f7a4 27 = .ok (.iushr, 1) := by decide +kernel
theorem dJ6_bitCount_0f7a4_28 : decode cJ6_bitCount_0f7a4 28 = .ok (.iadd, 1) := by decide +kernel
theorem dJ6_bitCount_0f7a4_29 : decode cJ6_bitCount_0f7a4 29 = .ok (.ldc_w 267, 3) := by decide +kernel
theorem dJ6_bitCount_0f7a4_32 : decode cJ6_bitCount_0f7a4 32 = .ok (.iand, 1) := by decide +kernel
theorem dJ6_bitCount_0f7a4_33 : decode cJ6_bitCount_0f7a4 33 = .ok (.istore_n 0, 1) := by decide +kernel
theorem dJ6_bitCount_0f7a4_34 : decode cJ6_bitCount_0f7a4 34 = .ok (.iload_n 0, 1) := by decide +kernel
theorem dJ6_bitCount_0f7a4_35 : decode cJ6_bitCount_0f7a4 35 = .ok (.iload_n 0, 1) := by decide +kernel
theorem dJ6_bitCount_0f7a4_36 : decode cJ6_bitCount_0f7a4 36 = .ok (.bipush 8, 2) := by decide +kernel
theorem dJ6_bitCount_0f7a4_38 : decode cJ6_bitCount_0f7a4 38 = .ok (.iushr, 1) := by decide +kernel
theorem dJ6_bitCount_0f7a4_39 : decode cJ6_bitCount_0f7a4 39 = .ok (.iadd, 1) := by decide +kernel
theorem dJ6_bitCount_0f7a4_40 : decode cJ6_bitCount_0f7a4 40 = .ok (.istore_n 0, 1) := by decide +kernel
theorem dJ6_bitCount_0f7a4_41 : decode cJ6_bitCount_0f7a4 41 = .ok (.iload_n 0, 1) := by decide +kernel
theorem dJ6_bitCount_0f7a4_42 : decode cJ6_bitCount_0f7a4 42 = .ok (.iload_n 0, 1) := by decide +kernel
theorem dJ6_bitCount_0f7a4_43 : decode cJ6_bitCount_0f7a4 43 = .ok (.bipush 16, 2) := by decide +kernel
theorem dJ6_bitCount_0f7a4_45 : decode cJ6_bitCount_0f7a4 45 = .ok (.iushr, 1) := by decide +kernel
theorem dJ6_bitCount_0f7a4_46 : decode cJ6_bitCount_0f7a4 46 = .ok (.iadd, 1) := by decide +kernel
theorem dJ6_bitCount_0f7a4_47 : decode cJ6_bitCount_0f7a4 47 = .ok (.istore_n 0, 1) := by decide +kernel
theorem dJ6_bitCount_0f7a4_48 : decode cJ6_bitCount_0f7a4 48 = .ok (.iload_n 0, 1) := by decide +kernel
theorem dJ6_bitCount_0f7a4_49 : decode cJ6_bitCount_0f7a4 49 = .ok (.bipush 63, 2) := by decide +kernel
theorem dJ6_bitCount_0f7a4_51 : decode cJ6_bitCount_0f7a4 51 = .ok (.iand, 1) := by decide +kernel
theorem dJ6_bitCount_0f7a4_52 : decode cJ6_bitCount_0f7a4 52 = .ok (.ireturn, 1) := by decide +kernel
theorem kc_J6_265 : Cond.constant RJ6 265 (1431655765) ∈ Wd := mW 779 (by decide +kernel) rfl
theorem kc_J6_266 : Cond.constant RJ6 266 (858993459) ∈ Wd := mW 780 (by decide +kernel) rfl
theorem kc_J6_267 : Cond.constant RJ6 267 (252645135) ∈ Wd := mW 781 (by decide +kernel) rfl
def J6_bitCount_0f7a4 (x0 : Int32) (h : Hp) (Q : Int32 → Hp → Prop) : Prop := ∀ v1 : Int32, v1 = (x0 - ((((x0).toUInt32 >>> ((1).toUInt32 &&& Int32.toUInt32 31)).toInt32) &&& 1431655765)) → ∀ v2 : Int32, v2 = ((v1 &&& 858993459) + ((((v1).toUInt32 >>> ((2).toUInt32 &&& Int32.toUInt32 31)).toInt32) &&& 858993459)) → ∀ v3 : Int32, v3 = ((v2 + (((v2).toUInt32 >>> ((4).toUInt32 &&& Int32.toUInt32 31)).toInt32)) &&& 252645135) → ∀ v4 : Int32, v4 = (v3 + (((v3).toUInt32 >>> ((8).toUInt32 &&& Int32.toUInt32 31)).toInt32)) → ∀ v5 : Int32, v5 = (v4 + (((v4).toUInt32 >>> ((16).toUInt32 &&& Int32.toUInt32 31)).toInt32)) → Q (v5 &&& 63) h
set_option maxHeartbeats 4000000 in
set_option maxRecDepth 20000 in
theorem c_J6_bitCount_0f7a4 {G : Gx}  {x0 : Int32} {h : Hp} {Q : Int32 → Hp → Prop} (hw : J6_bitCount_0f7a4 x0 h Q) : Ct yJ6_bitCount_0f7a4 cJ6_bitCount_0f7a4 1 (some .int) 1 G [.int x0] h (QI G Q) := by
  refine ct_go [(0, .int x0)] (plainFor_of_name (by decide)) rfl (Nat.le_of_ble_eq_true rfl) rfl ?_
  refine g_iload_n dJ6_bitCount_0f7a4_0 rfl rfl ?_
  refine g_iload_n dJ6_bitCount_0f7a4_1 rfl rfl ?_
  refine g_iconst (v := 1) dJ6_bitCount_0f7a4_2 (by decide) ?_
  refine g_iushr dJ6_bitCount_0f7a4_3 ?_
  refine g_ldcw dJ6_bitCount_0f7a4_4 kc_J6_265 ?_
  refine g_iand dJ6_bitCount_0f7a4_7 ?_
  refine g_isub dJ6_bitCount_0f7a4_8 ?_
  refine g_topi (fun v1 ev1 => ?_)
  have hw := hw v1 ev1
  refine g_istore_n dJ6_bitCount_0f7a4_9 rfl (by decide) (lv1 := [(0, .int v1)]) rfl ?_
  refine g_iload_n dJ6_bitCount_0f7a4_10 rfl rfl ?_
  refine g_ldcw dJ6_bitCount_0f7a4_11 kc_J6_266 ?_
  refine g_iand dJ6_bitCount_0f7a4_14 ?_
  refine g_iload_n dJ6_bitCount_0f7a4_15 rfl rfl ?_
  refine g_iconst (v := 2) dJ6_bitCount_0f7a4_16 (by decide) ?_
  refine g_iushr dJ6_bitCount_0f7a4_17 ?_
  refine g_ldcw dJ6_bitCount_0f7a4_18 kc_J6_266 ?_
  refine g_iand dJ6_bitCount_0f7a4_21 ?_
  refine g_iadd dJ6_bitCount_0f7a4_22 ?_
  refine g_topi (fun v2 ev2 => ?_)
  have hw := hw v2 ev2
  refine g_istore_n dJ6_bitCount_0f7a4_23 rfl (by decide) (lv1 := [(0, .int v2)]) rfl ?_
  refine g_iload_n dJ6_bitCount_0f7a4_24 rfl rfl ?_
  refine g_iload_n dJ6_bitCount_0f7a4_25 rfl rfl ?_
  refine g_iconst (v := 4) dJ6_bitCount_0f7a4_26 (by decide) ?_
  refine g_iushr dJ6_bitCount_0f7a4_27 ?_
  refine g_iadd dJ6_bitCount_0f7a4_28 ?_
  refine g_ldcw dJ6_bitCount_0f7a4_29 kc_J6_267 ?_
  refine g_iand dJ6_bitCount_0f7a4_32 ?_
  refine g_topi (fun v3 ev3 => ?_)
  have hw := hw v3 ev3
  refine g_istore_n dJ6_bitCount_0f7a4_33 rfl (by decide) (lv1 := [(0, .int v3)]) rfl ?_
  refine g_iload_n dJ6_bitCount_0f7a4_34 rfl rfl ?_
  refine g_iload_n dJ6_bitCount_0f7a4_35 rfl rfl ?_
  refine g_bipush (v := 8) dJ6_bitCount_0f7a4_36 (by decide) ?_
  refine g_iushr dJ6_bitCount_0f7a4_38 ?_
  refine g_iadd dJ6_bitCount_0f7a4_39 ?_
  refine g_topi (fun v4 ev4 => ?_)
  have hw := hw v4 ev4
  refine g_istore_n dJ6_bitCount_0f7a4_40 rfl (by decide) (lv1 := [(0, .int v4)]) rfl ?_
  refine g_iload_n dJ6_bitCount_0f7a4_41 rfl rfl ?_
  refine g_iload_n dJ6_bitCount_0f7a4_42 rfl rfl ?_
  refine g_bipush (v := 16) dJ6_bitCount_0f7a4_43 (by decide) ?_
  refine g_iushr dJ6_bitCount_0f7a4_45 ?_
  refine g_iadd dJ6_bitCount_0f7a4_46 ?_
  refine g_topi (fun v5 ev5 => ?_)
  have hw := hw v5 ev5
  refine g_istore_n dJ6_bitCount_0f7a4_47 rfl (by decide) (lv1 := [(0, .int v5)]) rfl ?_
  refine g_iload_n dJ6_bitCount_0f7a4_48 rfl rfl ?_
  refine g_bipush (v := 63) dJ6_bitCount_0f7a4_49 (by decide) ?_
  refine g_iand dJ6_bitCount_0f7a4_51 ?_
  exact g_iret dJ6_bitCount_0f7a4_52 hw
theorem dX2_hasRoad_0 : decode cX2_hasRoad 0 = .ok (.iload_n 1, 1) := by decide +kernel
theorem dX2_hasRoad_1 : decode cX2_hasRoad 1 = .ok (.ifCond .lt 21, 3) := by decide +kernel
theorem dX2_hasRoad_4 : decode cX2_hasRoad 4 = .ok (.iload_n 1, 1) := by decide +kernel
theorem dX2_hasRoad_5 : decode cX2_hasRoad 5 = .ok (.aload_n 0, 1) := by decide +kernel
theorem dX2_hasRoad_6 : decode cX2_hasRoad 6 = .ok (.getfield 18, 3) := by decide +kernel
theorem dX2_hasRoad_9 : decode cX2_hasRoad 9 = .ok (.if_icmp .ge 13, 3) := by decide +kernel
theorem dX2_hasRoad_12 : decode cX2_hasRoad 12 = .ok (.iload_n 1, 1) := by decide +kernel
theorem dX2_hasRoad_13 : decode cX2_hasRoad 13 = .ok (.bipush 16, 2) := by decide +kernel
theorem dX2_hasRoad_15 : decode cX2_hasRoad 15 = .ok (.if_icmp .ge 7, 3) := by decide +kernel
theorem dX2_hasRoad_18 : decode cX2_hasRoad 18 = .ok (.iconst 1, 1) := by decide +kernel
theorem dX2_hasRoad_19 : decode cX2_hasRoad 19 = .ok (.goto 4, 3) := by decide +kernel
theorem dX2_hasRoad_22 : decode cX2_hasRoad 22 = .ok (.iconst 0, 1) := by decide +kernel
theorem dX2_hasRoad_23 : decode cX2_hasRoad 23 = .ok (.ireturn, 1) := by decide +kernel
theorem fl_X2_18 : FLk RX2 18 2 2 := ⟨_, rfl, by decide, mW 149 (by decide +kernel) rfl⟩
def Land_hasRoad (x1 : Int32) (h : Hp) (Q : Int32 → Hp → Prop) : Prop := (x1 < 0 → Q 0 h) ∧ (¬ x1 < 0 → ((gI h 14 2) ≤ x1 → Q 0 h) ∧ (¬ (gI h 14 2) ≤ x1 → (16 ≤ x1 → Q 0 h) ∧ (¬ 16 ≤ x1 → Q 1 h)))
set_option maxHeartbeats 4000000 in
set_option maxRecDepth 20000 in
theorem c_Land_hasRoad {G : Gx}  {x1 : Int32} {h : Hp} {Q : Int32 → Hp → Prop} (hw : Land_hasRoad x1 h Q) : Ct yX2_hasRoad cX2_hasRoad 2 (some .boolean) 1 G [.ref (gAd G 14), .int x1] h (QI G Q) := by
  refine ct_go [(0, .ref (gAd G 14)), (1, .int x1)] (plainFor_of_name (by decide)) rfl (Nat.le_of_ble_eq_true rfl) rfl ?_
  refine g_iload_n dX2_hasRoad_0 rfl rfl ?_
  refine g_if_lt 22 dX2_hasRoad_1 rfl (fun hc => ?_) (fun hc => ?_)
  · have hw := hw.1 hc
    refine g_iconst (v := 0) dX2_hasRoad_22 (by decide) ?_
    exact g_zret dX2_hasRoad_23 rfl hw
  · have hw := hw.2 hc
    refine g_iload_n dX2_hasRoad_4 rfl rfl ?_
    refine g_aload_n dX2_hasRoad_5 rfl rfl ?_
    refine g_getI dX2_hasRoad_6 fl_X2_18 sh14 rfl ?_
    refine g_icmp_ge 22 dX2_hasRoad_9 rfl (fun hc => ?_) (fun hc => ?_)
    · have hw := hw.1 hc
      refine g_iconst (v := 0) dX2_hasRoad_22 (by decide) ?_
      exact g_zret dX2_hasRoad_23 rfl hw
    · have hw := hw.2 hc
      refine g_iload_n dX2_hasRoad_12 rfl rfl ?_
      refine g_bipush (v := 16) dX2_hasRoad_13 (by decide) ?_
      refine g_icmp_ge 22 dX2_hasRoad_15 rfl (fun hc => ?_) (fun hc => ?_)
      · have hw := hw.1 hc
        refine g_iconst (v := 0) dX2_hasRoad_22 (by decide) ?_
        exact g_zret dX2_hasRoad_23 rfl hw
      · have hw := hw.2 hc
        refine g_iconst (v := 1) dX2_hasRoad_18 (by decide) ?_
        refine g_goto 23 dX2_hasRoad_19 rfl ?_
        exact g_zret dX2_hasRoad_23 rfl hw
theorem dX2_isOpen_0 : decode cX2_isOpen 0 = .ok (.aload_n 0, 1) := by decide +kernel
theorem dX2_isOpen_1 : decode cX2_isOpen 1 = .ok (.iload_n 2, 1) := by decide +kernel
theorem dX2_isOpen_2 : decode cX2_isOpen 2 = .ok (.invokevirtual 54, 3) := by decide +kernel
theorem dX2_isOpen_5 : decode cX2_isOpen 5 = .ok (.ifCond .eq 20, 3) := by decide +kernel
theorem dX2_isOpen_8 : decode cX2_isOpen 8 = .ok (.aload_n 0, 1) := by decide +kernel
theorem dX2_isOpen_9 : decode cX2_isOpen 9 = .ok (.iload_n 1, 1) := by decide +kernel
theorem dX2_isOpen_10 : decode cX2_isOpen 10 = .ok (.invokevirtual 50, 3) := by decide +kernel
theorem dX2_isOpen_13 : decode cX2_isOpen 13 = .ok (.iload_n 2, 1) := by decide +kernel
theorem dX2_isOpen_14 : decode cX2_isOpen 14 = .ok (.ishr, 1) := by decide +kernel
theorem dX2_isOpen_15 : decode cX2_isOpen 15 = .ok (.iconst 1, 1) := by decide +kernel
theorem dX2_isOpen_16 : decode cX2_isOpen 16 = .ok (.iand, 1) := by decide +kernel
theorem dX2_isOpen_17 : decode cX2_isOpen 17 = .ok (.iconst 1, 1) := by decide +kernel
theorem dX2_isOpen_18 : decode cX2_isOpen 18 = .ok (.if_icmp .ne 7, 3) := by decide +kernel
theorem dX2_isOpen_21 : decode cX2_isOpen 21 = .ok (.iconst 1, 1) := by decide +kernel
theorem dX2_isOpen_22 : decode cX2_isOpen 22 = .ok (.goto 4, 3) := by decide +kernel
theorem dX2_isOpen_25 : decode cX2_isOpen 25 = .ok (.iconst 0, 1) := by decide +kernel
theorem dX2_isOpen_26 : decode cX2_isOpen 26 = .ok (.ireturn, 1) := by decide +kernel
theorem ml_X2_54 : Cond.methodLink RX2 54 yX2_hasRoad ∈ Wd := mW 791 (by decide +kernel) rfl
theorem mk_X2_hasRoad : MokV yX2_hasRoad cX2_hasRoad 2 (some .boolean) 1 := ⟨⟨mW 5 (by decide +kernel) rfl, mW 794 (by decide +kernel) rfl, ⟨by decide, by decide, by decide +kernel⟩, by decide⟩, mW 792 (by decide +kernel) rfl, mW 793 (by decide +kernel) rfl⟩
def Land_isOpen (x1 : Int32) (x2 : Int32) (h : Hp) (Q : Int32 → Hp → Prop) : Prop := Land_hasRoad x2 h (fun r1 h2 => (r1 = 0 → Q 0 h2) ∧ (¬ r1 = 0 → Land_openRoads x1 h2 (fun r3 h4 => (¬ ((r3 >>> (x2 &&& 31)) &&& 1) = 1 → Q 0 h4) ∧ (((r3 >>> (x2 &&& 31)) &&& 1) = 1 → Q 1 h4))))
set_option maxHeartbeats 4000000 in
set_option maxRecDepth 20000 in
theorem c_Land_isOpen {G : Gx}  {x1 : Int32} {x2 : Int32} {h : Hp} {Q : Int32 → Hp → Prop} (hw : Land_isOpen x1 x2 h Q) : Ct yX2_isOpen cX2_isOpen 3 (some .boolean) 2 G [.ref (gAd G 14), .int x1, .int x2] h (QI G Q) := by
  refine ct_go [(0, .ref (gAd G 14)), (1, .int x1), (2, .int x2)] (plainFor_of_name (by decide)) rfl (Nat.le_of_ble_eq_true rfl) rfl ?_
  refine g_aload_n dX2_isOpen_0 rfl rfl ?_
  refine g_iload_n dX2_isOpen_1 rfl rfl ?_
  refine g_callVI [.int x2] (ci := 2) dX2_isOpen_2 ml_X2_54 mk_X2_hasRoad rfl rfl sh14 (Nat.le_of_ble_eq_true rfl) (Nat.le_of_ble_eq_true rfl) rfl (c_Land_hasRoad hw) (fun r1 h2 hw => ?_)
  refine g_if_eq 25 dX2_isOpen_5 rfl (fun hc => ?_) (fun hc => ?_)
  · have hw := hw.1 hc
    refine g_iconst (v := 0) dX2_isOpen_25 (by decide) ?_
    exact g_zret dX2_isOpen_26 rfl hw
  · have hw := hw.2 hc
    refine g_aload_n dX2_isOpen_8 rfl rfl ?_
    refine g_iload_n dX2_isOpen_9 rfl rfl ?_
    refine g_callVI [.int x1] (ci := 2) dX2_isOpen_10 ml_X2_50 mk_X2_openRoads rfl rfl sh14 (Nat.le_of_ble_eq_true rfl) (Nat.le_of_ble_eq_true rfl) rfl (c_Land_openRoads hw) (fun r3 h4 hw => ?_)
    refine g_iload_n dX2_isOpen_13 rfl rfl ?_
    refine g_ishr dX2_isOpen_14 ?_
    refine g_iconst (v := 1) dX2_isOpen_15 (by decide) ?_
    refine g_iand dX2_isOpen_16 ?_
    refine g_iconst (v := 1) dX2_isOpen_17 (by decide) ?_
    refine g_icmp_ne 25 dX2_isOpen_18 rfl (fun hc => ?_) (fun hc => ?_)
    · have hw := hw.1 hc
      refine g_iconst (v := 0) dX2_isOpen_25 (by decide) ?_
      exact g_zret dX2_isOpen_26 rfl hw
    · have hw := hw.2 hc
      refine g_iconst (v := 1) dX2_isOpen_21 (by decide) ?_
      refine g_goto 26 dX2_isOpen_22 rfl ?_
      exact g_zret dX2_isOpen_26 rfl hw
theorem dX2_waysFrom_0 : decode cX2_waysFrom 0 = .ok (.aload_n 0, 1) := by decide +kernel
theorem dX2_waysFrom_1 : decode cX2_waysFrom 1 = .ok (.iload_n 1, 1) := by decide +kernel
theorem dX2_waysFrom_2 : decode cX2_waysFrom 2 = .ok (.iload_n 2, 1) := by decide +kernel
theorem dX2_waysFrom_3 : decode cX2_waysFrom 3 = .ok (.invokevirtual 57, 3) := by decide +kernel
theorem dX2_waysFrom_6 : decode cX2_waysFrom 6 = .ok (.istore_n 3, 1) := by decide +kernel
theorem dX2_waysFrom_7 : decode cX2_waysFrom 7 = .ok (.iload_n 3, 1) := by decide +kernel
theorem dX2_waysFrom_8 : decode cX2_waysFrom 8 = .ok (.ifCond .ne 8, 3) := by decide +kernel
theorem dX2_waysFrom_11 : decode cX2_waysFrom 11 = .ok (.ldc 61, 2) := by decide +kernel
theorem dX2_waysFrom_13 : decode cX2_waysFrom 13 = .ok (.goto 4, 3) := by decide +kernel
theorem dX2_waysFrom_16 : decode cX2_waysFrom 16 = .ok (.iload_n 3, 1) := by decide +kernel
theorem dX2_waysFrom_17 : decode cX2_waysFrom 17 = .ok (.ireturn, 1) := by decide +kernel
theorem ml_X2_57 : Cond.methodLink RX2 57 yX2_openFrom ∈ Wd := mW 799 (by decide +kernel) rfl
theorem mk_X2_openFrom : MokV yX2_openFrom cX2_openFrom 3 (some .int) 2 := ⟨⟨mW 5 (by decide +kernel) rfl, mW 770 (by decide +kernel) rfl, ⟨by decide, by decide, by decide +kernel⟩, by decide⟩, mW 768 (by decide +kernel) rfl, mW 769 (by decide +kernel) rfl⟩
theorem kc_X2_61 : Cond.constant RX2 61 (65536) ∈ Wd := mW 800 (by decide +kernel) rfl
def Land_waysFrom (x1 : Int32) (x2 : Int32) (h : Hp) (Q : Int32 → Hp → Prop) : Prop := Land_openFrom x1 x2 h (fun r1 h2 => (¬ r1 = 0 → Q r1 h2) ∧ (r1 = 0 → Q 65536 h2))
set_option maxHeartbeats 4000000 in
set_option maxRecDepth 20000 in
theorem c_Land_waysFrom {G : Gx}  {x1 : Int32} {x2 : Int32} {h : Hp} {Q : Int32 → Hp → Prop} (hw : Land_waysFrom x1 x2 h Q) : Ct yX2_waysFrom cX2_waysFrom 4 (some .int) 3 G [.ref (gAd G 14), .int x1, .int x2] h (QI G Q) := by
  refine ct_go [(0, .ref (gAd G 14)), (1, .int x1), (2, .int x2)] (plainFor_of_name (by decide)) rfl (Nat.le_of_ble_eq_true rfl) rfl ?_
  refine g_aload_n dX2_waysFrom_0 rfl rfl ?_
  refine g_iload_n dX2_waysFrom_1 rfl rfl ?_
  refine g_iload_n dX2_waysFrom_2 rfl rfl ?_
  refine g_callVI [.int x1, .int x2] (ci := 2) dX2_waysFrom_3 ml_X2_57 mk_X2_openFrom rfl rfl sh14 (Nat.le_of_ble_eq_true rfl) (Nat.le_of_ble_eq_true rfl) rfl (c_Land_openFrom hw) (fun r1 h2 hw => ?_)
  refine g_istore_n dX2_waysFrom_6 rfl (by decide) (lv1 := [(0, .ref (gAd G 14)), (1, .int x1), (2, .int x2), (3, .int r1)]) rfl ?_
  refine g_iload_n dX2_waysFrom_7 rfl rfl ?_
  refine g_if_ne 16 dX2_waysFrom_8 rfl (fun hc => ?_) (fun hc => ?_)
  · have hw := hw.1 hc
    refine g_iload_n dX2_waysFrom_16 rfl rfl ?_
    exact g_iret dX2_waysFrom_17 hw
  · have hw := hw.2 hc
    refine g_ldc dX2_waysFrom_11 kc_X2_61 ?_
    refine g_goto 17 dX2_waysFrom_13 rfl ?_
    exact g_iret dX2_waysFrom_17 hw
theorem dJ6_numberOfTrailingZeros_0f7a4_0 : decode cJ6_numberOfTrailingZeros_0f7a4 0 = .ok (.iload_n 0, 1) := by decide +kernel
theorem dJ6_numberOfTrailingZeros_0f7a4_1 : decode cJ6_numberOfTrailingZeros_0f7a4 1 = .ok (.iconst (-1), 1) := by decide +kernel
theorem dJ6_numberOfTrailingZeros_0f7a4_2 : decode cJ6_numberOfTrailingZeros_0f7a4 2 = .ok (.ixor, 1) := by decide +kernel
theorem dJ6_numberOfTrailingZeros_0f7a4_3 : decode cJ6_numberOfTrailingZeros_0f7a4 3 = .ok (.iload_n 0, 1) := by decide +kernel
theorem dJ6_numberOfTrailingZeros_0f7a4_4 : decode cJ6_numberOfTrailingZeros_0f7a4 4 = .ok (.iconst 1, 1) := by decide +kernel
theorem dJ6_numberOfTrailingZeros_0f7a4_5 : decode cJ6_numberOfTrailingZeros_0f7a4 5 = .ok (.isub, 1) := by decide +kernel
theorem dJ6_numberOfTrailingZeros_0f7a4_6 : decode cJ6_numberOfTrailingZeros_0f7a4 6 = .ok (.iand, 1) := by decide +kernel
theorem dJ6_numberOfTrailingZeros_0f7a4_7 : decode cJ6_numberOfTrailingZeros_0f7a4 7 = .ok (.istore_n 0, 1) := by decide +kernel
theorem dJ6_numberOfTrailingZeros_0f7a4_8 : decode cJ6_numberOfTrailingZeros_0f7a4 8 = .ok (.iload_n 0, 1) := by decide +kernel
theorem dJ6_numberOfTrailingZeros_0f7a4_9 : decode cJ6_numberOfTrailingZeros_0f7a4 9 = .ok (.ifCond .gt 8, 3) := by decide +kernel
theorem dJ6_numberOfTrailingZeros_0f7a4_12 : decode cJ6_numberOfTrailingZeros_0f7a4 12 = .ok (.iload_n 0, 1) := by decide +kernel
theorem dJ6_numberOfTrailingZeros_0f7a4_13 : decode cJ6_numberOfTrailingZeros_0f7a4 13 = .ok (.bipush 32, 2) := by decide +kernel
theorem dJ6_numberOfTrailingZeros_0f7a4_15 : decode cJ6_numberOfTrailingZeros_0f7a4 15 = .ok (.iand, 1) := by decide +kernel
theorem dJ6_numberOfTrailingZeros_0f7a4_16 : decode cJ6_numberOfTrailingZeros_0f7a4 16 = .ok (.ireturn, 1) := by decide +kernel
theorem dJ6_numberOfTrailingZeros_0f7a4_17 : decode cJ6_numberOfTrailingZeros_0f7a4 17 = .ok (.iconst 1, 1) := by decide +kernel
theorem dJ6_numberOfTrailingZeros_0f7a4_18 : decode cJ6_numberOfTrailingZeros_0f7a4 18 = .ok (.istore_n 1, 1) := by decide +kernel
theorem dJ6_numberOfTrailingZeros_0f7a4_19 : decode cJ6_numberOfTrailingZeros_0f7a4 19 = .ok (.iload_n 0, 1) := by decide +kernel
theorem dJ6_numberOfTrailingZeros_0f7a4_20 : decode cJ6_numberOfTrailingZeros_0f7a4 20 = .ok (.ldc_w 264, 3) := by decide +kernel
theorem dJ6_numberOfTrailingZeros_0f7a4_23 : decode cJ6_numberOfTrailingZeros_0f7a4 23 = .ok (.if_icmp .le 11, 3) := by decide +kernel
theorem dJ6_numberOfTrailingZeros_0f7a4_26 : decode cJ6_numberOfTrailingZeros_0f7a4 26 = .ok (.iinc 1 16, 3) := by decide +kernel
theorem dJ6_numberOfTrailingZeros_0f7a4_29 : decode cJ6_numberOfTrailingZeros_0f7a4 29 = .ok (.iload_n 0, 1) := by decide +kernel
theorem dJ6_numberOfTrailingZeros_0f7a4_30 : decode cJ6_numberOfTrailingZeros_0f7a4 30 = .ok (.bipush 16, 2) := by decide +kernel
theorem dJ6_numberOfTrailingZeros_0f7a4_32 : decode cJ6_numberOfTrailingZeros_0f7a4 32 = .ok (.iushr, 1) := by decide +kernel
theorem dJ6_numberOfTrailingZeros_0f7a4_33 : decode cJ6_numberOfTrailingZeros_0f7a4 33 = .ok (.istore_n 0, 1) := by decide +kernel
theorem dJ6_numberOfTrailingZeros_0f7a4_34 : decode cJ6_numberOfTrailingZeros_0f7a4 34 = .ok (.iload_n 0, 1) := by decide +kernel
theorem dJ6_numberOfTrailingZeros_0f7a4_35 : decode cJ6_numberOfTrailingZeros_0f7a4 35 = .ok (.sipush 256, 3) := by decide +kernel
theorem dJ6_numberOfTrailingZeros_0f7a4_38 : decode cJ6_numberOfTrailingZeros_0f7a4 38 = .ok (.if_icmp .le 11, 3) := by decide +kernel
theorem dJ6_numberOfTrailingZeros_0f7a4_41 : decode cJ6_numberOfTrailingZeros_0f7a4 41 = .ok (.iinc 1 8, 3) := by decide +kernel
theorem dJ6_numberOfTrailingZeros_0f7a4_44 : decode cJ6_numberOfTrailingZeros_0f7a4 44 = .ok (.iload_n 0, 1) := by decide +kernel
theorem dJ6_numberOfTrailingZeros_0f7a4_45 : decode cJ6_numberOfTrailingZeros_0f7a4 45 = .ok (.bipush 8, 2) := by decide +kernel
theorem dJ6_numberOfTrailingZeros_0f7a4_47 : decode cJ6_numberOfTrailingZeros_0f7a4 47 = .ok (.iushr, 1) := by decide +kernel
theorem dJ6_numberOfTrailingZeros_0f7a4_48 : decode cJ6_numberOfTrailingZeros_0f7a4 48 = .ok (.istore_n 0, 1) := by decide +kernel
theorem dJ6_numberOfTrailingZeros_0f7a4_49 : decode cJ6_numberOfTrailingZeros_0f7a4 49 = .ok (.iload_n 0, 1) := by decide +kernel
theorem dJ6_numberOfTrailingZeros_0f7a4_50 : decode cJ6_numberOfTrailingZeros_0f7a4 50 = .ok (.bipush 16, 2) := by decide +kernel
theorem dJ6_numberOfTrailingZeros_0f7a4_52 : decode cJ6_numberOfTrailingZeros_0f7a4 52 = .ok (.if_icmp .le 10, 3) := by decide +kernel
theorem dJ6_numberOfTrailingZeros_0f7a4_55 : decode cJ6_numberOfTrailingZeros_0f7a4 55 = .ok (.iinc 1 4, 3) := by decide +kernel
theorem dJ6_numberOfTrailingZeros_0f7a4_58 : decode cJ6_numberOfTrailingZeros_0f7a4 58 = .ok (.iload_n 0, 1) := by decide +kernel
theorem dJ6_numberOfTrailingZeros_0f7a4_59 : decode cJ6_numberOfTrailingZeros_0f7a4 59 = .ok (.iconst 4, 1) := by decide +kernel
theorem dJ6_numberOfTrailingZeros_0f7a4_60 : decode cJ6_numberOfTrailingZeros_0f7a4 60 = .ok (.iushr, 1) := by decide +kernel
theorem dJ6_numberOfTrailingZeros_0f7a4_61 : decode cJ6_numberOfTrailingZeros_0f7a4 61 = .ok (.istore_n 0, 1) := by decide +kernel
theorem dJ6_numberOfTrailingZeros_0f7a4_62 : decode cJ6_numberOfTrailingZeros_0f7a4 62 = .ok (.iload_n 0, 1) := by decide +kernel
theorem dJ6_numberOfTrailingZeros_0f7a4_63 : decode cJ6_numberOfTrailingZeros_0f7a4 63 = .ok (.iconst 4, 1) := by decide +kernel
theorem dJ6_numberOfTrailingZeros_0f7a4_64 : decode cJ6_numberOfTrailingZeros_0f7a4 64 = .ok (.if_icmp .le 10, 3) := by decide +kernel
theorem dJ6_numberOfTrailingZeros_0f7a4_67 : decode cJ6_numberOfTrailingZeros_0f7a4 67 = .ok (.iinc 1 2, 3) := by decide +kernel
theorem dJ6_numberOfTrailingZeros_0f7a4_70 : decode cJ6_numberOfTrailingZeros_0f7a4 70 = .ok (.iload_n 0, 1) := by decide +kernel
theorem dJ6_numberOfTrailingZeros_0f7a4_71 : decode cJ6_numberOfTrailingZeros_0f7a4 71 = .ok (.iconst 2, 1) := by decide +kernel
theorem dJ6_numberOfTrailingZeros_0f7a4_72 : decode cJ6_numberOfTrailingZeros_0f7a4 72 = .ok (.iushr, 1) := by decide +kernel
theorem dJ6_numberOfTrailingZeros_0f7a4_73 : decode cJ6_numberOfTrailingZeros_0f7a4 73 = .ok (.istore_n 0, 1) := by decide +kernel
theorem dJ6_numberOfTrailingZeros_0f7a4_74 : decode cJ6_numberOfTrailingZeros_0f7a4 74 = .ok (.iload_n 1, 1) := by decide +kernel
theorem dJ6_numberOfTrailingZeros_0f7a4_75 : decode cJ6_numberOfTrailingZeros_0f7a4 75 = .ok (.iload_n 0, 1) := by decide +kernel
theorem dJ6_numberOfTrailingZeros_0f7a4_76 : decode cJ6_numberOfTrailingZeros_0f7a4 76 = .ok (.iconst 1, 1) := by decide +kernel
theorem dJ6_numberOfTrailingZeros_0f7a4_77 : decode cJ6_numberOfTrailingZeros_0f7a4 77 = .ok (.iushr, 1) := by decide +kernel
theorem dJ6_numberOfTrailingZeros_0f7a4_78 : decode cJ6_numberOfTrailingZeros_0f7a4 78 = .ok (.iadd, 1) := by decide +kernel
theorem dJ6_numberOfTrailingZeros_0f7a4_79 : decode cJ6_numberOfTrailingZeros_0f7a4 79 = .ok (.ireturn, 1) := by decide +kernel
theorem kc_J6_264 : Cond.constant RJ6 264 (65536) ∈ Wd := mW 804 (by decide +kernel) rfl
def J6_numberOfTrailingZeros_0f7a4 (x0 : Int32) (h : Hp) (Q : Int32 → Hp → Prop) : Prop := ∀ v1 : Int32, v1 = ((x0 ^^^ (-1)) &&& (x0 - 1)) → (0 < v1 → ∀ J34 : Int32 → Int32 → Hp → Prop, J34 = (fun x0_2 x1_3 h4 => ∀ J49 : Int32 → Int32 → Hp → Prop, J49 = (fun x0_5 x1_6 h7 => ∀ J62 : Int32 → Int32 → Hp → Prop, J62 = (fun x0_8 x1_9 h10 => ∀ J74 : Int32 → Int32 → Hp → Prop, J74 = (fun x0_11 x1_12 h13 => Q (x1_12 + (((x0_11).toUInt32 >>> ((1).toUInt32 &&& Int32.toUInt32 31)).toInt32)) h13) → (x0_8 ≤ 4 → J74 x0_8 x1_9 h10) ∧ (¬ x0_8 ≤ 4 → ∀ v14 : Int32, v14 = (x1_9 + 2) → ∀ v15 : Int32, v15 = (((x0_8).toUInt32 >>> ((2).toUInt32 &&& Int32.toUInt32 31)).toInt32) → J74 v15 v14 h10)) → (x0_5 ≤ 16 → J62 x0_5 x1_6 h7) ∧ (¬ x0_5 ≤ 16 → ∀ v16 : Int32, v16 = (x1_6 + 4) → ∀ v17 : Int32, v17 = (((x0_5).toUInt32 >>> ((4).toUInt32 &&& Int32.toUInt32 31)).toInt32) → J62 v17 v16 h7)) → (x0_2 ≤ 256 → J49 x0_2 x1_3 h4) ∧ (¬ x0_2 ≤ 256 → ∀ v18 : Int32, v18 = (x1_3 + 8) → ∀ v19 : Int32, v19 = (((x0_2).toUInt32 >>> ((8).toUInt32 &&& Int32.toUInt32 31)).toInt32) → J49 v19 v18 h4)) → (v1 ≤ 65536 → J34 v1 1 h) ∧ (¬ v1 ≤ 65536 → ∀ v20 : Int32, v20 = (1 + 16) → ∀ v21 : Int32, v21 = (((v1).toUInt32 >>> ((16).toUInt32 &&& Int32.toUInt32 31)).toInt32) → J34 v21 v20 h)) ∧ (¬ 0 < v1 → Q (v1 &&& 32) h)
set_option maxHeartbeats 4000000 in
set_option maxRecDepth 20000 in
theorem c_J6_numberOfTrailingZeros_0f7a4 {G : Gx}  {x0 : Int32} {h : Hp} {Q : Int32 → Hp → Prop} (hw : J6_numberOfTrailingZeros_0f7a4 x0 h Q) : Ct yJ6_numberOfTrailingZeros_0f7a4 cJ6_numberOfTrailingZeros_0f7a4 2 (some .int) 1 G [.int x0] h (QI G Q) := by
  refine ct_go [(0, .int x0)] (plainFor_of_name (by decide)) rfl (Nat.le_of_ble_eq_true rfl) rfl ?_
  refine g_iload_n dJ6_numberOfTrailingZeros_0f7a4_0 rfl rfl ?_
  refine g_iconst (v := (-1)) dJ6_numberOfTrailingZeros_0f7a4_1 (by decide) ?_
  refine g_ixor dJ6_numberOfTrailingZeros_0f7a4_2 ?_
  refine g_iload_n dJ6_numberOfTrailingZeros_0f7a4_3 rfl rfl ?_
  refine g_iconst (v := 1) dJ6_numberOfTrailingZeros_0f7a4_4 (by decide) ?_
  refine g_isub dJ6_numberOfTrailingZeros_0f7a4_5 ?_
  refine g_iand dJ6_numberOfTrailingZeros_0f7a4_6 ?_
  refine g_topi (fun v1 ev1 => ?_)
  have hw := hw v1 ev1
  refine g_istore_n dJ6_numberOfTrailingZeros_0f7a4_7 rfl (by decide) (lv1 := [(0, .int v1)]) rfl ?_
  refine g_iload_n dJ6_numberOfTrailingZeros_0f7a4_8 rfl rfl ?_
  refine g_if_gt 17 dJ6_numberOfTrailingZeros_0f7a4_9 rfl (fun hc => ?_) (fun hc => ?_)
  · have hw := hw.1 hc
    refine g_iconst (v := 1) dJ6_numberOfTrailingZeros_0f7a4_17 (by decide) ?_
    refine g_istore_n dJ6_numberOfTrailingZeros_0f7a4_18 rfl (by decide) (lv1 := [(0, .int v1), (1, .int 1)]) rfl ?_
    refine g_iload_n dJ6_numberOfTrailingZeros_0f7a4_19 rfl rfl ?_
    refine g_ldcw dJ6_numberOfTrailingZeros_0f7a4_20 kc_J6_264 ?_
    refine jn_el hw (fun J34 eJ34 hw => ?_)
    have hJ34 : ∀ (x0_2 : Int32) (x1_3 : Int32) (h4 : Hp), J34 x0_2 x1_3 h4 → Go cJ6_numberOfTrailingZeros_0f7a4 2 RJ6 (some .int) 1 G (QI G Q) 34 [(0, .int x0_2), (1, .int x1_3)] [] h4 := by
      intro x0_2 x1_3 h4 hw
      subst eJ34
      refine g_iload_n dJ6_numberOfTrailingZeros_0f7a4_34 rfl rfl ?_
      refine g_sipush (v := 256) dJ6_numberOfTrailingZeros_0f7a4_35 (by decide) ?_
      refine jn_el hw (fun J49 eJ49 hw => ?_)
      have hJ49 : ∀ (x0_5 : Int32) (x1_6 : Int32) (h7 : Hp), J49 x0_5 x1_6 h7 → Go cJ6_numberOfTrailingZeros_0f7a4 2 RJ6 (some .int) 1 G (QI G Q) 49 [(0, .int x0_5), (1, .int x1_6)] [] h7 := by
        intro x0_5 x1_6 h7 hw
        subst eJ49
        refine g_iload_n dJ6_numberOfTrailingZeros_0f7a4_49 rfl rfl ?_
        refine g_bipush (v := 16) dJ6_numberOfTrailingZeros_0f7a4_50 (by decide) ?_
        refine jn_el hw (fun J62 eJ62 hw => ?_)
        have hJ62 : ∀ (x0_8 : Int32) (x1_9 : Int32) (h10 : Hp), J62 x0_8 x1_9 h10 → Go cJ6_numberOfTrailingZeros_0f7a4 2 RJ6 (some .int) 1 G (QI G Q) 62 [(0, .int x0_8), (1, .int x1_9)] [] h10 := by
          intro x0_8 x1_9 h10 hw
          subst eJ62
          refine g_iload_n dJ6_numberOfTrailingZeros_0f7a4_62 rfl rfl ?_
          refine g_iconst (v := 4) dJ6_numberOfTrailingZeros_0f7a4_63 (by decide) ?_
          refine jn_el hw (fun J74 eJ74 hw => ?_)
          have hJ74 : ∀ (x0_11 : Int32) (x1_12 : Int32) (h13 : Hp), J74 x0_11 x1_12 h13 → Go cJ6_numberOfTrailingZeros_0f7a4 2 RJ6 (some .int) 1 G (QI G Q) 74 [(0, .int x0_11), (1, .int x1_12)] [] h13 := by
            intro x0_11 x1_12 h13 hw
            subst eJ74
            refine g_iload_n dJ6_numberOfTrailingZeros_0f7a4_74 rfl rfl ?_
            refine g_iload_n dJ6_numberOfTrailingZeros_0f7a4_75 rfl rfl ?_
            refine g_iconst (v := 1) dJ6_numberOfTrailingZeros_0f7a4_76 (by decide) ?_
            refine g_iushr dJ6_numberOfTrailingZeros_0f7a4_77 ?_
            refine g_iadd dJ6_numberOfTrailingZeros_0f7a4_78 ?_
            exact g_iret dJ6_numberOfTrailingZeros_0f7a4_79 hw
          refine g_icmp_le 74 dJ6_numberOfTrailingZeros_0f7a4_64 rfl (fun hc => ?_) (fun hc => ?_)
          · have hw := hw.1 hc
            exact hJ74 _ _ _ hw
          · have hw := hw.2 hc
            obtain ⟨v14, ev14⟩ : ∃ y : Int32, y = (x1_9 + 2) := ⟨_, rfl⟩
            have hw := hw v14 ev14
            refine g_iinc dJ6_numberOfTrailingZeros_0f7a4_67 rfl (by rw [ev14]; rfl) (by decide) (lv1 := [(0, .int x0_8), (1, .int v14)]) rfl ?_
            refine g_iload_n dJ6_numberOfTrailingZeros_0f7a4_70 rfl rfl ?_
            refine g_iconst (v := 2) dJ6_numberOfTrailingZeros_0f7a4_71 (by decide) ?_
            refine g_iushr dJ6_numberOfTrailingZeros_0f7a4_72 ?_
            refine g_topi (fun v15 ev15 => ?_)
            have hw := hw v15 ev15
            refine g_istore_n dJ6_numberOfTrailingZeros_0f7a4_73 rfl (by decide) (lv1 := [(0, .int v15), (1, .int v14)]) rfl ?_
            exact hJ74 _ _ _ hw
        refine g_icmp_le 62 dJ6_numberOfTrailingZeros_0f7a4_52 rfl (fun hc => ?_) (fun hc => ?_)
        · have hw := hw.1 hc
          exact hJ62 _ _ _ hw
        · have hw := hw.2 hc
          obtain ⟨v16, ev16⟩ : ∃ y : Int32, y = (x1_6 + 4) := ⟨_, rfl⟩
          have hw := hw v16 ev16
          refine g_iinc dJ6_numberOfTrailingZeros_0f7a4_55 rfl (by rw [ev16]; rfl) (by decide) (lv1 := [(0, .int x0_5), (1, .int v16)]) rfl ?_
          refine g_iload_n dJ6_numberOfTrailingZeros_0f7a4_58 rfl rfl ?_
          refine g_iconst (v := 4) dJ6_numberOfTrailingZeros_0f7a4_59 (by decide) ?_
          refine g_iushr dJ6_numberOfTrailingZeros_0f7a4_60 ?_
          refine g_topi (fun v17 ev17 => ?_)
          have hw := hw v17 ev17
          refine g_istore_n dJ6_numberOfTrailingZeros_0f7a4_61 rfl (by decide) (lv1 := [(0, .int v17), (1, .int v16)]) rfl ?_
          exact hJ62 _ _ _ hw
      refine g_icmp_le 49 dJ6_numberOfTrailingZeros_0f7a4_38 rfl (fun hc => ?_) (fun hc => ?_)
      · have hw := hw.1 hc
        exact hJ49 _ _ _ hw
      · have hw := hw.2 hc
        obtain ⟨v18, ev18⟩ : ∃ y : Int32, y = (x1_3 + 8) := ⟨_, rfl⟩
        have hw := hw v18 ev18
        refine g_iinc dJ6_numberOfTrailingZeros_0f7a4_41 rfl (by rw [ev18]; rfl) (by decide) (lv1 := [(0, .int x0_2), (1, .int v18)]) rfl ?_
        refine g_iload_n dJ6_numberOfTrailingZeros_0f7a4_44 rfl rfl ?_
        refine g_bipush (v := 8) dJ6_numberOfTrailingZeros_0f7a4_45 (by decide) ?_
        refine g_iushr dJ6_numberOfTrailingZeros_0f7a4_47 ?_
        refine g_topi (fun v19 ev19 => ?_)
        have hw := hw v19 ev19
        refine g_istore_n dJ6_numberOfTrailingZeros_0f7a4_48 rfl (by decide) (lv1 := [(0, .int v19), (1, .int v18)]) rfl ?_
        exact hJ49 _ _ _ hw
    refine g_icmp_le 34 dJ6_numberOfTrailingZeros_0f7a4_23 rfl (fun hc => ?_) (fun hc => ?_)
    · have hw := hw.1 hc
      exact hJ34 _ _ _ hw
    · have hw := hw.2 hc
      obtain ⟨v20, ev20⟩ : ∃ y : Int32, y = (1 + 16) := ⟨_, rfl⟩
      have hw := hw v20 ev20
      refine g_iinc dJ6_numberOfTrailingZeros_0f7a4_26 rfl (by rw [ev20]; rfl) (by decide) (lv1 := [(0, .int v1), (1, .int v20)]) rfl ?_
      refine g_iload_n dJ6_numberOfTrailingZeros_0f7a4_29 rfl rfl ?_
      refine g_bipush (v := 16) dJ6_numberOfTrailingZeros_0f7a4_30 (by decide) ?_
      refine g_iushr dJ6_numberOfTrailingZeros_0f7a4_32 ?_
      refine g_topi (fun v21 ev21 => ?_)
      have hw := hw v21 ev21
      refine g_istore_n dJ6_numberOfTrailingZeros_0f7a4_33 rfl (by decide) (lv1 := [(0, .int v21), (1, .int v20)]) rfl ?_
      exact hJ34 _ _ _ hw
  · have hw := hw.2 hc
    refine g_iload_n dJ6_numberOfTrailingZeros_0f7a4_12 rfl rfl ?_
    refine g_bipush (v := 32) dJ6_numberOfTrailingZeros_0f7a4_13 (by decide) ?_
    refine g_iand dJ6_numberOfTrailingZeros_0f7a4_15 ?_
    exact g_iret dJ6_numberOfTrailingZeros_0f7a4_16 hw
theorem dX6_wayByPlan_0 : decode cX6_wayByPlan 0 = .ok (.aload_n 0, 1) := by decide +kernel
theorem dX6_wayByPlan_1 : decode cX6_wayByPlan 1 = .ok (.iload_n 2, 1) := by decide +kernel
theorem dX6_wayByPlan_2 : decode cX6_wayByPlan 2 = .ok (.invokevirtual 41, 3) := by decide +kernel
theorem dX6_wayByPlan_5 : decode cX6_wayByPlan 5 = .ok (.istore_n 3, 1) := by decide +kernel
theorem dX6_wayByPlan_6 : decode cX6_wayByPlan 6 = .ok (.aload_n 1, 1) := by decide +kernel
theorem dX6_wayByPlan_7 : decode cX6_wayByPlan 7 = .ok (.aload_n 0, 1) := by decide +kernel
theorem dX6_wayByPlan_8 : decode cX6_wayByPlan 8 = .ok (.getfield 22, 3) := by decide +kernel
theorem dX6_wayByPlan_11 : decode cX6_wayByPlan 11 = .ok (.iload_n 3, 1) := by decide +kernel
theorem dX6_wayByPlan_12 : decode cX6_wayByPlan 12 = .ok (.invokevirtual 45, 3) := by decide +kernel
theorem dX6_wayByPlan_15 : decode cX6_wayByPlan 15 = .ok (.ifCond .eq 5, 3) := by decide +kernel
theorem dX6_wayByPlan_18 : decode cX6_wayByPlan 18 = .ok (.iload_n 3, 1) := by decide +kernel
theorem dX6_wayByPlan_19 : decode cX6_wayByPlan 19 = .ok (.ireturn, 1) := by decide +kernel
theorem dX6_wayByPlan_20 : decode cX6_wayByPlan 20 = .ok (.aload_n 1, 1) := by decide +kernel
theorem dX6_wayByPlan_21 : decode cX6_wayByPlan 21 = .ok (.aload_n 0, 1) := by decide +kernel
theorem dX6_wayByPlan_22 : decode cX6_wayByPlan 22 = .ok (.getfield 22, 3) := by decide +kernel
theorem dX6_wayByPlan_25 : decode cX6_wayByPlan 25 = .ok (.iload_n 2, 1) := by decide +kernel
theorem dX6_wayByPlan_26 : decode cX6_wayByPlan 26 = .ok (.invokevirtual 51, 3) := by decide +kernel
theorem dX6_wayByPlan_29 : decode cX6_wayByPlan 29 = .ok (.invokestatic 55, 3) := by decide +kernel
theorem dX6_wayByPlan_32 : decode cX6_wayByPlan 32 = .ok (.ireturn, 1) := by decide +kernel
theorem ml_X6_41 : Cond.methodLink RX6 41 yX6_planOf ∈ Wd := mW 786 (by decide +kernel) rfl
theorem mk_X6_planOf : MokV yX6_planOf cX6_planOf 2 (some .int) 1 := ⟨⟨mW 6 (by decide +kernel) rfl, mW 766 (by decide +kernel) rfl, ⟨by decide, by decide, by decide +kernel⟩, by decide⟩, mW 764 (by decide +kernel) rfl, mW 765 (by decide +kernel) rfl⟩
theorem ml_X6_45 : Cond.methodLink RX6 45 yX2_isOpen ∈ Wd := mW 787 (by decide +kernel) rfl
theorem mk_X2_isOpen : MokV yX2_isOpen cX2_isOpen 3 (some .boolean) 2 := ⟨⟨mW 5 (by decide +kernel) rfl, mW 790 (by decide +kernel) rfl, ⟨by decide, by decide, by decide +kernel⟩, by decide⟩, mW 788 (by decide +kernel) rfl, mW 789 (by decide +kernel) rfl⟩
theorem ml_X6_51 : Cond.methodLink RX6 51 yX2_waysFrom ∈ Wd := mW 795 (by decide +kernel) rfl
theorem mk_X2_waysFrom : MokV yX2_waysFrom cX2_waysFrom 4 (some .int) 2 := ⟨⟨mW 5 (by decide +kernel) rfl, mW 798 (by decide +kernel) rfl, ⟨by decide, by decide, by decide +kernel⟩, by decide⟩, mW 796 (by decide +kernel) rfl, mW 797 (by decide +kernel) rfl⟩
theorem ml_X6_55 : Cond.methodLink RX6 55 yJ6_numberOfTrailingZeros_0f7a4 ∈ Wd := mW 801 (by decide +kernel) rfl
theorem mk_J6_numberOfTrailingZeros_0f7a4 : MokS yJ6_numberOfTrailingZeros_0f7a4 cJ6_numberOfTrailingZeros_0f7a4 2 (some .int) 1 := ⟨⟨mW 21 (by decide +kernel) rfl, mW 803 (by decide +kernel) rfl, ⟨by decide, by decide, by decide +kernel⟩, by decide⟩, mW 802 (by decide +kernel) rfl⟩
def Stand_wayByPlan (o0 : Nat) (x2 : Int32) (h : Hp) (Q : Int32 → Hp → Prop) : Prop := Stand_planOf o0 x2 h (fun r1 h2 => Land_isOpen (gI h2 o0 3) r1 h2 (fun r3 h4 => (r3 = 0 → Land_waysFrom (gI h4 o0 3) x2 h4 (fun r5 h6 => J6_numberOfTrailingZeros_0f7a4 r5 h6 (fun r7 h8 => Q r7 h8))) ∧ (¬ r3 = 0 → Q r1 h4)))
set_option maxHeartbeats 4000000 in
set_option maxRecDepth 20000 in
theorem c_Stand_wayByPlan {G : Gx} {o0 : Nat} (ho0 : SH o0 = .inl 6) {x2 : Int32} {h : Hp} {Q : Int32 → Hp → Prop} (hw : Stand_wayByPlan o0 x2 h Q) : Ct yX6_wayByPlan cX6_wayByPlan 4 (some .int) 4 G [.ref (gAd G o0), .ref (gAd G 14), .int x2] h (QI G Q) := by
  refine ct_go [(0, .ref (gAd G o0)), (1, .ref (gAd G 14)), (2, .int x2)] (plainFor_of_name (by decide)) rfl (Nat.le_of_ble_eq_true rfl) rfl ?_
  refine g_aload_n dX6_wayByPlan_0 rfl rfl ?_
  refine g_iload_n dX6_wayByPlan_1 rfl rfl ?_
  refine g_callVI [.int x2] (ci := 6) dX6_wayByPlan_2 ml_X6_41 mk_X6_planOf rfl rfl ho0 (Nat.le_of_ble_eq_true rfl) (Nat.le_of_ble_eq_true rfl) rfl (c_Stand_planOf ho0 hw) (fun r1 h2 hw => ?_)
  refine g_istore_n dX6_wayByPlan_5 rfl (by decide) (lv1 := [(0, .ref (gAd G o0)), (1, .ref (gAd G 14)), (2, .int x2), (3, .int r1)]) rfl ?_
  refine g_aload_n dX6_wayByPlan_6 rfl rfl ?_
  refine g_aload_n dX6_wayByPlan_7 rfl rfl ?_
  refine g_getI dX6_wayByPlan_8 fl_X6_22 ho0 rfl ?_
  refine g_iload_n dX6_wayByPlan_11 rfl rfl ?_
  refine g_callVI [.int (gI h2 o0 3), .int r1] (ci := 2) dX6_wayByPlan_12 ml_X6_45 mk_X2_isOpen rfl rfl sh14 (Nat.le_of_ble_eq_true rfl) (Nat.le_of_ble_eq_true rfl) rfl (c_Land_isOpen hw) (fun r3 h4 hw => ?_)
  refine g_if_eq 20 dX6_wayByPlan_15 rfl (fun hc => ?_) (fun hc => ?_)
  · have hw := hw.1 hc
    refine g_aload_n dX6_wayByPlan_20 rfl rfl ?_
    refine g_aload_n dX6_wayByPlan_21 rfl rfl ?_
    refine g_getI dX6_wayByPlan_22 fl_X6_22 ho0 rfl ?_
    refine g_iload_n dX6_wayByPlan_25 rfl rfl ?_
    refine g_callVI [.int (gI h4 o0 3), .int x2] (ci := 2) dX6_wayByPlan_26 ml_X6_51 mk_X2_waysFrom rfl rfl sh14 (Nat.le_of_ble_eq_true rfl) (Nat.le_of_ble_eq_true rfl) rfl (c_Land_waysFrom hw) (fun r5 h6 hw => ?_)
    refine g_callSI [.int r5] dX6_wayByPlan_29 ml_X6_55 mk_J6_numberOfTrailingZeros_0f7a4 rfl (Nat.le_of_ble_eq_true rfl) (Nat.le_of_ble_eq_true rfl) rfl (c_J6_numberOfTrailingZeros_0f7a4 hw) (fun r7 h8 hw => ?_)
    exact g_iret dX6_wayByPlan_32 hw
  · have hw := hw.2 hc
    refine g_iload_n dX6_wayByPlan_18 rfl rfl ?_
    exact g_iret dX6_wayByPlan_19 hw
theorem dX11_place_0 : decode cX11_place 0 = .ok (.aload_n 0, 1) := by decide +kernel
theorem dX11_place_1 : decode cX11_place 1 = .ok (.getfield 27, 3) := by decide +kernel
theorem dX11_place_4 : decode cX11_place 4 = .ok (.iload_n 1, 1) := by decide +kernel
theorem dX11_place_5 : decode cX11_place 5 = .ok (.invokevirtual 129, 3) := by decide +kernel
theorem dX11_place_8 : decode cX11_place 8 = .ok (.ifCond .ne 6, 3) := by decide +kernel
theorem dX11_place_11 : decode cX11_place 11 = .ok (.bipush (-2), 2) := by decide +kernel
theorem dX11_place_13 : decode cX11_place 13 = .ok (.ireturn, 1) := by decide +kernel
theorem dX11_place_14 : decode cX11_place 14 = .ok (.iload_n 2, 1) := by decide +kernel
theorem dX11_place_15 : decode cX11_place 15 = .ok (.tableswitch 79 0 3 #[29, 38, 47, 66], 29) := by decide +kernel
theorem dX11_place_44 : decode cX11_place 44 = .ok (.aload_n 0, 1) := by decide +kernel
theorem dX11_place_45 : decode cX11_place 45 = .ok (.getfield 27, 3) := by decide +kernel
theorem dX11_place_48 : decode cX11_place 48 = .ok (.iload_n 1, 1) := by decide +kernel
theorem dX11_place_49 : decode cX11_place 49 = .ok (.invokevirtual 133, 3) := by decide +kernel
theorem dX11_place_52 : decode cX11_place 52 = .ok (.ireturn, 1) := by decide +kernel
theorem dX11_place_53 : decode cX11_place 53 = .ok (.aload_n 0, 1) := by decide +kernel
theorem dX11_place_54 : decode cX11_place 54 = .ok (.getfield 34, 3) := by decide +kernel
theorem dX11_place_57 : decode cX11_place 57 = .ok (.iload_n 1, 1) := by decide +kernel
theorem dX11_place_58 : decode cX11_place 58 = .ok (.invokevirtual 137, 3) := by decide +kernel
theorem dX11_place_61 : decode cX11_place 61 = .ok (.ireturn, 1) := by decide +kernel
theorem dX11_place_62 : decode cX11_place 62 = .ok (.aload_n 0, 1) := by decide +kernel
theorem dX11_place_63 : decode cX11_place 63 = .ok (.getfield 27, 3) := by decide +kernel
theorem dX11_place_66 : decode cX11_place 66 = .ok (.aload_n 0, 1) := by decide +kernel
theorem dX11_place_67 : decode cX11_place 67 = .ok (.getfield 34, 3) := by decide +kernel
theorem dX11_place_70 : decode cX11_place 70 = .ok (.getfield 140, 3) := by decide +kernel
theorem dX11_place_73 : decode cX11_place 73 = .ok (.iload_n 1, 1) := by decide +kernel
theorem dX11_place_74 : decode cX11_place 74 = .ok (.invokevirtual 141, 3) := by decide +kernel
theorem dX11_place_77 : decode cX11_place 77 = .ok (.invokestatic 145, 3) := by decide +kernel
theorem dX11_place_80 : decode cX11_place 80 = .ok (.ireturn, 1) := by decide +kernel
theorem dX11_place_81 : decode cX11_place 81 = .ok (.aload_n 0, 1) := by decide +kernel
theorem dX11_place_82 : decode cX11_place 82 = .ok (.getfield 34, 3) := by decide +kernel
theorem dX11_place_85 : decode cX11_place 85 = .ok (.aload_n 0, 1) := by decide +kernel
theorem dX11_place_86 : decode cX11_place 86 = .ok (.getfield 27, 3) := by decide +kernel
theorem dX11_place_89 : decode cX11_place 89 = .ok (.iload_n 1, 1) := by decide +kernel
theorem dX11_place_90 : decode cX11_place 90 = .ok (.invokevirtual 150, 3) := by decide +kernel
theorem dX11_place_93 : decode cX11_place 93 = .ok (.ireturn, 1) := by decide +kernel
theorem dX11_place_94 : decode cX11_place 94 = .ok (.bipush (-2), 2) := by decide +kernel
theorem dX11_place_96 : decode cX11_place 96 = .ok (.ireturn, 1) := by decide +kernel
theorem ml_X11_129 : Cond.methodLink RX11 129 yX2_hasPlace ∈ Wd := mW 758 (by decide +kernel) rfl
theorem ml_X11_133 : Cond.methodLink RX11 133 yX2_owner ∈ Wd := mW 759 (by decide +kernel) rfl
theorem mk_X2_owner : MokV yX2_owner cX2_owner 2 (some .int) 1 := ⟨⟨mW 5 (by decide +kernel) rfl, mW 762 (by decide +kernel) rfl, ⟨by decide, by decide, by decide +kernel⟩, by decide⟩, mW 760 (by decide +kernel) rfl, mW 761 (by decide +kernel) rfl⟩
theorem ml_X11_137 : Cond.methodLink RX11 137 yX6_planOf ∈ Wd := mW 763 (by decide +kernel) rfl
theorem fl_X11_140 : FLk RX11 140 6 3 := ⟨_, rfl, by decide, mW 206 (by decide +kernel) rfl⟩
theorem ml_X11_141 : Cond.methodLink RX11 141 yX2_openFrom ∈ Wd := mW 767 (by decide +kernel) rfl
theorem ml_X11_145 : Cond.methodLink RX11 145 yJ6_bitCount_0f7a4 ∈ Wd := mW 776 (by decide +kernel) rfl
theorem mk_J6_bitCount_0f7a4 : MokS yJ6_bitCount_0f7a4 cJ6_bitCount_0f7a4 1 (some .int) 1 := ⟨⟨mW 21 (by decide +kernel) rfl, mW 778 (by decide +kernel) rfl, ⟨by decide, by decide, by decide +kernel⟩, by decide⟩, mW 777 (by decide +kernel) rfl⟩
theorem ml_X11_150 : Cond.methodLink RX11 150 yX6_wayByPlan ∈ Wd := mW 782 (by decide +kernel) rfl
theorem mk_X6_wayByPlan : MokV yX6_wayByPlan cX6_wayByPlan 4 (some .int) 2 := ⟨⟨mW 6 (by decide +kernel) rfl, mW 785 (by decide +kernel) rfl, ⟨by decide, by decide, by decide +kernel⟩, by decide⟩, mW 783 (by decide +kernel) rfl, mW 784 (by decide +kernel) rfl⟩
def C_place (x1 : Int32) (x2 : Int32) (h : Hp) (Q : Int32 → Hp → Prop) : Prop := Land_hasPlace x1 h (fun r1 h2 => (¬ r1 = 0 → (x2.toInt < 0 ∨ 3 < x2.toInt → Q (-2) h2) ∧ (x2 = 0 → Land_owner x1 h2 (fun r3 h4 => Q r3 h4)) ∧ (x2 = 1 → Stand_planOf 20 x1 h2 (fun r5 h6 => Q r5 h6)) ∧ (x2 = 2 → Land_openFrom (gI h2 20 3) x1 h2 (fun r7 h8 => J6_bitCount_0f7a4 r7 h8 (fun r9 h10 => Q r9 h10))) ∧ (x2 = 3 → Stand_wayByPlan 20 x1 h2 (fun r11 h12 => Q r11 h12))) ∧ (r1 = 0 → Q (-2) h2))
set_option maxHeartbeats 4000000 in
set_option maxRecDepth 20000 in
theorem c_C_place {G : Gx}  {x1 : Int32} {x2 : Int32} {h : Hp} {Q : Int32 → Hp → Prop} (hw : C_place x1 x2 h Q) : Ct yX11_place cX11_place 3 (some .int) 5 G [.ref (gAd G 0), .int x1, .int x2] h (QI G Q) := by
  refine ct_go [(0, .ref (gAd G 0)), (1, .int x1), (2, .int x2)] (plainFor_of_name (by decide)) rfl (Nat.le_of_ble_eq_true rfl) rfl ?_
  refine g_aload_n dX11_place_0 rfl rfl ?_
  refine g_getO dX11_place_1 fl_X11_27 sh0 rfl ?_
  refine g_iload_n dX11_place_4 rfl rfl ?_
  refine g_callVI [.int x1] (ci := 2) dX11_place_5 ml_X11_129 mk_X2_hasPlace rfl rfl sh14 (Nat.le_of_ble_eq_true rfl) (Nat.le_of_ble_eq_true rfl) rfl (c_Land_hasPlace hw) (fun r1 h2 hw => ?_)
  refine g_if_ne 14 dX11_place_8 rfl (fun hc => ?_) (fun hc => ?_)
  · have hw := hw.1 hc
    refine g_iload_n dX11_place_14 rfl rfl ?_
    rcases tsw_in x2 (0) (3) 4 (by decide) with hc | ⟨j, hj, hc⟩
    · have hw := hw.1 hc
      refine g_tswD 94 dX11_place_15 hc rfl ?_
      refine g_bipush (v := (-2)) dX11_place_94 (by decide) ?_
      exact g_iret dX11_place_96 hw
    · match j, hj, hc with
      | 0, _, hc =>
        have hc : x2 = 0 := tsw_eq hc (by decide)
        have hw := hw.2.1 hc
        refine g_tswI 0 44 dX11_place_15 hc (by decide) (by decide) (off := 29) (by decide) rfl ?_
        refine g_aload_n dX11_place_44 rfl rfl ?_
        refine g_getO dX11_place_45 fl_X11_27 sh0 rfl ?_
        refine g_iload_n dX11_place_48 rfl rfl ?_
        refine g_callVI [.int x1] (ci := 2) dX11_place_49 ml_X11_133 mk_X2_owner rfl rfl sh14 (Nat.le_of_ble_eq_true rfl) (Nat.le_of_ble_eq_true rfl) rfl (c_Land_owner hw) (fun r3 h4 hw => ?_)
        exact g_iret dX11_place_52 hw
      | 1, _, hc =>
        have hc : x2 = 1 := tsw_eq hc (by decide)
        have hw := hw.2.2.1 hc
        refine g_tswI 1 53 dX11_place_15 hc (by decide) (by decide) (off := 38) (by decide) rfl ?_
        refine g_aload_n dX11_place_53 rfl rfl ?_
        refine g_getO dX11_place_54 fl_X11_34 sh0 rfl ?_
        refine g_iload_n dX11_place_57 rfl rfl ?_
        refine g_callVI [.int x1] (ci := 6) dX11_place_58 ml_X11_137 mk_X6_planOf rfl rfl sh20 (Nat.le_of_ble_eq_true rfl) (Nat.le_of_ble_eq_true rfl) rfl (c_Stand_planOf sh20 hw) (fun r5 h6 hw => ?_)
        exact g_iret dX11_place_61 hw
      | 2, _, hc =>
        have hc : x2 = 2 := tsw_eq hc (by decide)
        have hw := hw.2.2.2.1 hc
        refine g_tswI 2 62 dX11_place_15 hc (by decide) (by decide) (off := 47) (by decide) rfl ?_
        refine g_aload_n dX11_place_62 rfl rfl ?_
        refine g_getO dX11_place_63 fl_X11_27 sh0 rfl ?_
        refine g_aload_n dX11_place_66 rfl rfl ?_
        refine g_getO dX11_place_67 fl_X11_34 sh0 rfl ?_
        refine g_getI dX11_place_70 fl_X11_140 sh20 rfl ?_
        refine g_iload_n dX11_place_73 rfl rfl ?_
        refine g_callVI [.int (gI h2 20 3), .int x1] (ci := 2) dX11_place_74 ml_X11_141 mk_X2_openFrom rfl rfl sh14 (Nat.le_of_ble_eq_true rfl) (Nat.le_of_ble_eq_true rfl) rfl (c_Land_openFrom hw) (fun r7 h8 hw => ?_)
        refine g_callSI [.int r7] dX11_place_77 ml_X11_145 mk_J6_bitCount_0f7a4 rfl (Nat.le_of_ble_eq_true rfl) (Nat.le_of_ble_eq_true rfl) rfl (c_J6_bitCount_0f7a4 hw) (fun r9 h10 hw => ?_)
        exact g_iret dX11_place_80 hw
      | 3, _, hc =>
        have hc : x2 = 3 := tsw_eq hc (by decide)
        have hw := hw.2.2.2.2 hc
        refine g_tswI 3 81 dX11_place_15 hc (by decide) (by decide) (off := 66) (by decide) rfl ?_
        refine g_aload_n dX11_place_81 rfl rfl ?_
        refine g_getO dX11_place_82 fl_X11_34 sh0 rfl ?_
        refine g_aload_n dX11_place_85 rfl rfl ?_
        refine g_getO dX11_place_86 fl_X11_27 sh0 rfl ?_
        refine g_iload_n dX11_place_89 rfl rfl ?_
        refine g_callVI [.ref (gAd G 14), .int x1] (ci := 6) dX11_place_90 ml_X11_150 mk_X6_wayByPlan rfl rfl sh20 (Nat.le_of_ble_eq_true rfl) (Nat.le_of_ble_eq_true rfl) rfl (c_Stand_wayByPlan sh20 hw) (fun r11 h12 hw => ?_)
        exact g_iret dX11_place_93 hw
      | k + 4, hj, _ => exact absurd hj (by omega)
  · have hw := hw.2 hc
    refine g_bipush (v := (-2)) dX11_place_11 (by decide) ?_
    exact g_iret dX11_place_13 hw
theorem dX11_road_0 : decode cX11_road 0 = .ok (.aload_n 0, 1) := by decide +kernel
theorem dX11_road_1 : decode cX11_road 1 = .ok (.getfield 27, 3) := by decide +kernel
theorem dX11_road_4 : decode cX11_road 4 = .ok (.iload_n 1, 1) := by decide +kernel
theorem dX11_road_5 : decode cX11_road 5 = .ok (.invokevirtual 154, 3) := by decide +kernel
theorem dX11_road_8 : decode cX11_road 8 = .ok (.ifCond .ne 6, 3) := by decide +kernel
theorem dX11_road_11 : decode cX11_road 11 = .ok (.bipush (-2), 2) := by decide +kernel
theorem dX11_road_13 : decode cX11_road 13 = .ok (.ireturn, 1) := by decide +kernel
theorem dX11_road_14 : decode cX11_road 14 = .ok (.iload_n 2, 1) := by decide +kernel
theorem dX11_road_15 : decode cX11_road 15 = .ok (.tableswitch 69 0 2 #[25, 35, 45], 25) := by decide +kernel
theorem dX11_road_40 : decode cX11_road 40 = .ok (.aload_n 0, 1) := by decide +kernel
theorem dX11_road_41 : decode cX11_road 41 = .ok (.getfield 27, 3) := by decide +kernel
theorem dX11_road_44 : decode cX11_road 44 = .ok (.getfield 157, 3) := by decide +kernel
theorem dX11_road_47 : decode cX11_road 47 = .ok (.iload_n 1, 1) := by decide +kernel
theorem dX11_road_48 : decode cX11_road 48 = .ok (.iaload, 1) := by decide +kernel
theorem dX11_road_49 : decode cX11_road 49 = .ok (.ireturn, 1) := by decide +kernel
theorem dX11_road_50 : decode cX11_road 50 = .ok (.aload_n 0, 1) := by decide +kernel
theorem dX11_road_51 : decode cX11_road 51 = .ok (.getfield 27, 3) := by decide +kernel
theorem dX11_road_54 : decode cX11_road 54 = .ok (.getfield 160, 3) := by decide +kernel
theorem dX11_road_57 : decode cX11_road 57 = .ok (.iload_n 1, 1) := by decide +kernel
theorem dX11_road_58 : decode cX11_road 58 = .ok (.iaload, 1) := by decide +kernel
theorem dX11_road_59 : decode cX11_road 59 = .ok (.ireturn, 1) := by decide +kernel
theorem dX11_road_60 : decode cX11_road 60 = .ok (.aload_n 0, 1) := by decide +kernel
theorem dX11_road_61 : decode cX11_road 61 = .ok (.getfield 27, 3) := by decide +kernel
theorem dX11_road_64 : decode cX11_road 64 = .ok (.aload_n 0, 1) := by decide +kernel
theorem dX11_road_65 : decode cX11_road 65 = .ok (.getfield 34, 3) := by decide +kernel
theorem dX11_road_68 : decode cX11_road 68 = .ok (.getfield 140, 3) := by decide +kernel
theorem dX11_road_71 : decode cX11_road 71 = .ok (.iload_n 1, 1) := by decide +kernel
theorem dX11_road_72 : decode cX11_road 72 = .ok (.invokevirtual 163, 3) := by decide +kernel
theorem dX11_road_75 : decode cX11_road 75 = .ok (.ifCond .eq 7, 3) := by decide +kernel
theorem dX11_road_78 : decode cX11_road 78 = .ok (.iconst 1, 1) := by decide +kernel
theorem dX11_road_79 : decode cX11_road 79 = .ok (.goto 4, 3) := by decide +kernel
theorem dX11_road_82 : decode cX11_road 82 = .ok (.iconst 0, 1) := by decide +kernel
theorem dX11_road_83 : decode cX11_road 83 = .ok (.ireturn, 1) := by decide +kernel
theorem dX11_road_84 : decode cX11_road 84 = .ok (.bipush (-2), 2) := by decide +kernel
theorem dX11_road_86 : decode cX11_road 86 = .ok (.ireturn, 1) := by decide +kernel
theorem ml_X11_154 : Cond.methodLink RX11 154 yX2_hasRoad ∈ Wd := mW 809 (by decide +kernel) rfl
theorem fl_X11_157 : FLk RX11 157 2 4 := ⟨_, rfl, by decide, mW 157 (by decide +kernel) rfl⟩
theorem fl_X11_160 : FLk RX11 160 2 5 := ⟨_, rfl, by decide, mW 161 (by decide +kernel) rfl⟩
theorem ml_X11_163 : Cond.methodLink RX11 163 yX2_isOpen ∈ Wd := mW 810 (by decide +kernel) rfl
def C_road (x1 : Int32) (x2 : Int32) (h : Hp) (Q : Int32 → Hp → Prop) : Prop := Land_hasRoad x1 h (fun r1 h2 => (¬ r1 = 0 → (x2.toInt < 0 ∨ 2 < x2.toInt → Q (-2) h2) ∧ (x2 = 0 → vp_in x1 16 ∧ Q (gI h2 15 (x1).toNatClampNeg) h2) ∧ (x2 = 1 → vp_in x1 16 ∧ Q (gI h2 16 (x1).toNatClampNeg) h2) ∧ (x2 = 2 → Land_isOpen (gI h2 20 3) x1 h2 (fun r3 h4 => (r3 = 0 → Q 0 h4) ∧ (¬ r3 = 0 → Q 1 h4)))) ∧ (r1 = 0 → Q (-2) h2))
set_option maxHeartbeats 4000000 in
set_option maxRecDepth 20000 in
theorem c_C_road {G : Gx}  {x1 : Int32} {x2 : Int32} {h : Hp} {Q : Int32 → Hp → Prop} (hw : C_road x1 x2 h Q) : Ct yX11_road cX11_road 3 (some .int) 3 G [.ref (gAd G 0), .int x1, .int x2] h (QI G Q) := by
  refine ct_go [(0, .ref (gAd G 0)), (1, .int x1), (2, .int x2)] (plainFor_of_name (by decide)) rfl (Nat.le_of_ble_eq_true rfl) rfl ?_
  refine g_aload_n dX11_road_0 rfl rfl ?_
  refine g_getO dX11_road_1 fl_X11_27 sh0 rfl ?_
  refine g_iload_n dX11_road_4 rfl rfl ?_
  refine g_callVI [.int x1] (ci := 2) dX11_road_5 ml_X11_154 mk_X2_hasRoad rfl rfl sh14 (Nat.le_of_ble_eq_true rfl) (Nat.le_of_ble_eq_true rfl) rfl (c_Land_hasRoad hw) (fun r1 h2 hw => ?_)
  refine g_if_ne 14 dX11_road_8 rfl (fun hc => ?_) (fun hc => ?_)
  · have hw := hw.1 hc
    refine g_iload_n dX11_road_14 rfl rfl ?_
    rcases tsw_in x2 (0) (2) 3 (by decide) with hc | ⟨j, hj, hc⟩
    · have hw := hw.1 hc
      refine g_tswD 84 dX11_road_15 hc rfl ?_
      refine g_bipush (v := (-2)) dX11_road_84 (by decide) ?_
      exact g_iret dX11_road_86 hw
    · match j, hj, hc with
      | 0, _, hc =>
        have hc : x2 = 0 := tsw_eq hc (by decide)
        have hw := hw.2.1 hc
        refine g_tswI 0 40 dX11_road_15 hc (by decide) (by decide) (off := 25) (by decide) rfl ?_
        refine g_aload_n dX11_road_40 rfl rfl ?_
        refine g_getO dX11_road_41 fl_X11_27 sh0 rfl ?_
        refine g_getA dX11_road_44 fl_X11_157 sh14 rfl ?_
        refine g_iload_n dX11_road_47 rfl rfl ?_
        refine g_iald dX11_road_48 ia15 al15 hw.1 ?_
        have hw := hw.2
        exact g_iret dX11_road_49 hw
      | 1, _, hc =>
        have hc : x2 = 1 := tsw_eq hc (by decide)
        have hw := hw.2.2.1 hc
        refine g_tswI 1 50 dX11_road_15 hc (by decide) (by decide) (off := 35) (by decide) rfl ?_
        refine g_aload_n dX11_road_50 rfl rfl ?_
        refine g_getO dX11_road_51 fl_X11_27 sh0 rfl ?_
        refine g_getA dX11_road_54 fl_X11_160 sh14 rfl ?_
        refine g_iload_n dX11_road_57 rfl rfl ?_
        refine g_iald dX11_road_58 ia16 al16 hw.1 ?_
        have hw := hw.2
        exact g_iret dX11_road_59 hw
      | 2, _, hc =>
        have hc : x2 = 2 := tsw_eq hc (by decide)
        have hw := hw.2.2.2 hc
        refine g_tswI 2 60 dX11_road_15 hc (by decide) (by decide) (off := 45) (by decide) rfl ?_
        refine g_aload_n dX11_road_60 rfl rfl ?_
        refine g_getO dX11_road_61 fl_X11_27 sh0 rfl ?_
        refine g_aload_n dX11_road_64 rfl rfl ?_
        refine g_getO dX11_road_65 fl_X11_34 sh0 rfl ?_
        refine g_getI dX11_road_68 fl_X11_140 sh20 rfl ?_
        refine g_iload_n dX11_road_71 rfl rfl ?_
        refine g_callVI [.int (gI h2 20 3), .int x1] (ci := 2) dX11_road_72 ml_X11_163 mk_X2_isOpen rfl rfl sh14 (Nat.le_of_ble_eq_true rfl) (Nat.le_of_ble_eq_true rfl) rfl (c_Land_isOpen hw) (fun r3 h4 hw => ?_)
        refine g_if_eq 82 dX11_road_75 rfl (fun hc => ?_) (fun hc => ?_)
        · have hw := hw.1 hc
          refine g_iconst (v := 0) dX11_road_82 (by decide) ?_
          exact g_iret dX11_road_83 hw
        · have hw := hw.2 hc
          refine g_iconst (v := 1) dX11_road_78 (by decide) ?_
          refine g_goto 83 dX11_road_79 rfl ?_
          exact g_iret dX11_road_83 hw
      | k + 3, hj, _ => exact absurd hj (by omega)
  · have hw := hw.2 hc
    refine g_bipush (v := (-2)) dX11_road_11 (by decide) ?_
    exact g_iret dX11_road_13 hw
theorem dX11_isWeather_0 : decode cX11_isWeather 0 = .ok (.iload_n 0, 1) := by decide +kernel
theorem dX11_isWeather_1 : decode cX11_isWeather 1 = .ok (.ifCond .lt 13, 3) := by decide +kernel
theorem dX11_isWeather_4 : decode cX11_isWeather 4 = .ok (.iload_n 0, 1) := by decide +kernel
theorem dX11_isWeather_5 : decode cX11_isWeather 5 = .ok (.bipush 10, 2) := by decide +kernel
theorem dX11_isWeather_7 : decode cX11_isWeather 7 = .ok (.if_icmp .ge 7, 3) := by decide +kernel
theorem dX11_isWeather_10 : decode cX11_isWeather 10 = .ok (.iconst 1, 1) := by decide +kernel
theorem dX11_isWeather_11 : decode cX11_isWeather 11 = .ok (.goto 4, 3) := by decide +kernel
theorem dX11_isWeather_14 : decode cX11_isWeather 14 = .ok (.iconst 0, 1) := by decide +kernel
theorem dX11_isWeather_15 : decode cX11_isWeather 15 = .ok (.ireturn, 1) := by decide +kernel
def C_isWeather (x0 : Int32) (h : Hp) (Q : Int32 → Hp → Prop) : Prop := (x0 < 0 → Q 0 h) ∧ (¬ x0 < 0 → (10 ≤ x0 → Q 0 h) ∧ (¬ 10 ≤ x0 → Q 1 h))
set_option maxHeartbeats 4000000 in
set_option maxRecDepth 20000 in
theorem c_C_isWeather {G : Gx}  {x0 : Int32} {h : Hp} {Q : Int32 → Hp → Prop} (hw : C_isWeather x0 h Q) : Ct yX11_isWeather cX11_isWeather 1 (some .boolean) 1 G [.int x0] h (QI G Q) := by
  refine ct_go [(0, .int x0)] (plainFor_of_name (by decide)) rfl (Nat.le_of_ble_eq_true rfl) rfl ?_
  refine g_iload_n dX11_isWeather_0 rfl rfl ?_
  refine g_if_lt 14 dX11_isWeather_1 rfl (fun hc => ?_) (fun hc => ?_)
  · have hw := hw.1 hc
    refine g_iconst (v := 0) dX11_isWeather_14 (by decide) ?_
    exact g_zret dX11_isWeather_15 rfl hw
  · have hw := hw.2 hc
    refine g_iload_n dX11_isWeather_4 rfl rfl ?_
    refine g_bipush (v := 10) dX11_isWeather_5 (by decide) ?_
    refine g_icmp_ge 14 dX11_isWeather_7 rfl (fun hc => ?_) (fun hc => ?_)
    · have hw := hw.1 hc
      refine g_iconst (v := 0) dX11_isWeather_14 (by decide) ?_
      exact g_zret dX11_isWeather_15 rfl hw
    · have hw := hw.2 hc
      refine g_iconst (v := 1) dX11_isWeather_10 (by decide) ?_
      refine g_goto 15 dX11_isWeather_11 rfl ?_
      exact g_zret dX11_isWeather_15 rfl hw
theorem dX2_payOf_0 : decode cX2_payOf 0 = .ok (.aload_n 0, 1) := by decide +kernel
theorem dX2_payOf_1 : decode cX2_payOf 1 = .ok (.iload_n 2, 1) := by decide +kernel
theorem dX2_payOf_2 : decode cX2_payOf 2 = .ok (.invokevirtual 54, 3) := by decide +kernel
theorem dX2_payOf_5 : decode cX2_payOf 5 = .ok (.ifCond .eq 24, 3) := by decide +kernel
theorem dX2_payOf_8 : decode cX2_payOf 8 = .ok (.iload_n 1, 1) := by decide +kernel
theorem dX2_payOf_9 : decode cX2_payOf 9 = .ok (.invokestatic 62, 3) := by decide +kernel
theorem dX2_payOf_12 : decode cX2_payOf 12 = .ok (.ifCond .eq 17, 3) := by decide +kernel
theorem dX2_payOf_15 : decode cX2_payOf 15 = .ok (.aload_n 0, 1) := by decide +kernel
theorem dX2_payOf_16 : decode cX2_payOf 16 = .ok (.getfield 37, 3) := by decide +kernel
theorem dX2_payOf_19 : decode cX2_payOf 19 = .ok (.iload_n 1, 1) := by decide +kernel
theorem dX2_payOf_20 : decode cX2_payOf 20 = .ok (.bipush 16, 2) := by decide +kernel
theorem dX2_payOf_22 : decode cX2_payOf 22 = .ok (.imul, 1) := by decide +kernel
theorem dX2_payOf_23 : decode cX2_payOf 23 = .ok (.iload_n 2, 1) := by decide +kernel
theorem dX2_payOf_24 : decode cX2_payOf 24 = .ok (.iadd, 1) := by decide +kernel
theorem dX2_payOf_25 : decode cX2_payOf 25 = .ok (.iaload, 1) := by decide +kernel
theorem dX2_payOf_26 : decode cX2_payOf 26 = .ok (.goto 4, 3) := by decide +kernel
theorem dX2_payOf_29 : decode cX2_payOf 29 = .ok (.iconst 0, 1) := by decide +kernel
theorem dX2_payOf_30 : decode cX2_payOf 30 = .ok (.ireturn, 1) := by decide +kernel
theorem mk_X11_isWeather : MokS yX11_isWeather cX11_isWeather 1 (some .boolean) 1 := ⟨⟨mW 1 (by decide +kernel) rfl, mW 821 (by decide +kernel) rfl, ⟨by decide, by decide, by decide +kernel⟩, by decide⟩, mW 820 (by decide +kernel) rfl⟩
theorem fl_X2_37 : FLk RX2 37 2 8 := ⟨_, rfl, by decide, mW 167 (by decide +kernel) rfl⟩
def Land_payOf (x1 : Int32) (x2 : Int32) (h : Hp) (Q : Int32 → Hp → Prop) : Prop := Land_hasRoad x2 h (fun r1 h2 => (r1 = 0 → Q 0 h2) ∧ (¬ r1 = 0 → C_isWeather x1 h2 (fun r3 h4 => (r3 = 0 → Q 0 h4) ∧ (¬ r3 = 0 → vp_in ((x1 * 16) + x2) 160 ∧ Q (gI h4 19 (((x1 * 16) + x2)).toNatClampNeg) h4))))
set_option maxHeartbeats 4000000 in
set_option maxRecDepth 20000 in
theorem c_Land_payOf {G : Gx}  {x1 : Int32} {x2 : Int32} {h : Hp} {Q : Int32 → Hp → Prop} (hw : Land_payOf x1 x2 h Q) : Ct yX2_payOf cX2_payOf 3 (some .int) 2 G [.ref (gAd G 14), .int x1, .int x2] h (QI G Q) := by
  refine ct_go [(0, .ref (gAd G 14)), (1, .int x1), (2, .int x2)] (plainFor_of_name (by decide)) rfl (Nat.le_of_ble_eq_true rfl) rfl ?_
  refine g_aload_n dX2_payOf_0 rfl rfl ?_
  refine g_iload_n dX2_payOf_1 rfl rfl ?_
  refine g_callVI [.int x2] (ci := 2) dX2_payOf_2 ml_X2_54 mk_X2_hasRoad rfl rfl sh14 (Nat.le_of_ble_eq_true rfl) (Nat.le_of_ble_eq_true rfl) rfl (c_Land_hasRoad hw) (fun r1 h2 hw => ?_)
  refine g_if_eq 29 dX2_payOf_5 rfl (fun hc => ?_) (fun hc => ?_)
  · have hw := hw.1 hc
    refine g_iconst (v := 0) dX2_payOf_29 (by decide) ?_
    exact g_iret dX2_payOf_30 hw
  · have hw := hw.2 hc
    refine g_iload_n dX2_payOf_8 rfl rfl ?_
    refine g_callWe [.int x1] rfl dX2_payOf_9 mk_X11_isWeather rfl (Nat.le_of_ble_eq_true rfl) (Nat.le_of_ble_eq_true rfl) rfl (c_C_isWeather hw) (fun r3 h4 hw => ?_)
    refine g_if_eq 29 dX2_payOf_12 rfl (fun hc => ?_) (fun hc => ?_)
    · have hw := hw.1 hc
      refine g_iconst (v := 0) dX2_payOf_29 (by decide) ?_
      exact g_iret dX2_payOf_30 hw
    · have hw := hw.2 hc
      refine g_aload_n dX2_payOf_15 rfl rfl ?_
      refine g_getA dX2_payOf_16 fl_X2_37 sh14 rfl ?_
      refine g_iload_n dX2_payOf_19 rfl rfl ?_
      refine g_bipush (v := 16) dX2_payOf_20 (by decide) ?_
      refine g_imul dX2_payOf_22 ?_
      refine g_iload_n dX2_payOf_23 rfl rfl ?_
      refine g_iadd dX2_payOf_24 ?_
      refine g_iald dX2_payOf_25 ia19 al19 hw.1 ?_
      have hw := hw.2
      refine g_goto 30 dX2_payOf_26 rfl ?_
      exact g_iret dX2_payOf_30 hw
theorem dX11_pay_0 : decode cX11_pay 0 = .ok (.aload_n 0, 1) := by decide +kernel
theorem dX11_pay_1 : decode cX11_pay 1 = .ok (.getfield 27, 3) := by decide +kernel
theorem dX11_pay_4 : decode cX11_pay 4 = .ok (.iload_n 1, 1) := by decide +kernel
theorem dX11_pay_5 : decode cX11_pay 5 = .ok (.invokevirtual 154, 3) := by decide +kernel
theorem dX11_pay_8 : decode cX11_pay 8 = .ok (.ifCond .eq 22, 3) := by decide +kernel
theorem dX11_pay_11 : decode cX11_pay 11 = .ok (.aload_n 0, 1) := by decide +kernel
theorem dX11_pay_12 : decode cX11_pay 12 = .ok (.getfield 27, 3) := by decide +kernel
theorem dX11_pay_15 : decode cX11_pay 15 = .ok (.aload_n 0, 1) := by decide +kernel
theorem dX11_pay_16 : decode cX11_pay 16 = .ok (.getfield 34, 3) := by decide +kernel
theorem dX11_pay_19 : decode cX11_pay 19 = .ok (.getfield 140, 3) := by decide +kernel
theorem dX11_pay_22 : decode cX11_pay 22 = .ok (.iload_n 1, 1) := by decide +kernel
theorem dX11_pay_23 : decode cX11_pay 23 = .ok (.invokevirtual 167, 3) := by decide +kernel
theorem dX11_pay_26 : decode cX11_pay 26 = .ok (.i2l, 1) := by decide +kernel
theorem dX11_pay_27 : decode cX11_pay 27 = .ok (.goto 6, 3) := by decide +kernel
theorem dX11_pay_30 : decode cX11_pay 30 = .ok (.ldc2_w 170, 3) := by decide +kernel
theorem dX11_pay_33 : decode cX11_pay 33 = .ok (.lreturn, 1) := by decide +kernel
theorem kl_X11_170 : Cond.constantLong RX11 170 (-9000000000000000002) ∈ Wd := mW 822 (by decide +kernel) rfl
theorem ml_X11_167 : Cond.methodLink RX11 167 yX2_payOf ∈ Wd := mW 815 (by decide +kernel) rfl
theorem mk_X2_payOf : MokV yX2_payOf cX2_payOf 3 (some .int) 2 := ⟨⟨mW 5 (by decide +kernel) rfl, mW 818 (by decide +kernel) rfl, ⟨by decide, by decide, by decide +kernel⟩, by decide⟩, mW 816 (by decide +kernel) rfl, mW 817 (by decide +kernel) rfl⟩
def C_pay (x1 : Int32) (h : Hp) (Q : Int64 → Hp → Prop) : Prop := Land_hasRoad x1 h (fun r1 h2 => (r1 = 0 → Q (-9000000000000000002 : Int64) h2) ∧ (¬ r1 = 0 → Land_payOf (gI h2 20 3) x1 h2 (fun r3 h4 => Q ((r3).toInt64) h4)))
set_option maxHeartbeats 4000000 in
set_option maxRecDepth 20000 in
theorem c_C_pay {G : Gx}  {x1 : Int32} {h : Hp} {Q : Int64 → Hp → Prop} (hw : C_pay x1 h Q) : Ct yX11_pay cX11_pay 2 (some .long) 3 G [.ref (gAd G 0), .int x1] h (QJ G Q) := by
  refine ct_go [(0, .ref (gAd G 0)), (1, .int x1)] (plainFor_of_name (by decide)) rfl (Nat.le_of_ble_eq_true rfl) rfl ?_
  refine g_aload_n dX11_pay_0 rfl rfl ?_
  refine g_getO dX11_pay_1 fl_X11_27 sh0 rfl ?_
  refine g_iload_n dX11_pay_4 rfl rfl ?_
  refine g_callVI [.int x1] (ci := 2) dX11_pay_5 ml_X11_154 mk_X2_hasRoad rfl rfl sh14 (Nat.le_of_ble_eq_true rfl) (Nat.le_of_ble_eq_true rfl) rfl (c_Land_hasRoad hw) (fun r1 h2 hw => ?_)
  refine g_if_eq 30 dX11_pay_8 rfl (fun hc => ?_) (fun hc => ?_)
  · have hw := hw.1 hc
    refine g_ldc2 dX11_pay_30 kl_X11_170 ?_
    exact g_lret dX11_pay_33 hw
  · have hw := hw.2 hc
    refine g_aload_n dX11_pay_11 rfl rfl ?_
    refine g_getO dX11_pay_12 fl_X11_27 sh0 rfl ?_
    refine g_aload_n dX11_pay_15 rfl rfl ?_
    refine g_getO dX11_pay_16 fl_X11_34 sh0 rfl ?_
    refine g_getI dX11_pay_19 fl_X11_140 sh20 rfl ?_
    refine g_iload_n dX11_pay_22 rfl rfl ?_
    refine g_callVI [.int (gI h2 20 3), .int x1] (ci := 2) dX11_pay_23 ml_X11_167 mk_X2_payOf rfl rfl sh14 (Nat.le_of_ble_eq_true rfl) (Nat.le_of_ble_eq_true rfl) rfl (c_Land_payOf hw) (fun r3 h4 hw => ?_)
    refine g_i2l dX11_pay_26 ?_
    refine g_goto 33 dX11_pay_27 rfl ?_
    exact g_lret dX11_pay_33 hw
theorem dX6_whyNotMove_0 : decode cX6_whyNotMove 0 = .ok (.iload_n 2, 1) := by decide +kernel
theorem dX6_whyNotMove_1 : decode cX6_whyNotMove 1 = .ok (.bipush 16, 2) := by decide +kernel
theorem dX6_whyNotMove_3 : decode cX6_whyNotMove 3 = .ok (.if_icmp .ne 24, 3) := by decide +kernel
theorem dX6_whyNotMove_6 : decode cX6_whyNotMove 6 = .ok (.aload_n 1, 1) := by decide +kernel
theorem dX6_whyNotMove_7 : decode cX6_whyNotMove 7 = .ok (.aload_n 0, 1) := by decide +kernel
theorem dX6_whyNotMove_8 : decode cX6_whyNotMove 8 = .ok (.getfield 22, 3) := by decide +kernel
theorem dX6_whyNotMove_11 : decode cX6_whyNotMove 11 = .ok (.aload_n 0, 1) := by decide +kernel
theorem dX6_whyNotMove_12 : decode cX6_whyNotMove 12 = .ok (.getfield 9, 3) := by decide +kernel
theorem dX6_whyNotMove_15 : decode cX6_whyNotMove 15 = .ok (.invokevirtual 60, 3) := by decide +kernel
theorem dX6_whyNotMove_18 : decode cX6_whyNotMove 18 = .ok (.ifCond .ne 7, 3) := by decide +kernel
theorem dX6_whyNotMove_21 : decode cX6_whyNotMove 21 = .ok (.iconst 0, 1) := by decide +kernel
theorem dX6_whyNotMove_22 : decode cX6_whyNotMove 22 = .ok (.goto 4, 3) := by decide +kernel
theorem dX6_whyNotMove_25 : decode cX6_whyNotMove 25 = .ok (.iconst 1, 1) := by decide +kernel
theorem dX6_whyNotMove_26 : decode cX6_whyNotMove 26 = .ok (.ireturn, 1) := by decide +kernel
theorem dX6_whyNotMove_27 : decode cX6_whyNotMove 27 = .ok (.aload_n 1, 1) := by decide +kernel
theorem dX6_whyNotMove_28 : decode cX6_whyNotMove 28 = .ok (.iload_n 2, 1) := by decide +kernel
theorem dX6_whyNotMove_29 : decode cX6_whyNotMove 29 = .ok (.invokevirtual 63, 3) := by decide +kernel
theorem dX6_whyNotMove_32 : decode cX6_whyNotMove 32 = .ok (.ifCond .ne 5, 3) := by decide +kernel
theorem dX6_whyNotMove_35 : decode cX6_whyNotMove 35 = .ok (.iconst 1, 1) := by decide +kernel
theorem dX6_whyNotMove_36 : decode cX6_whyNotMove 36 = .ok (.ireturn, 1) := by decide +kernel
theorem dX6_whyNotMove_37 : decode cX6_whyNotMove 37 = .ok (.aload_n 1, 1) := by decide +kernel
theorem dX6_whyNotMove_38 : decode cX6_whyNotMove 38 = .ok (.getfield 67, 3) := by decide +kernel
theorem dX6_whyNotMove_41 : decode cX6_whyNotMove 41 = .ok (.iload_n 2, 1) := by decide +kernel
theorem dX6_whyNotMove_42 : decode cX6_whyNotMove 42 = .ok (.iaload, 1) := by decide +kernel
theorem dX6_whyNotMove_43 : decode cX6_whyNotMove 43 = .ok (.aload_n 0, 1) := by decide +kernel
theorem dX6_whyNotMove_44 : decode cX6_whyNotMove 44 = .ok (.getfield 9, 3) := by decide +kernel
theorem dX6_whyNotMove_47 : decode cX6_whyNotMove 47 = .ok (.if_icmp .eq 5, 3) := by decide +kernel
theorem dX6_whyNotMove_50 : decode cX6_whyNotMove 50 = .ok (.iconst 2, 1) := by decide +kernel
theorem dX6_whyNotMove_51 : decode cX6_whyNotMove 51 = .ok (.ireturn, 1) := by decide +kernel
theorem dX6_whyNotMove_52 : decode cX6_whyNotMove 52 = .ok (.aload_n 1, 1) := by decide +kernel
theorem dX6_whyNotMove_53 : decode cX6_whyNotMove 53 = .ok (.aload_n 0, 1) := by decide +kernel
theorem dX6_whyNotMove_54 : decode cX6_whyNotMove 54 = .ok (.getfield 22, 3) := by decide +kernel
theorem dX6_whyNotMove_57 : decode cX6_whyNotMove 57 = .ok (.iload_n 2, 1) := by decide +kernel
theorem dX6_whyNotMove_58 : decode cX6_whyNotMove 58 = .ok (.invokevirtual 45, 3) := by decide +kernel
theorem dX6_whyNotMove_61 : decode cX6_whyNotMove 61 = .ok (.ifCond .eq 7, 3) := by decide +kernel
theorem dX6_whyNotMove_64 : decode cX6_whyNotMove 64 = .ok (.iconst 0, 1) := by decide +kernel
theorem dX6_whyNotMove_65 : decode cX6_whyNotMove 65 = .ok (.goto 4, 3) := by decide +kernel
theorem dX6_whyNotMove_68 : decode cX6_whyNotMove 68 = .ok (.iconst 3, 1) := by decide +kernel
theorem dX6_whyNotMove_69 : decode cX6_whyNotMove 69 = .ok (.ireturn, 1) := by decide +kernel
theorem ml_X6_63 : Cond.methodLink RX6 63 yX2_hasRoad ∈ Wd := mW 832 (by decide +kernel) rfl
theorem fl_X6_67 : FLk RX6 67 2 4 := ⟨_, rfl, by decide, mW 156 (by decide +kernel) rfl⟩
theorem ml_X6_60 : Cond.methodLink RX6 60 yX2_openFrom ∈ Wd := mW 831 (by decide +kernel) rfl
def Stand_whyNotMove (o0 : Nat) (x2 : Int32) (h : Hp) (Q : Int32 → Hp → Prop) : Prop := (¬ x2 = 16 → Land_hasRoad x2 h (fun r1 h2 => (¬ r1 = 0 → vp_in x2 16 ∧ ((gI h2 15 (x2).toNatClampNeg) = (gI h2 o0 0) → Land_isOpen (gI h2 o0 3) x2 h2 (fun r3 h4 => (r3 = 0 → Q 3 h4) ∧ (¬ r3 = 0 → Q 0 h4))) ∧ (¬ (gI h2 15 (x2).toNatClampNeg) = (gI h2 o0 0) → Q 2 h2)) ∧ (r1 = 0 → Q 1 h2))) ∧ (x2 = 16 → Land_openFrom (gI h o0 3) (gI h o0 0) h (fun r5 h6 => (¬ r5 = 0 → Q 1 h6) ∧ (r5 = 0 → Q 0 h6)))
set_option maxHeartbeats 4000000 in
set_option maxRecDepth 20000 in
theorem c_Stand_whyNotMove {G : Gx} {o0 : Nat} (ho0 : SH o0 = .inl 6) {x2 : Int32} {h : Hp} {Q : Int32 → Hp → Prop} (hw : Stand_whyNotMove o0 x2 h Q) : Ct yX6_whyNotMove cX6_whyNotMove 3 (some .int) 3 G [.ref (gAd G o0), .ref (gAd G 14), .int x2] h (QI G Q) := by
  refine ct_go [(0, .ref (gAd G o0)), (1, .ref (gAd G 14)), (2, .int x2)] (plainFor_of_name (by decide)) rfl (Nat.le_of_ble_eq_true rfl) rfl ?_
  refine g_iload_n dX6_whyNotMove_0 rfl rfl ?_
  refine g_bipush (v := 16) dX6_whyNotMove_1 (by decide) ?_
  refine g_icmp_ne 27 dX6_whyNotMove_3 rfl (fun hc => ?_) (fun hc => ?_)
  · have hw := hw.1 hc
    refine g_aload_n dX6_whyNotMove_27 rfl rfl ?_
    refine g_iload_n dX6_whyNotMove_28 rfl rfl ?_
    refine g_callVI [.int x2] (ci := 2) dX6_whyNotMove_29 ml_X6_63 mk_X2_hasRoad rfl rfl sh14 (Nat.le_of_ble_eq_true rfl) (Nat.le_of_ble_eq_true rfl) rfl (c_Land_hasRoad hw) (fun r1 h2 hw => ?_)
    refine g_if_ne 37 dX6_whyNotMove_32 rfl (fun hc => ?_) (fun hc => ?_)
    · have hw := hw.1 hc
      refine g_aload_n dX6_whyNotMove_37 rfl rfl ?_
      refine g_getA dX6_whyNotMove_38 fl_X6_67 sh14 rfl ?_
      refine g_iload_n dX6_whyNotMove_41 rfl rfl ?_
      refine g_iald dX6_whyNotMove_42 ia15 al15 hw.1 ?_
      have hw := hw.2
      refine g_aload_n dX6_whyNotMove_43 rfl rfl ?_
      refine g_getI dX6_whyNotMove_44 fl_X6_9 ho0 rfl ?_
      refine g_icmp_eq 52 dX6_whyNotMove_47 rfl (fun hc => ?_) (fun hc => ?_)
      · have hw := hw.1 hc
        refine g_aload_n dX6_whyNotMove_52 rfl rfl ?_
        refine g_aload_n dX6_whyNotMove_53 rfl rfl ?_
        refine g_getI dX6_whyNotMove_54 fl_X6_22 ho0 rfl ?_
        refine g_iload_n dX6_whyNotMove_57 rfl rfl ?_
        refine g_callVI [.int (gI h2 o0 3), .int x2] (ci := 2) dX6_whyNotMove_58 ml_X6_45 mk_X2_isOpen rfl rfl sh14 (Nat.le_of_ble_eq_true rfl) (Nat.le_of_ble_eq_true rfl) rfl (c_Land_isOpen hw) (fun r3 h4 hw => ?_)
        refine g_if_eq 68 dX6_whyNotMove_61 rfl (fun hc => ?_) (fun hc => ?_)
        · have hw := hw.1 hc
          refine g_iconst (v := 3) dX6_whyNotMove_68 (by decide) ?_
          exact g_iret dX6_whyNotMove_69 hw
        · have hw := hw.2 hc
          refine g_iconst (v := 0) dX6_whyNotMove_64 (by decide) ?_
          refine g_goto 69 dX6_whyNotMove_65 rfl ?_
          exact g_iret dX6_whyNotMove_69 hw
      · have hw := hw.2 hc
        refine g_iconst (v := 2) dX6_whyNotMove_50 (by decide) ?_
        exact g_iret dX6_whyNotMove_51 hw
    · have hw := hw.2 hc
      refine g_iconst (v := 1) dX6_whyNotMove_35 (by decide) ?_
      exact g_iret dX6_whyNotMove_36 hw
  · have hw := hw.2 hc
    refine g_aload_n dX6_whyNotMove_6 rfl rfl ?_
    refine g_aload_n dX6_whyNotMove_7 rfl rfl ?_
    refine g_getI dX6_whyNotMove_8 fl_X6_22 ho0 rfl ?_
    refine g_aload_n dX6_whyNotMove_11 rfl rfl ?_
    refine g_getI dX6_whyNotMove_12 fl_X6_9 ho0 rfl ?_
    refine g_callVI [.int (gI h o0 3), .int (gI h o0 0)] (ci := 2) dX6_whyNotMove_15 ml_X6_60 mk_X2_openFrom rfl rfl sh14 (Nat.le_of_ble_eq_true rfl) (Nat.le_of_ble_eq_true rfl) rfl (c_Land_openFrom hw) (fun r5 h6 hw => ?_)
    refine g_if_ne 25 dX6_whyNotMove_18 rfl (fun hc => ?_) (fun hc => ?_)
    · have hw := hw.1 hc
      refine g_iconst (v := 1) dX6_whyNotMove_25 (by decide) ?_
      exact g_iret dX6_whyNotMove_26 hw
    · have hw := hw.2 hc
      refine g_iconst (v := 0) dX6_whyNotMove_21 (by decide) ?_
      refine g_goto 26 dX6_whyNotMove_22 rfl ?_
      exact g_iret dX6_whyNotMove_26 hw
theorem dX6_copy_0 : decode cX6_copy 0 = .ok (.aload_n 0, 1) := by decide +kernel
theorem dX6_copy_1 : decode cX6_copy 1 = .ok (.aload_n 1, 1) := by decide +kernel
theorem dX6_copy_2 : decode cX6_copy 2 = .ok (.getfield 9, 3) := by decide +kernel
theorem dX6_copy_5 : decode cX6_copy 5 = .ok (.putfield 9, 3) := by decide +kernel
theorem dX6_copy_8 : decode cX6_copy 8 = .ok (.aload_n 0, 1) := by decide +kernel
theorem dX6_copy_9 : decode cX6_copy 9 = .ok (.aload_n 1, 1) := by decide +kernel
theorem dX6_copy_10 : decode cX6_copy 10 = .ok (.getfield 15, 3) := by decide +kernel
theorem dX6_copy_13 : decode cX6_copy 13 = .ok (.putfield 15, 3) := by decide +kernel
theorem dX6_copy_16 : decode cX6_copy 16 = .ok (.aload_n 0, 1) := by decide +kernel
theorem dX6_copy_17 : decode cX6_copy 17 = .ok (.aload_n 1, 1) := by decide +kernel
theorem dX6_copy_18 : decode cX6_copy 18 = .ok (.getfield 19, 3) := by decide +kernel
theorem dX6_copy_21 : decode cX6_copy 21 = .ok (.putfield 19, 3) := by decide +kernel
theorem dX6_copy_24 : decode cX6_copy 24 = .ok (.aload_n 0, 1) := by decide +kernel
theorem dX6_copy_25 : decode cX6_copy 25 = .ok (.aload_n 1, 1) := by decide +kernel
theorem dX6_copy_26 : decode cX6_copy 26 = .ok (.getfield 22, 3) := by decide +kernel
theorem dX6_copy_29 : decode cX6_copy 29 = .ok (.putfield 22, 3) := by decide +kernel
theorem dX6_copy_32 : decode cX6_copy 32 = .ok (.aload_n 1, 1) := by decide +kernel
theorem dX6_copy_33 : decode cX6_copy 33 = .ok (.getfield 25, 3) := by decide +kernel
theorem dX6_copy_36 : decode cX6_copy 36 = .ok (.iconst 0, 1) := by decide +kernel
theorem dX6_copy_37 : decode cX6_copy 37 = .ok (.aload_n 0, 1) := by decide +kernel
theorem dX6_copy_38 : decode cX6_copy 38 = .ok (.getfield 25, 3) := by decide +kernel
theorem dX6_copy_41 : decode cX6_copy 41 = .ok (.iconst 0, 1) := by decide +kernel
theorem dX6_copy_42 : decode cX6_copy 42 = .ok (.aload_n 0, 1) := by decide +kernel
theorem dX6_copy_43 : decode cX6_copy 43 = .ok (.getfield 25, 3) := by decide +kernel
theorem dX6_copy_46 : decode cX6_copy 46 = .ok (.arraylength, 1) := by decide +kernel
theorem dX6_copy_47 : decode cX6_copy 47 = .ok (.invokestatic 35, 3) := by decide +kernel
theorem dX6_copy_50 : decode cX6_copy 50 = .ok (.return_, 1) := by decide +kernel
theorem ml_X6_35 : Cond.methodLink RX6 35 arraycopyName ∈ Wd := mW 842 (by decide +kernel) rfl
def Stand_copy (o0 : Nat) (o1 : Nat) (h : Hp) (Q : Hp → Prop) : Prop := ∀ h1 : Hp, h1 = sI h o0 0 (gI h o1 0) → ∀ h2 : Hp, h2 = sJ h1 o0 1 (gJ h1 o1 1) → ∀ h3 : Hp, h3 = sI h2 o0 2 (gI h2 o1 2) → ∀ h4 : Hp, h4 = sI h3 o0 3 (gI h3 o1 3) → (¬ (0 : Int32) < 0 ∧ ¬ (0 : Int32) < 0 ∧ ¬ (8 : Int32) < 0 ∧ ((0 : Int32)).toNatClampNeg + ((8 : Int32)).toNatClampNeg ≤ 8 ∧ ((0 : Int32)).toNatClampNeg + ((8 : Int32)).toNatClampNeg ≤ 8) ∧ ∀ h5 : Hp, h5 = cI h4 (rf o1 4) ((0 : Int32)).toNatClampNeg (rf o0 4) ((0 : Int32)).toNatClampNeg ((8 : Int32)).toNatClampNeg → Q h5
set_option maxHeartbeats 4000000 in
set_option maxRecDepth 20000 in
theorem c_Stand_copy {G : Gx} {o0 : Nat} (ho0 : SH o0 = .inl 6) {o1 : Nat} (ho1 : SH o1 = .inl 6)  {h : Hp} {Q : Hp → Prop} (hw : Stand_copy o0 o1 h Q) : Ct yX6_copy cX6_copy 2 none 2 G [.ref (gAd G o0), .ref (gAd G o1)] h (QV G Q) := by
  refine ct_go [(0, .ref (gAd G o0)), (1, .ref (gAd G o1))] (plainFor_of_name (by decide)) rfl (Nat.le_of_ble_eq_true rfl) rfl ?_
  refine g_aload_n dX6_copy_0 rfl rfl ?_
  refine g_aload_n dX6_copy_1 rfl rfl ?_
  refine g_getI dX6_copy_2 fl_X6_9 ho1 rfl ?_
  refine g_putI dX6_copy_5 fl_X6_9 ho0 rfl rfl pf_6_0 ?_
  refine g_heap (fun h1 eh1 => ?_)
  have hw := hw h1 eh1
  refine g_aload_n dX6_copy_8 rfl rfl ?_
  refine g_aload_n dX6_copy_9 rfl rfl ?_
  refine g_getJ dX6_copy_10 fl_X6_15 ho1 rfl ?_
  refine g_putJ dX6_copy_13 fl_X6_15 ho0 rfl rfl pf_6_1 ?_
  refine g_heap (fun h2 eh2 => ?_)
  have hw := hw h2 eh2
  refine g_aload_n dX6_copy_16 rfl rfl ?_
  refine g_aload_n dX6_copy_17 rfl rfl ?_
  refine g_getI dX6_copy_18 fl_X6_19 ho1 rfl ?_
  refine g_putI dX6_copy_21 fl_X6_19 ho0 rfl rfl pf_6_2 ?_
  refine g_heap (fun h3 eh3 => ?_)
  have hw := hw h3 eh3
  refine g_aload_n dX6_copy_24 rfl rfl ?_
  refine g_aload_n dX6_copy_25 rfl rfl ?_
  refine g_getI dX6_copy_26 fl_X6_22 ho1 rfl ?_
  refine g_putI dX6_copy_29 fl_X6_22 ho0 rfl rfl pf_6_3 ?_
  refine g_heap (fun h4 eh4 => ?_)
  have hw := hw h4 eh4
  refine g_aload_n dX6_copy_32 rfl rfl ?_
  refine g_getA dX6_copy_33 fl_X6_25 ho1 rfl ?_
  refine g_iconst (v := 0) dX6_copy_36 (by decide) ?_
  refine g_aload_n dX6_copy_37 rfl rfl ?_
  refine g_getA dX6_copy_38 fl_X6_25 ho0 rfl ?_
  refine g_iconst (v := 0) dX6_copy_41 (by decide) ?_
  refine g_aload_n dX6_copy_42 rfl rfl ?_
  refine g_getA dX6_copy_43 fl_X6_25 ho0 rfl ?_
  refine g_alen dX6_copy_46 (rf_a ho0 (k := 4) rfl) (by decide) (ln_6_4 ho0) (v := 8) (by decide) ?_
  refine g_copyI dX6_copy_47 ml_X6_35 (rf_a ho1 (k := 4) rfl) (rf_a ho0 (k := 4) rfl) (ln_6_4 ho1) (ln_6_4 ho0) hw.1 (by decide) (Nat.le_of_ble_eq_true rfl) ?_
  have hw := hw.2
  refine g_heap (fun h5 eh5 => ?_)
  have hw := hw h5 eh5
  exact g_vret dX6_copy_50 hw
theorem dX4_keep_0 : decode cX4_keep 0 = .ok (.aload_n 0, 1) := by decide +kernel
theorem dX4_keep_1 : decode cX4_keep 1 = .ok (.getfield 17, 3) := by decide +kernel
theorem dX4_keep_4 : decode cX4_keep 4 = .ok (.ifCond .lt 56, 3) := by decide +kernel
theorem dX4_keep_7 : decode cX4_keep 7 = .ok (.aload_n 0, 1) := by decide +kernel
theorem dX4_keep_8 : decode cX4_keep 8 = .ok (.getfield 17, 3) := by decide +kernel
theorem dX4_keep_11 : decode cX4_keep 11 = .ok (.aload_n 0, 1) := by decide +kernel
theorem dX4_keep_12 : decode cX4_keep 12 = .ok (.getfield 11, 3) := by decide +kernel
theorem dX4_keep_15 : decode cX4_keep 15 = .ok (.arraylength, 1) := by decide +kernel
theorem dX4_keep_16 : decode cX4_keep 16 = .ok (.if_icmp .ge 44, 3) := by decide +kernel
theorem dX4_keep_19 : decode cX4_keep 19 = .ok (.aload_n 0, 1) := by decide +kernel
theorem dX4_keep_20 : decode cX4_keep 20 = .ok (.getfield 11, 3) := by decide +kernel
theorem dX4_keep_23 : decode cX4_keep 23 = .ok (.aload_n 0, 1) := by decide +kernel
theorem dX4_keep_24 : decode cX4_keep 24 = .ok (.getfield 17, 3) := by decide +kernel
theorem dX4_keep_27 : decode cX4_keep 27 = .ok (.aaload, 1) := by decide +kernel
theorem dX4_keep_28 : decode cX4_keep 28 = .ok (.aload_n 1, 1) := by decide +kernel
theorem dX4_keep_29 : decode cX4_keep 29 = .ok (.invokevirtual 25, 3) := by decide +kernel
theorem dX4_keep_32 : decode cX4_keep 32 = .ok (.aload_n 0, 1) := by decide +kernel
theorem dX4_keep_33 : decode cX4_keep 33 = .ok (.aload_n 0, 1) := by decide +kernel
theorem dX4_keep_34 : decode cX4_keep 34 = .ok (.getfield 17, 3) := by decide +kernel
theorem dX4_keep_37 : decode cX4_keep 37 = .ok (.iconst 1, 1) := by decide +kernel
theorem dX4_keep_38 : decode cX4_keep 38 = .ok (.iadd, 1) := by decide +kernel
theorem dX4_keep_39 : decode cX4_keep 39 = .ok (.bipush 10, 2) := by decide +kernel
theorem dX4_keep_41 : decode cX4_keep 41 = .ok (.irem, 1) := by decide +kernel
theorem dX4_keep_42 : decode cX4_keep 42 = .ok (.putfield 17, 3) := by decide +kernel
theorem dX4_keep_45 : decode cX4_keep 45 = .ok (.aload_n 0, 1) := by decide +kernel
theorem dX4_keep_46 : decode cX4_keep 46 = .ok (.aload_n 0, 1) := by decide +kernel
theorem dX4_keep_47 : decode cX4_keep 47 = .ok (.getfield 21, 3) := by decide +kernel
theorem dX4_keep_50 : decode cX4_keep 50 = .ok (.iconst 1, 1) := by decide +kernel
theorem dX4_keep_51 : decode cX4_keep 51 = .ok (.iadd, 1) := by decide +kernel
theorem dX4_keep_52 : decode cX4_keep 52 = .ok (.bipush 10, 2) := by decide +kernel
theorem dX4_keep_54 : decode cX4_keep 54 = .ok (.invokestatic 29, 3) := by decide +kernel
theorem dX4_keep_57 : decode cX4_keep 57 = .ok (.putfield 21, 3) := by decide +kernel
theorem dX4_keep_60 : decode cX4_keep 60 = .ok (.return_, 1) := by decide +kernel
theorem fl_X4_17 : FLk RX4 17 4 1 := ⟨_, rfl, by decide, mW 229 (by decide +kernel) rfl⟩
theorem fl_X4_11 : FLk RX4 11 4 0 := ⟨_, rfl, by decide, mW 228 (by decide +kernel) rfl⟩
theorem ml_X4_25 : Cond.methodLink RX4 25 yX6_copy ∈ Wd := mW 838 (by decide +kernel) rfl
theorem mk_X6_copy : MokV yX6_copy cX6_copy 2 none 1 := ⟨⟨mW 6 (by decide +kernel) rfl, mW 841 (by decide +kernel) rfl, ⟨by decide, by decide, by decide +kernel⟩, by decide⟩, mW 839 (by decide +kernel) rfl, mW 840 (by decide +kernel) rfl⟩
theorem pf_4_1 : parseFieldDescriptor (uD 4 1) = some .int := by decide +kernel
theorem ml_X4_29 : Cond.methodLink RX4 29 yJ9_min_7cf53 ∈ Wd := mW 845 (by decide +kernel) rfl
def Past_keep (o1 : Nat) (h : Hp) (Q : Hp → Prop) : Prop := ((gI h 24 1) < 0 → Q h) ∧ (¬ (gI h 24 1) < 0 → (10 ≤ (gI h 24 1) → Q h) ∧ (¬ 10 ≤ (gI h 24 1) → vp_in (gI h 24 1) 10 ∧ Stand_copy (rf 25 ((gI h 24 1)).toNatClampNeg) o1 h (fun h2 => ∀ h3 : Hp, h3 = sI h2 24 1 (((gI h2 24 1) + 1) - ((gI h2 24 1) + 1) / 10 * 10) → J9_min_7cf53 ((gI h3 24 2) + 1) 10 h3 (fun r4 h5 => ∀ h6 : Hp, h6 = sI h5 24 2 r4 → Q h6))))
set_option maxHeartbeats 4000000 in
set_option maxRecDepth 20000 in
theorem c_Past_keep {G : Gx} {o1 : Nat} (ho1 : SH o1 = .inl 6)  {h : Hp} {Q : Hp → Prop} (hw : Past_keep o1 h Q) : Ct yX4_keep cX4_keep 2 none 3 G [.ref (gAd G 24), .ref (gAd G o1)] h (QV G Q) := by
  refine ct_go [(0, .ref (gAd G 24)), (1, .ref (gAd G o1))] (plainFor_of_name (by decide)) rfl (Nat.le_of_ble_eq_true rfl) rfl ?_
  refine g_aload_n dX4_keep_0 rfl rfl ?_
  refine g_getI dX4_keep_1 fl_X4_17 sh24 rfl ?_
  refine g_if_lt 60 dX4_keep_4 rfl (fun hc => ?_) (fun hc => ?_)
  · have hw := hw.1 hc
    exact g_vret dX4_keep_60 hw
  · have hw := hw.2 hc
    refine g_aload_n dX4_keep_7 rfl rfl ?_
    refine g_getI dX4_keep_8 fl_X4_17 sh24 rfl ?_
    refine g_aload_n dX4_keep_11 rfl rfl ?_
    refine g_getA dX4_keep_12 fl_X4_11 sh24 rfl ?_
    refine g_alen dX4_keep_15 ia25 (by decide) al25 (v := 10) (by decide) ?_
    refine g_icmp_ge 60 dX4_keep_16 rfl (fun hc => ?_) (fun hc => ?_)
    · have hw := hw.1 hc
      exact g_vret dX4_keep_60 hw
    · have hw := hw.2 hc
      refine g_aload_n dX4_keep_19 rfl rfl ?_
      refine g_getA dX4_keep_20 fl_X4_11 sh24 rfl ?_
      refine g_aload_n dX4_keep_23 rfl rfl ?_
      refine g_getI dX4_keep_24 fl_X4_17 sh24 rfl ?_
      refine g_aald dX4_keep_27 ia25 (by decide) al25 hw.1 ?_
      have hi1 := hw.1
      have hw := hw.2
      refine g_aload_n dX4_keep_28 rfl rfl ?_
      refine g_callVV [.ref (gAd G o1)] (ci := 6) dX4_keep_29 ml_X4_25 mk_X6_copy rfl rfl (rf_e ia25 (by rw [al25]; exact vp_lt hi1) (by decide)) (Nat.le_of_ble_eq_true rfl) (Nat.le_of_ble_eq_true rfl) rfl (c_Stand_copy (rf_e ia25 (by rw [al25]; exact vp_lt hi1) (by decide)) ho1 hw) (fun h2 hw => ?_)
      refine g_aload_n dX4_keep_32 rfl rfl ?_
      refine g_aload_n dX4_keep_33 rfl rfl ?_
      refine g_getI dX4_keep_34 fl_X4_17 sh24 rfl ?_
      refine g_iconst (v := 1) dX4_keep_37 (by decide) ?_
      refine g_iadd dX4_keep_38 ?_
      refine g_bipush (v := 10) dX4_keep_39 (by decide) ?_
      refine g_irem dX4_keep_41 (by decide) ?_
      refine g_putI dX4_keep_42 fl_X4_17 sh24 rfl rfl pf_4_1 ?_
      refine g_heap (fun h3 eh3 => ?_)
      have hw := hw h3 eh3
      refine g_aload_n dX4_keep_45 rfl rfl ?_
      refine g_aload_n dX4_keep_46 rfl rfl ?_
      refine g_getI dX4_keep_47 fl_X4_21 sh24 rfl ?_
      refine g_iconst (v := 1) dX4_keep_50 (by decide) ?_
      refine g_iadd dX4_keep_51 ?_
      refine g_bipush (v := 10) dX4_keep_52 (by decide) ?_
      refine g_callSI [.int ((gI h3 24 2) + 1), .int 10] dX4_keep_54 ml_X4_29 mk_J9_min_7cf53 rfl (Nat.le_of_ble_eq_true rfl) (Nat.le_of_ble_eq_true rfl) rfl (c_J9_min_7cf53 hw) (fun r4 h5 hw => ?_)
      refine g_putI dX4_keep_57 fl_X4_21 sh24 rfl rfl pf_4_2 ?_
      refine g_heap (fun h6 eh6 => ?_)
      have hw := hw h6 eh6
      exact g_vret dX4_keep_60 hw
theorem dX2_target_0 : decode cX2_target 0 = .ok (.aload_n 0, 1) := by decide +kernel
theorem dX2_target_1 : decode cX2_target 1 = .ok (.iload_n 2, 1) := by decide +kernel
theorem dX2_target_2 : decode cX2_target 2 = .ok (.invokevirtual 54, 3) := by decide +kernel
theorem dX2_target_5 : decode cX2_target 5 = .ok (.ifCond .eq 12, 3) := by decide +kernel
theorem dX2_target_8 : decode cX2_target 8 = .ok (.aload_n 0, 1) := by decide +kernel
theorem dX2_target_9 : decode cX2_target 9 = .ok (.getfield 28, 3) := by decide +kernel
theorem dX2_target_12 : decode cX2_target 12 = .ok (.iload_n 2, 1) := by decide +kernel
theorem dX2_target_13 : decode cX2_target 13 = .ok (.iaload, 1) := by decide +kernel
theorem dX2_target_14 : decode cX2_target 14 = .ok (.goto 4, 3) := by decide +kernel
theorem dX2_target_17 : decode cX2_target 17 = .ok (.iload_n 1, 1) := by decide +kernel
theorem dX2_target_18 : decode cX2_target 18 = .ok (.ireturn, 1) := by decide +kernel
theorem fl_X2_28 : FLk RX2 28 2 5 := ⟨_, rfl, by decide, mW 160 (by decide +kernel) rfl⟩
def Land_target (x1 : Int32) (x2 : Int32) (h : Hp) (Q : Int32 → Hp → Prop) : Prop := Land_hasRoad x2 h (fun r1 h2 => (r1 = 0 → Q x1 h2) ∧ (¬ r1 = 0 → vp_in x2 16 ∧ Q (gI h2 16 (x2).toNatClampNeg) h2))
set_option maxHeartbeats 4000000 in
set_option maxRecDepth 20000 in
theorem c_Land_target {G : Gx}  {x1 : Int32} {x2 : Int32} {h : Hp} {Q : Int32 → Hp → Prop} (hw : Land_target x1 x2 h Q) : Ct yX2_target cX2_target 3 (some .int) 2 G [.ref (gAd G 14), .int x1, .int x2] h (QI G Q) := by
  refine ct_go [(0, .ref (gAd G 14)), (1, .int x1), (2, .int x2)] (plainFor_of_name (by decide)) rfl (Nat.le_of_ble_eq_true rfl) rfl ?_
  refine g_aload_n dX2_target_0 rfl rfl ?_
  refine g_iload_n dX2_target_1 rfl rfl ?_
  refine g_callVI [.int x2] (ci := 2) dX2_target_2 ml_X2_54 mk_X2_hasRoad rfl rfl sh14 (Nat.le_of_ble_eq_true rfl) (Nat.le_of_ble_eq_true rfl) rfl (c_Land_hasRoad hw) (fun r1 h2 hw => ?_)
  refine g_if_eq 17 dX2_target_5 rfl (fun hc => ?_) (fun hc => ?_)
  · have hw := hw.1 hc
    refine g_iload_n dX2_target_17 rfl rfl ?_
    exact g_iret dX2_target_18 hw
  · have hw := hw.2 hc
    refine g_aload_n dX2_target_8 rfl rfl ?_
    refine g_getA dX2_target_9 fl_X2_28 sh14 rfl ?_
    refine g_iload_n dX2_target_12 rfl rfl ?_
    refine g_iald dX2_target_13 ia16 al16 hw.1 ?_
    have hw := hw.2
    refine g_goto 18 dX2_target_14 rfl ?_
    exact g_iret dX2_target_18 hw
theorem dX6_goAlong_0 : decode cX6_goAlong 0 = .ok (.aload_n 0, 1) := by decide +kernel
theorem dX6_goAlong_1 : decode cX6_goAlong 1 = .ok (.dup, 1) := by decide +kernel
theorem dX6_goAlong_2 : decode cX6_goAlong 2 = .ok (.getfield 15, 3) := by decide +kernel
theorem dX6_goAlong_5 : decode cX6_goAlong 5 = .ok (.aload_n 1, 1) := by decide +kernel
theorem dX6_goAlong_6 : decode cX6_goAlong 6 = .ok (.aload_n 0, 1) := by decide +kernel
theorem dX6_goAlong_7 : decode cX6_goAlong 7 = .ok (.getfield 22, 3) := by decide +kernel
theorem dX6_goAlong_10 : decode cX6_goAlong 10 = .ok (.iload_n 2, 1) := by decide +kernel
theorem dX6_goAlong_11 : decode cX6_goAlong 11 = .ok (.invokevirtual 73, 3) := by decide +kernel
theorem dX6_goAlong_14 : decode cX6_goAlong 14 = .ok (.i2l, 1) := by decide +kernel
theorem dX6_goAlong_15 : decode cX6_goAlong 15 = .ok (.ladd, 1) := by decide +kernel
theorem dX6_goAlong_16 : decode cX6_goAlong 16 = .ok (.putfield 15, 3) := by decide +kernel
theorem dX6_goAlong_19 : decode cX6_goAlong 19 = .ok (.aload_n 0, 1) := by decide +kernel
theorem dX6_goAlong_20 : decode cX6_goAlong 20 = .ok (.aload_n 1, 1) := by decide +kernel
theorem dX6_goAlong_21 : decode cX6_goAlong 21 = .ok (.aload_n 0, 1) := by decide +kernel
theorem dX6_goAlong_22 : decode cX6_goAlong 22 = .ok (.getfield 9, 3) := by decide +kernel
theorem dX6_goAlong_25 : decode cX6_goAlong 25 = .ok (.iload_n 2, 1) := by decide +kernel
theorem dX6_goAlong_26 : decode cX6_goAlong 26 = .ok (.invokevirtual 76, 3) := by decide +kernel
theorem dX6_goAlong_29 : decode cX6_goAlong 29 = .ok (.putfield 9, 3) := by decide +kernel
theorem dX6_goAlong_32 : decode cX6_goAlong 32 = .ok (.aload_n 0, 1) := by decide +kernel
theorem dX6_goAlong_33 : decode cX6_goAlong 33 = .ok (.dup, 1) := by decide +kernel
theorem dX6_goAlong_34 : decode cX6_goAlong 34 = .ok (.getfield 19, 3) := by decide +kernel
theorem dX6_goAlong_37 : decode cX6_goAlong 37 = .ok (.iconst 1, 1) := by decide +kernel
theorem dX6_goAlong_38 : decode cX6_goAlong 38 = .ok (.iadd, 1) := by decide +kernel
theorem dX6_goAlong_39 : decode cX6_goAlong 39 = .ok (.putfield 19, 3) := by decide +kernel
theorem dX6_goAlong_42 : decode cX6_goAlong 42 = .ok (.return_, 1) := by decide +kernel
theorem ml_X6_73 : Cond.methodLink RX6 73 yX2_payOf ∈ Wd := mW 850 (by decide +kernel) rfl
theorem ml_X6_76 : Cond.methodLink RX6 76 yX2_target ∈ Wd := mW 851 (by decide +kernel) rfl
theorem mk_X2_target : MokV yX2_target cX2_target 3 (some .int) 2 := ⟨⟨mW 5 (by decide +kernel) rfl, mW 854 (by decide +kernel) rfl, ⟨by decide, by decide, by decide +kernel⟩, by decide⟩, mW 852 (by decide +kernel) rfl, mW 853 (by decide +kernel) rfl⟩
def Stand_goAlong (o0 : Nat) (x2 : Int32) (h : Hp) (Q : Hp → Prop) : Prop := Land_payOf (gI h o0 3) x2 h (fun r1 h2 => ∀ h3 : Hp, h3 = sJ h2 o0 1 ((gJ h o0 1) + ((r1).toInt64)) → Land_target (gI h3 o0 0) x2 h3 (fun r4 h5 => ∀ h6 : Hp, h6 = sI h5 o0 0 r4 → ∀ h7 : Hp, h7 = sI h6 o0 2 ((gI h6 o0 2) + 1) → Q h7))
set_option maxHeartbeats 4000000 in
set_option maxRecDepth 20000 in
theorem c_Stand_goAlong {G : Gx} {o0 : Nat} (ho0 : SH o0 = .inl 6) {x2 : Int32} {h : Hp} {Q : Hp → Prop} (hw : Stand_goAlong o0 x2 h Q) : Ct yX6_goAlong cX6_goAlong 3 none 3 G [.ref (gAd G o0), .ref (gAd G 14), .int x2] h (QV G Q) := by
  refine ct_go [(0, .ref (gAd G o0)), (1, .ref (gAd G 14)), (2, .int x2)] (plainFor_of_name (by decide)) rfl (Nat.le_of_ble_eq_true rfl) rfl ?_
  refine g_aload_n dX6_goAlong_0 rfl rfl ?_
  refine g_dup dX6_goAlong_1 rfl ?_
  refine g_getJ dX6_goAlong_2 fl_X6_15 ho0 rfl ?_
  refine g_aload_n dX6_goAlong_5 rfl rfl ?_
  refine g_aload_n dX6_goAlong_6 rfl rfl ?_
  refine g_getI dX6_goAlong_7 fl_X6_22 ho0 rfl ?_
  refine g_iload_n dX6_goAlong_10 rfl rfl ?_
  refine g_callVI [.int (gI h o0 3), .int x2] (ci := 2) dX6_goAlong_11 ml_X6_73 mk_X2_payOf rfl rfl sh14 (Nat.le_of_ble_eq_true rfl) (Nat.le_of_ble_eq_true rfl) rfl (c_Land_payOf hw) (fun r1 h2 hw => ?_)
  refine g_i2l dX6_goAlong_14 ?_
  refine g_ladd dX6_goAlong_15 ?_
  refine g_putJ dX6_goAlong_16 fl_X6_15 ho0 rfl rfl pf_6_1 ?_
  refine g_heap (fun h3 eh3 => ?_)
  have hw := hw h3 eh3
  refine g_aload_n dX6_goAlong_19 rfl rfl ?_
  refine g_aload_n dX6_goAlong_20 rfl rfl ?_
  refine g_aload_n dX6_goAlong_21 rfl rfl ?_
  refine g_getI dX6_goAlong_22 fl_X6_9 ho0 rfl ?_
  refine g_iload_n dX6_goAlong_25 rfl rfl ?_
  refine g_callVI [.int (gI h3 o0 0), .int x2] (ci := 2) dX6_goAlong_26 ml_X6_76 mk_X2_target rfl rfl sh14 (Nat.le_of_ble_eq_true rfl) (Nat.le_of_ble_eq_true rfl) rfl (c_Land_target hw) (fun r4 h5 hw => ?_)
  refine g_putI dX6_goAlong_29 fl_X6_9 ho0 rfl rfl pf_6_0 ?_
  refine g_heap (fun h6 eh6 => ?_)
  have hw := hw h6 eh6
  refine g_aload_n dX6_goAlong_32 rfl rfl ?_
  refine g_dup dX6_goAlong_33 rfl ?_
  refine g_getI dX6_goAlong_34 fl_X6_19 ho0 rfl ?_
  refine g_iconst (v := 1) dX6_goAlong_37 (by decide) ?_
  refine g_iadd dX6_goAlong_38 ?_
  refine g_putI dX6_goAlong_39 fl_X6_19 ho0 rfl rfl pf_6_2 ?_
  refine g_heap (fun h7 eh7 => ?_)
  have hw := hw h7 eh7
  exact g_vret dX6_goAlong_42 hw
theorem dX11_move_0 : decode cX11_move 0 = .ok (.aload_n 0, 1) := by decide +kernel
theorem dX11_move_1 : decode cX11_move 1 = .ok (.getfield 34, 3) := by decide +kernel
theorem dX11_move_4 : decode cX11_move 4 = .ok (.aload_n 0, 1) := by decide +kernel
theorem dX11_move_5 : decode cX11_move 5 = .ok (.getfield 27, 3) := by decide +kernel
theorem dX11_move_8 : decode cX11_move 8 = .ok (.iload_n 1, 1) := by decide +kernel
theorem dX11_move_9 : decode cX11_move 9 = .ok (.invokevirtual 172, 3) := by decide +kernel
theorem dX11_move_12 : decode cX11_move 12 = .ok (.istore_n 2, 1) := by decide +kernel
theorem dX11_move_13 : decode cX11_move 13 = .ok (.iload_n 2, 1) := by decide +kernel
theorem dX11_move_14 : decode cX11_move 14 = .ok (.ifCond .eq 10, 3) := by decide +kernel
theorem dX11_move_17 : decode cX11_move 17 = .ok (.ldc2_w 175, 3) := by decide +kernel
theorem dX11_move_20 : decode cX11_move 20 = .ok (.iload_n 2, 1) := by decide +kernel
theorem dX11_move_21 : decode cX11_move 21 = .ok (.i2l, 1) := by decide +kernel
theorem dX11_move_22 : decode cX11_move 22 = .ok (.lsub, 1) := by decide +kernel
theorem dX11_move_23 : decode cX11_move 23 = .ok (.lreturn, 1) := by decide +kernel
theorem dX11_move_24 : decode cX11_move 24 = .ok (.aload_n 0, 1) := by decide +kernel
theorem dX11_move_25 : decode cX11_move 25 = .ok (.getfield 44, 3) := by decide +kernel
theorem dX11_move_28 : decode cX11_move 28 = .ok (.aload_n 0, 1) := by decide +kernel
theorem dX11_move_29 : decode cX11_move 29 = .ok (.getfield 34, 3) := by decide +kernel
theorem dX11_move_32 : decode cX11_move 32 = .ok (.invokevirtual 177, 3) := by decide +kernel
theorem dX11_move_35 : decode cX11_move 35 = .ok (.aload_n 0, 1) := by decide +kernel
theorem dX11_move_36 : decode cX11_move 36 = .ok (.getfield 34, 3) := by decide +kernel
theorem dX11_move_39 : decode cX11_move 39 = .ok (.getfield 181, 3) := by decide +kernel
theorem dX11_move_42 : decode cX11_move 42 = .ok (.lstore_n 3, 1) := by decide +kernel
theorem dX11_move_43 : decode cX11_move 43 = .ok (.aload_n 0, 1) := by decide +kernel
theorem dX11_move_44 : decode cX11_move 44 = .ok (.getfield 34, 3) := by decide +kernel
theorem dX11_move_47 : decode cX11_move 47 = .ok (.aload_n 0, 1) := by decide +kernel
theorem dX11_move_48 : decode cX11_move 48 = .ok (.getfield 27, 3) := by decide +kernel
theorem dX11_move_51 : decode cX11_move 51 = .ok (.iload_n 1, 1) := by decide +kernel
theorem dX11_move_52 : decode cX11_move 52 = .ok (.invokevirtual 185, 3) := by decide +kernel
theorem dX11_move_55 : decode cX11_move 55 = .ok (.aload_n 0, 1) := by decide +kernel
theorem dX11_move_56 : decode cX11_move 56 = .ok (.getfield 34, 3) := by decide +kernel
theorem dX11_move_59 : decode cX11_move 59 = .ok (.getfield 181, 3) := by decide +kernel
theorem dX11_move_62 : decode cX11_move 62 = .ok (.lload_n 3, 1) := by decide +kernel
theorem dX11_move_63 : decode cX11_move 63 = .ok (.lsub, 1) := by decide +kernel
theorem dX11_move_64 : decode cX11_move 64 = .ok (.lreturn, 1) := by decide +kernel
theorem ml_X11_172 : Cond.methodLink RX11 172 yX6_whyNotMove ∈ Wd := mW 827 (by decide +kernel) rfl
theorem mk_X6_whyNotMove : MokV yX6_whyNotMove cX6_whyNotMove 3 (some .int) 2 := ⟨⟨mW 6 (by decide +kernel) rfl, mW 830 (by decide +kernel) rfl, ⟨by decide, by decide, by decide +kernel⟩, by decide⟩, mW 828 (by decide +kernel) rfl, mW 829 (by decide +kernel) rfl⟩
theorem ml_X11_177 : Cond.methodLink RX11 177 yX4_keep ∈ Wd := mW 834 (by decide +kernel) rfl
theorem mk_X4_keep : MokV yX4_keep cX4_keep 2 none 1 := ⟨⟨mW 8 (by decide +kernel) rfl, mW 837 (by decide +kernel) rfl, ⟨by decide, by decide, by decide +kernel⟩, by decide⟩, mW 835 (by decide +kernel) rfl, mW 836 (by decide +kernel) rfl⟩
theorem fl_X11_181 : FLk RX11 181 6 1 := ⟨_, rfl, by decide, mW 201 (by decide +kernel) rfl⟩
theorem ml_X11_185 : Cond.methodLink RX11 185 yX6_goAlong ∈ Wd := mW 846 (by decide +kernel) rfl
theorem mk_X6_goAlong : MokV yX6_goAlong cX6_goAlong 3 none 2 := ⟨⟨mW 6 (by decide +kernel) rfl, mW 849 (by decide +kernel) rfl, ⟨by decide, by decide, by decide +kernel⟩, by decide⟩, mW 847 (by decide +kernel) rfl, mW 848 (by decide +kernel) rfl⟩
theorem kl_X11_175 : Cond.constantLong RX11 175 (-9000000000000000010) ∈ Wd := mW 833 (by decide +kernel) rfl
def C_move (x1 : Int32) (h : Hp) (Q : Int64 → Hp → Prop) : Prop := Stand_whyNotMove 20 x1 h (fun r1 h2 => (r1 = 0 → Past_keep 20 h2 (fun h3 => ∀ v4 : Int64, v4 = (gJ h3 20 1) → Stand_goAlong 20 x1 h3 (fun h5 => Q ((gJ h5 20 1) - v4) h5))) ∧ (¬ r1 = 0 → Q ((-9000000000000000010 : Int64) - ((r1).toInt64)) h2))
set_option maxHeartbeats 4000000 in
set_option maxRecDepth 20000 in
theorem c_C_move {G : Gx}  {x1 : Int32} {h : Hp} {Q : Int64 → Hp → Prop} (hw : C_move x1 h Q) : Ct yX11_move cX11_move 5 (some .long) 4 G [.ref (gAd G 0), .int x1] h (QJ G Q) := by
  refine ct_go [(0, .ref (gAd G 0)), (1, .int x1)] (plainFor_of_name (by decide)) rfl (Nat.le_of_ble_eq_true rfl) rfl ?_
  refine g_aload_n dX11_move_0 rfl rfl ?_
  refine g_getO dX11_move_1 fl_X11_34 sh0 rfl ?_
  refine g_aload_n dX11_move_4 rfl rfl ?_
  refine g_getO dX11_move_5 fl_X11_27 sh0 rfl ?_
  refine g_iload_n dX11_move_8 rfl rfl ?_
  refine g_callVI [.ref (gAd G 14), .int x1] (ci := 6) dX11_move_9 ml_X11_172 mk_X6_whyNotMove rfl rfl sh20 (Nat.le_of_ble_eq_true rfl) (Nat.le_of_ble_eq_true rfl) rfl (c_Stand_whyNotMove sh20 hw) (fun r1 h2 hw => ?_)
  refine g_istore_n dX11_move_12 rfl (by decide) (lv1 := [(0, .ref (gAd G 0)), (1, .int x1), (2, .int r1)]) rfl ?_
  refine g_iload_n dX11_move_13 rfl rfl ?_
  refine g_if_eq 24 dX11_move_14 rfl (fun hc => ?_) (fun hc => ?_)
  · have hw := hw.1 hc
    refine g_aload_n dX11_move_24 rfl rfl ?_
    refine g_getO dX11_move_25 fl_X11_44 sh0 rfl ?_
    refine g_aload_n dX11_move_28 rfl rfl ?_
    refine g_getO dX11_move_29 fl_X11_34 sh0 rfl ?_
    refine g_callVV [.ref (gAd G 20)] (ci := 4) dX11_move_32 ml_X11_177 mk_X4_keep rfl rfl sh24 (Nat.le_of_ble_eq_true rfl) (Nat.le_of_ble_eq_true rfl) rfl (c_Past_keep sh20 hw) (fun h3 hw => ?_)
    refine g_aload_n dX11_move_35 rfl rfl ?_
    refine g_getO dX11_move_36 fl_X11_34 sh0 rfl ?_
    refine g_getJ dX11_move_39 fl_X11_181 sh20 rfl ?_
    refine g_topj (fun v4 ev4 => ?_)
    have hw := hw v4 ev4
    refine g_lstore_n dX11_move_42 rfl (by decide) (lv1 := [(0, .ref (gAd G 0)), (1, .int x1), (2, .int r1), (3, .long v4)]) rfl ?_
    refine g_aload_n dX11_move_43 rfl rfl ?_
    refine g_getO dX11_move_44 fl_X11_34 sh0 rfl ?_
    refine g_aload_n dX11_move_47 rfl rfl ?_
    refine g_getO dX11_move_48 fl_X11_27 sh0 rfl ?_
    refine g_iload_n dX11_move_51 rfl rfl ?_
    refine g_callVV [.ref (gAd G 14), .int x1] (ci := 6) dX11_move_52 ml_X11_185 mk_X6_goAlong rfl rfl sh20 (Nat.le_of_ble_eq_true rfl) (Nat.le_of_ble_eq_true rfl) rfl (c_Stand_goAlong sh20 hw) (fun h5 hw => ?_)
    refine g_aload_n dX11_move_55 rfl rfl ?_
    refine g_getO dX11_move_56 fl_X11_34 sh0 rfl ?_
    refine g_getJ dX11_move_59 fl_X11_181 sh20 rfl ?_
    refine g_lload_n dX11_move_62 rfl rfl ?_
    refine g_lsub dX11_move_63 ?_
    exact g_lret dX11_move_64 hw
  · have hw := hw.2 hc
    refine g_ldc2 dX11_move_17 kl_X11_175 ?_
    refine g_iload_n dX11_move_20 rfl rfl ?_
    refine g_i2l dX11_move_21 ?_
    refine g_lsub dX11_move_22 ?_
    exact g_lret dX11_move_23 hw
theorem dX6_goByPlan_0 : decode cX6_goByPlan 0 = .ok (.aload_n 0, 1) := by decide +kernel
theorem dX6_goByPlan_1 : decode cX6_goByPlan 1 = .ok (.aload_n 1, 1) := by decide +kernel
theorem dX6_goByPlan_2 : decode cX6_goByPlan 2 = .ok (.aload_n 0, 1) := by decide +kernel
theorem dX6_goByPlan_3 : decode cX6_goByPlan 3 = .ok (.aload_n 1, 1) := by decide +kernel
theorem dX6_goByPlan_4 : decode cX6_goByPlan 4 = .ok (.aload_n 0, 1) := by decide +kernel
theorem dX6_goByPlan_5 : decode cX6_goByPlan 5 = .ok (.getfield 9, 3) := by decide +kernel
theorem dX6_goByPlan_8 : decode cX6_goByPlan 8 = .ok (.invokevirtual 79, 3) := by decide +kernel
theorem dX6_goByPlan_11 : decode cX6_goByPlan 11 = .ok (.invokevirtual 83, 3) := by decide +kernel
theorem dX6_goByPlan_14 : decode cX6_goByPlan 14 = .ok (.return_, 1) := by decide +kernel
theorem ml_X6_79 : Cond.methodLink RX6 79 yX6_wayByPlan ∈ Wd := mW 864 (by decide +kernel) rfl
theorem ml_X6_83 : Cond.methodLink RX6 83 yX6_goAlong ∈ Wd := mW 865 (by decide +kernel) rfl
def Stand_goByPlan (o0 : Nat) (h : Hp) (Q : Hp → Prop) : Prop := Stand_wayByPlan o0 (gI h o0 0) h (fun r1 h2 => Stand_goAlong o0 r1 h2 (fun h3 => Q h3))
set_option maxHeartbeats 4000000 in
set_option maxRecDepth 20000 in
theorem c_Stand_goByPlan {G : Gx} {o0 : Nat} (ho0 : SH o0 = .inl 6)  {h : Hp} {Q : Hp → Prop} (hw : Stand_goByPlan o0 h Q) : Ct yX6_goByPlan cX6_goByPlan 2 none 5 G [.ref (gAd G o0), .ref (gAd G 14)] h (QV G Q) := by
  refine ct_go [(0, .ref (gAd G o0)), (1, .ref (gAd G 14))] (plainFor_of_name (by decide)) rfl (Nat.le_of_ble_eq_true rfl) rfl ?_
  refine g_aload_n dX6_goByPlan_0 rfl rfl ?_
  refine g_aload_n dX6_goByPlan_1 rfl rfl ?_
  refine g_aload_n dX6_goByPlan_2 rfl rfl ?_
  refine g_aload_n dX6_goByPlan_3 rfl rfl ?_
  refine g_aload_n dX6_goByPlan_4 rfl rfl ?_
  refine g_getI dX6_goByPlan_5 fl_X6_9 ho0 rfl ?_
  refine g_callVI [.ref (gAd G 14), .int (gI h o0 0)] (ci := 6) dX6_goByPlan_8 ml_X6_79 mk_X6_wayByPlan rfl rfl ho0 (Nat.le_of_ble_eq_true rfl) (Nat.le_of_ble_eq_true rfl) rfl (c_Stand_wayByPlan ho0 hw) (fun r1 h2 hw => ?_)
  refine g_callVV [.ref (gAd G 14), .int r1] (ci := 6) dX6_goByPlan_11 ml_X6_83 mk_X6_goAlong rfl rfl ho0 (Nat.le_of_ble_eq_true rfl) (Nat.le_of_ble_eq_true rfl) rfl (c_Stand_goAlong ho0 hw) (fun h3 hw => ?_)
  exact g_vret dX6_goByPlan_14 hw
theorem dX11_moves_0 : decode cX11_moves 0 = .ok (.iload_n 1, 1) := by decide +kernel
theorem dX11_moves_1 : decode cX11_moves 1 = .ok (.iconst 1, 1) := by decide +kernel
theorem dX11_moves_2 : decode cX11_moves 2 = .ok (.if_icmp .lt 9, 3) := by decide +kernel
theorem dX11_moves_5 : decode cX11_moves 5 = .ok (.iload_n 1, 1) := by decide +kernel
theorem dX11_moves_6 : decode cX11_moves 6 = .ok (.bipush 99, 2) := by decide +kernel
theorem dX11_moves_8 : decode cX11_moves 8 = .ok (.if_icmp .le 7, 3) := by decide +kernel
theorem dX11_moves_11 : decode cX11_moves 11 = .ok (.ldc2_w 189, 3) := by decide +kernel
theorem dX11_moves_14 : decode cX11_moves 14 = .ok (.lreturn, 1) := by decide +kernel
theorem dX11_moves_15 : decode cX11_moves 15 = .ok (.aload_n 0, 1) := by decide +kernel
theorem dX11_moves_16 : decode cX11_moves 16 = .ok (.getfield 44, 3) := by decide +kernel
theorem dX11_moves_19 : decode cX11_moves 19 = .ok (.aload_n 0, 1) := by decide +kernel
theorem dX11_moves_20 : decode cX11_moves 20 = .ok (.getfield 34, 3) := by decide +kernel
theorem dX11_moves_23 : decode cX11_moves 23 = .ok (.invokevirtual 177, 3) := by decide +kernel
theorem dX11_moves_26 : decode cX11_moves 26 = .ok (.aload_n 0, 1) := by decide +kernel
theorem dX11_moves_27 : decode cX11_moves 27 = .ok (.getfield 34, 3) := by decide +kernel
theorem dX11_moves_30 : decode cX11_moves 30 = .ok (.getfield 181, 3) := by decide +kernel
theorem dX11_moves_33 : decode cX11_moves 33 = .ok (.lstore_n 2, 1) := by decide +kernel
theorem dX11_moves_34 : decode cX11_moves 34 = .ok (.iconst 0, 1) := by decide +kernel
theorem dX11_moves_35 : decode cX11_moves 35 = .ok (.istore 4, 2) := by decide +kernel
theorem dX11_moves_37 : decode cX11_moves 37 = .ok (.iload 4, 2) := by decide +kernel
theorem dX11_moves_39 : decode cX11_moves 39 = .ok (.iload_n 1, 1) := by decide +kernel
theorem dX11_moves_40 : decode cX11_moves 40 = .ok (.if_icmp .ge 20, 3) := by decide +kernel
theorem dX11_moves_43 : decode cX11_moves 43 = .ok (.aload_n 0, 1) := by decide +kernel
theorem dX11_moves_44 : decode cX11_moves 44 = .ok (.getfield 34, 3) := by decide +kernel
theorem dX11_moves_47 : decode cX11_moves 47 = .ok (.aload_n 0, 1) := by decide +kernel
theorem dX11_moves_48 : decode cX11_moves 48 = .ok (.getfield 27, 3) := by decide +kernel
theorem dX11_moves_51 : decode cX11_moves 51 = .ok (.invokevirtual 191, 3) := by decide +kernel
theorem dX11_moves_54 : decode cX11_moves 54 = .ok (.iinc 4 1, 3) := by decide +kernel
theorem dX11_moves_57 : decode cX11_moves 57 = .ok (.goto (-20), 3) := by decide +kernel
theorem dX11_moves_60 : decode cX11_moves 60 = .ok (.aload_n 0, 1) := by decide +kernel
theorem dX11_moves_61 : decode cX11_moves 61 = .ok (.getfield 34, 3) := by decide +kernel
theorem dX11_moves_64 : decode cX11_moves 64 = .ok (.getfield 181, 3) := by decide +kernel
theorem dX11_moves_67 : decode cX11_moves 67 = .ok (.lload_n 2, 1) := by decide +kernel
theorem dX11_moves_68 : decode cX11_moves 68 = .ok (.lsub, 1) := by decide +kernel
theorem dX11_moves_69 : decode cX11_moves 69 = .ok (.lreturn, 1) := by decide +kernel
theorem kl_X11_189 : Cond.constantLong RX11 189 (-9000000000000000003) ∈ Wd := mW 859 (by decide +kernel) rfl
theorem ml_X11_191 : Cond.methodLink RX11 191 yX6_goByPlan ∈ Wd := mW 860 (by decide +kernel) rfl
theorem mk_X6_goByPlan : MokV yX6_goByPlan cX6_goByPlan 2 none 1 := ⟨⟨mW 6 (by decide +kernel) rfl, mW 863 (by decide +kernel) rfl, ⟨by decide, by decide, by decide +kernel⟩, by decide⟩, mW 861 (by decide +kernel) rfl, mW 862 (by decide +kernel) rfl⟩
def C_moves_L37 (x1 : Int32) (x2 : Int64) (Q : Int64 → Hp → Prop) : Nat → Int32 → Hp → Prop
  | 0, _, _ => False
  | n + 1, x4, h => (x1 ≤ x4 → Q ((gJ h 20 1) - x2) h) ∧ (¬ x1 ≤ x4 → Stand_goByPlan 20 h (fun h3 => ∀ v4 : Int32, v4 = (x4 + 1) → C_moves_L37 x1 x2 Q n v4 h3))
set_option maxHeartbeats 4000000 in
set_option maxRecDepth 20000 in
theorem gl_C_moves_L37 {G : Gx}  {x1 : Int32} {x2 : Int64} {Q : Int64 → Hp → Prop} : ∀ (n : Nat) (x4 : Int32) (h : Hp), C_moves_L37 x1 x2 Q n x4 h → Go cX11_moves 5 RX11 (some .long) 6 G (QJ G Q) 37 [(0, .ref (gAd G 0)), (1, .int x1), (2, .long x2), (4, .int x4)] [] h := by
  intro n
  induction n with
  | zero => intro _ h hw; exact False.elim hw
  | succ n ih =>
    intro x4 h hw
    refine g_iload dX11_moves_37 rfl ?_
    refine g_iload_n dX11_moves_39 rfl rfl ?_
    refine g_icmp_ge 60 dX11_moves_40 rfl (fun hc => ?_) (fun hc => ?_)
    · have hw := hw.1 hc
      refine g_aload_n dX11_moves_60 rfl rfl ?_
      refine g_getO dX11_moves_61 fl_X11_34 sh0 rfl ?_
      refine g_getJ dX11_moves_64 fl_X11_181 sh20 rfl ?_
      refine g_lload_n dX11_moves_67 rfl rfl ?_
      refine g_lsub dX11_moves_68 ?_
      exact g_lret dX11_moves_69 hw
    · have hw := hw.2 hc
      refine g_aload_n dX11_moves_43 rfl rfl ?_
      refine g_getO dX11_moves_44 fl_X11_34 sh0 rfl ?_
      refine g_aload_n dX11_moves_47 rfl rfl ?_
      refine g_getO dX11_moves_48 fl_X11_27 sh0 rfl ?_
      refine g_callVV [.ref (gAd G 14)] (ci := 6) dX11_moves_51 ml_X11_191 mk_X6_goByPlan rfl rfl sh20 (Nat.le_of_ble_eq_true rfl) (Nat.le_of_ble_eq_true rfl) rfl (c_Stand_goByPlan sh20 hw) (fun h3 hw => ?_)
      obtain ⟨v4, ev4⟩ : ∃ y : Int32, y = (x4 + 1) := ⟨_, rfl⟩
      have hw := hw v4 ev4
      refine g_iinc dX11_moves_54 rfl (by rw [ev4]; rfl) (by decide) (lv1 := [(0, .ref (gAd G 0)), (1, .int x1), (2, .long x2), (4, .int v4)]) rfl ?_
      refine g_goto 37 dX11_moves_57 rfl ?_
      exact ih _ _ hw
def C_moves (x1 : Int32) (h : Hp) (Q : Int64 → Hp → Prop) : Prop := (x1 < 1 → Q (-9000000000000000003 : Int64) h) ∧ (¬ x1 < 1 → (x1 ≤ 99 → Past_keep 20 h (fun h1 => ∀ v2 : Int64, v2 = (gJ h1 20 1) → ∃ n5, C_moves_L37 x1 v2 Q n5 0 h1)) ∧ (¬ x1 ≤ 99 → Q (-9000000000000000003 : Int64) h))
set_option maxHeartbeats 4000000 in
set_option maxRecDepth 20000 in
theorem c_C_moves {G : Gx}  {x1 : Int32} {h : Hp} {Q : Int64 → Hp → Prop} (hw : C_moves x1 h Q) : Ct yX11_moves cX11_moves 5 (some .long) 6 G [.ref (gAd G 0), .int x1] h (QJ G Q) := by
  refine ct_go [(0, .ref (gAd G 0)), (1, .int x1)] (plainFor_of_name (by decide)) rfl (Nat.le_of_ble_eq_true rfl) rfl ?_
  refine g_iload_n dX11_moves_0 rfl rfl ?_
  refine g_iconst (v := 1) dX11_moves_1 (by decide) ?_
  refine g_icmp_lt 11 dX11_moves_2 rfl (fun hc => ?_) (fun hc => ?_)
  · have hw := hw.1 hc
    refine g_ldc2 dX11_moves_11 kl_X11_189 ?_
    exact g_lret dX11_moves_14 hw
  · have hw := hw.2 hc
    refine g_iload_n dX11_moves_5 rfl rfl ?_
    refine g_bipush (v := 99) dX11_moves_6 (by decide) ?_
    refine g_icmp_le 15 dX11_moves_8 rfl (fun hc => ?_) (fun hc => ?_)
    · have hw := hw.1 hc
      refine g_aload_n dX11_moves_15 rfl rfl ?_
      refine g_getO dX11_moves_16 fl_X11_44 sh0 rfl ?_
      refine g_aload_n dX11_moves_19 rfl rfl ?_
      refine g_getO dX11_moves_20 fl_X11_34 sh0 rfl ?_
      refine g_callVV [.ref (gAd G 20)] (ci := 4) dX11_moves_23 ml_X11_177 mk_X4_keep rfl rfl sh24 (Nat.le_of_ble_eq_true rfl) (Nat.le_of_ble_eq_true rfl) rfl (c_Past_keep sh20 hw) (fun h1 hw => ?_)
      refine g_aload_n dX11_moves_26 rfl rfl ?_
      refine g_getO dX11_moves_27 fl_X11_34 sh0 rfl ?_
      refine g_getJ dX11_moves_30 fl_X11_181 sh20 rfl ?_
      refine g_topj (fun v2 ev2 => ?_)
      have hw := hw v2 ev2
      refine g_lstore_n dX11_moves_33 rfl (by decide) (lv1 := [(0, .ref (gAd G 0)), (1, .int x1), (2, .long v2)]) rfl ?_
      refine g_iconst (v := 0) dX11_moves_34 (by decide) ?_
      refine g_istore dX11_moves_35 (by decide) (lv1 := [(0, .ref (gAd G 0)), (1, .int x1), (2, .long v2), (4, .int 0)]) rfl ?_
      obtain ⟨n5, hw⟩ := hw
      refine gl_C_moves_L37   _ _ _ hw
    · have hw := hw.2 hc
      refine g_ldc2 dX11_moves_11 kl_X11_189 ?_
      exact g_lret dX11_moves_14 hw
theorem dX6_whyNotPlan_0 : decode cX6_whyNotPlan 0 = .ok (.aload_n 1, 1) := by decide +kernel
theorem dX6_whyNotPlan_1 : decode cX6_whyNotPlan 1 = .ok (.iload_n 2, 1) := by decide +kernel
theorem dX6_whyNotPlan_2 : decode cX6_whyNotPlan 2 = .ok (.invokevirtual 70, 3) := by decide +kernel
theorem dX6_whyNotPlan_5 : decode cX6_whyNotPlan 5 = .ok (.ifCond .ne 5, 3) := by decide +kernel
theorem dX6_whyNotPlan_8 : decode cX6_whyNotPlan 8 = .ok (.iconst 1, 1) := by decide +kernel
theorem dX6_whyNotPlan_9 : decode cX6_whyNotPlan 9 = .ok (.ireturn, 1) := by decide +kernel
theorem dX6_whyNotPlan_10 : decode cX6_whyNotPlan 10 = .ok (.iload_n 3, 1) := by decide +kernel
theorem dX6_whyNotPlan_11 : decode cX6_whyNotPlan 11 = .ok (.iconst (-1), 1) := by decide +kernel
theorem dX6_whyNotPlan_12 : decode cX6_whyNotPlan 12 = .ok (.if_icmp .ne 5, 3) := by decide +kernel
theorem dX6_whyNotPlan_15 : decode cX6_whyNotPlan 15 = .ok (.iconst 0, 1) := by decide +kernel
theorem dX6_whyNotPlan_16 : decode cX6_whyNotPlan 16 = .ok (.ireturn, 1) := by decide +kernel
theorem dX6_whyNotPlan_17 : decode cX6_whyNotPlan 17 = .ok (.aload_n 1, 1) := by decide +kernel
theorem dX6_whyNotPlan_18 : decode cX6_whyNotPlan 18 = .ok (.iload_n 3, 1) := by decide +kernel
theorem dX6_whyNotPlan_19 : decode cX6_whyNotPlan 19 = .ok (.invokevirtual 63, 3) := by decide +kernel
theorem dX6_whyNotPlan_22 : decode cX6_whyNotPlan 22 = .ok (.ifCond .ne 5, 3) := by decide +kernel
theorem dX6_whyNotPlan_25 : decode cX6_whyNotPlan 25 = .ok (.iconst 1, 1) := by decide +kernel
theorem dX6_whyNotPlan_26 : decode cX6_whyNotPlan 26 = .ok (.ireturn, 1) := by decide +kernel
theorem dX6_whyNotPlan_27 : decode cX6_whyNotPlan 27 = .ok (.aload_n 1, 1) := by decide +kernel
theorem dX6_whyNotPlan_28 : decode cX6_whyNotPlan 28 = .ok (.getfield 67, 3) := by decide +kernel
theorem dX6_whyNotPlan_31 : decode cX6_whyNotPlan 31 = .ok (.iload_n 3, 1) := by decide +kernel
theorem dX6_whyNotPlan_32 : decode cX6_whyNotPlan 32 = .ok (.iaload, 1) := by decide +kernel
theorem dX6_whyNotPlan_33 : decode cX6_whyNotPlan 33 = .ok (.iload_n 2, 1) := by decide +kernel
theorem dX6_whyNotPlan_34 : decode cX6_whyNotPlan 34 = .ok (.if_icmp .ne 7, 3) := by decide +kernel
theorem dX6_whyNotPlan_37 : decode cX6_whyNotPlan 37 = .ok (.iconst 0, 1) := by decide +kernel
theorem dX6_whyNotPlan_38 : decode cX6_whyNotPlan 38 = .ok (.goto 4, 3) := by decide +kernel
theorem dX6_whyNotPlan_41 : decode cX6_whyNotPlan 41 = .ok (.iconst 2, 1) := by decide +kernel
theorem dX6_whyNotPlan_42 : decode cX6_whyNotPlan 42 = .ok (.ireturn, 1) := by decide +kernel
theorem ml_X6_70 : Cond.methodLink RX6 70 yX2_hasPlace ∈ Wd := mW 874 (by decide +kernel) rfl
def Stand_whyNotPlan (o0 : Nat) (x2 : Int32) (x3 : Int32) (h : Hp) (Q : Int32 → Hp → Prop) : Prop := Land_hasPlace x2 h (fun r1 h2 => (¬ r1 = 0 → (¬ x3 = (-1) → Land_hasRoad x3 h2 (fun r3 h4 => (¬ r3 = 0 → vp_in x3 16 ∧ (¬ (gI h4 15 (x3).toNatClampNeg) = x2 → Q 2 h4) ∧ ((gI h4 15 (x3).toNatClampNeg) = x2 → Q 0 h4)) ∧ (r3 = 0 → Q 1 h4))) ∧ (x3 = (-1) → Q 0 h2)) ∧ (r1 = 0 → Q 1 h2))
set_option maxHeartbeats 4000000 in
set_option maxRecDepth 20000 in
theorem c_Stand_whyNotPlan {G : Gx} {o0 : Nat} (ho0 : SH o0 = .inl 6) {x2 : Int32} {x3 : Int32} {h : Hp} {Q : Int32 → Hp → Prop} (hw : Stand_whyNotPlan o0 x2 x3 h Q) : Ct yX6_whyNotPlan cX6_whyNotPlan 4 (some .int) 2 G [.ref (gAd G o0), .ref (gAd G 14), .int x2, .int x3] h (QI G Q) := by
  refine ct_go [(0, .ref (gAd G o0)), (1, .ref (gAd G 14)), (2, .int x2), (3, .int x3)] (plainFor_of_name (by decide)) rfl (Nat.le_of_ble_eq_true rfl) rfl ?_
  refine g_aload_n dX6_whyNotPlan_0 rfl rfl ?_
  refine g_iload_n dX6_whyNotPlan_1 rfl rfl ?_
  refine g_callVI [.int x2] (ci := 2) dX6_whyNotPlan_2 ml_X6_70 mk_X2_hasPlace rfl rfl sh14 (Nat.le_of_ble_eq_true rfl) (Nat.le_of_ble_eq_true rfl) rfl (c_Land_hasPlace hw) (fun r1 h2 hw => ?_)
  refine g_if_ne 10 dX6_whyNotPlan_5 rfl (fun hc => ?_) (fun hc => ?_)
  · have hw := hw.1 hc
    refine g_iload_n dX6_whyNotPlan_10 rfl rfl ?_
    refine g_iconst (v := (-1)) dX6_whyNotPlan_11 (by decide) ?_
    refine g_icmp_ne 17 dX6_whyNotPlan_12 rfl (fun hc => ?_) (fun hc => ?_)
    · have hw := hw.1 hc
      refine g_aload_n dX6_whyNotPlan_17 rfl rfl ?_
      refine g_iload_n dX6_whyNotPlan_18 rfl rfl ?_
      refine g_callVI [.int x3] (ci := 2) dX6_whyNotPlan_19 ml_X6_63 mk_X2_hasRoad rfl rfl sh14 (Nat.le_of_ble_eq_true rfl) (Nat.le_of_ble_eq_true rfl) rfl (c_Land_hasRoad hw) (fun r3 h4 hw => ?_)
      refine g_if_ne 27 dX6_whyNotPlan_22 rfl (fun hc => ?_) (fun hc => ?_)
      · have hw := hw.1 hc
        refine g_aload_n dX6_whyNotPlan_27 rfl rfl ?_
        refine g_getA dX6_whyNotPlan_28 fl_X6_67 sh14 rfl ?_
        refine g_iload_n dX6_whyNotPlan_31 rfl rfl ?_
        refine g_iald dX6_whyNotPlan_32 ia15 al15 hw.1 ?_
        have hw := hw.2
        refine g_iload_n dX6_whyNotPlan_33 rfl rfl ?_
        refine g_icmp_ne 41 dX6_whyNotPlan_34 rfl (fun hc => ?_) (fun hc => ?_)
        · have hw := hw.1 hc
          refine g_iconst (v := 2) dX6_whyNotPlan_41 (by decide) ?_
          exact g_iret dX6_whyNotPlan_42 hw
        · have hw := hw.2 hc
          refine g_iconst (v := 0) dX6_whyNotPlan_37 (by decide) ?_
          refine g_goto 42 dX6_whyNotPlan_38 rfl ?_
          exact g_iret dX6_whyNotPlan_42 hw
      · have hw := hw.2 hc
        refine g_iconst (v := 1) dX6_whyNotPlan_25 (by decide) ?_
        exact g_iret dX6_whyNotPlan_26 hw
    · have hw := hw.2 hc
      refine g_iconst (v := 0) dX6_whyNotPlan_15 (by decide) ?_
      exact g_iret dX6_whyNotPlan_16 hw
  · have hw := hw.2 hc
    refine g_iconst (v := 1) dX6_whyNotPlan_8 (by decide) ?_
    exact g_iret dX6_whyNotPlan_9 hw
theorem dX6_setPlan_0 : decode cX6_setPlan 0 = .ok (.iload_n 1, 1) := by decide +kernel
theorem dX6_setPlan_1 : decode cX6_setPlan 1 = .ok (.ifCond .lt 19, 3) := by decide +kernel
theorem dX6_setPlan_4 : decode cX6_setPlan 4 = .ok (.iload_n 1, 1) := by decide +kernel
theorem dX6_setPlan_5 : decode cX6_setPlan 5 = .ok (.aload_n 0, 1) := by decide +kernel
theorem dX6_setPlan_6 : decode cX6_setPlan 6 = .ok (.getfield 25, 3) := by decide +kernel
theorem dX6_setPlan_9 : decode cX6_setPlan 9 = .ok (.arraylength, 1) := by decide +kernel
theorem dX6_setPlan_10 : decode cX6_setPlan 10 = .ok (.if_icmp .ge 10, 3) := by decide +kernel
theorem dX6_setPlan_13 : decode cX6_setPlan 13 = .ok (.aload_n 0, 1) := by decide +kernel
theorem dX6_setPlan_14 : decode cX6_setPlan 14 = .ok (.getfield 25, 3) := by decide +kernel
theorem dX6_setPlan_17 : decode cX6_setPlan 17 = .ok (.iload_n 1, 1) := by decide +kernel
theorem dX6_setPlan_18 : decode cX6_setPlan 18 = .ok (.iload_n 2, 1) := by decide +kernel
theorem dX6_setPlan_19 : decode cX6_setPlan 19 = .ok (.iastore, 1) := by decide +kernel
theorem dX6_setPlan_20 : decode cX6_setPlan 20 = .ok (.return_, 1) := by decide +kernel
def Stand_setPlan (o0 : Nat) (x1 : Int32) (x2 : Int32) (h : Hp) (Q : Hp → Prop) : Prop := (x1 < 0 → Q h) ∧ (¬ x1 < 0 → (8 ≤ x1 → Q h) ∧ (¬ 8 ≤ x1 → vp_in x1 8 ∧ ∀ h1 : Hp, h1 = sI h (rf o0 4) (x1).toNatClampNeg x2 → Q h1))
set_option maxHeartbeats 4000000 in
set_option maxRecDepth 20000 in
theorem c_Stand_setPlan {G : Gx} {o0 : Nat} (ho0 : SH o0 = .inl 6) {x1 : Int32} {x2 : Int32} {h : Hp} {Q : Hp → Prop} (hw : Stand_setPlan o0 x1 x2 h Q) : Ct yX6_setPlan cX6_setPlan 3 none 1 G [.ref (gAd G o0), .int x1, .int x2] h (QV G Q) := by
  refine ct_go [(0, .ref (gAd G o0)), (1, .int x1), (2, .int x2)] (plainFor_of_name (by decide)) rfl (Nat.le_of_ble_eq_true rfl) rfl ?_
  refine g_iload_n dX6_setPlan_0 rfl rfl ?_
  refine g_if_lt 20 dX6_setPlan_1 rfl (fun hc => ?_) (fun hc => ?_)
  · have hw := hw.1 hc
    exact g_vret dX6_setPlan_20 hw
  · have hw := hw.2 hc
    refine g_iload_n dX6_setPlan_4 rfl rfl ?_
    refine g_aload_n dX6_setPlan_5 rfl rfl ?_
    refine g_getA dX6_setPlan_6 fl_X6_25 ho0 rfl ?_
    refine g_alen dX6_setPlan_9 (rf_a ho0 (k := 4) rfl) (by decide) (ln_6_4 ho0) (v := 8) (by decide) ?_
    refine g_icmp_ge 20 dX6_setPlan_10 rfl (fun hc => ?_) (fun hc => ?_)
    · have hw := hw.1 hc
      exact g_vret dX6_setPlan_20 hw
    · have hw := hw.2 hc
      refine g_aload_n dX6_setPlan_13 rfl rfl ?_
      refine g_getA dX6_setPlan_14 fl_X6_25 ho0 rfl ?_
      refine g_iload_n dX6_setPlan_17 rfl rfl ?_
      refine g_iload_n dX6_setPlan_18 rfl rfl ?_
      refine g_iast dX6_setPlan_19 (rf_a ho0 (k := 4) rfl) (ln_6_4 ho0) hw.1 ?_
      have hw := hw.2
      refine g_heap (fun h1 eh1 => ?_)
      have hw := hw h1 eh1
      exact g_vret dX6_setPlan_20 hw
theorem dX11_plan_0 : decode cX11_plan 0 = .ok (.aload_n 0, 1) := by decide +kernel
theorem dX11_plan_1 : decode cX11_plan 1 = .ok (.getfield 34, 3) := by decide +kernel
theorem dX11_plan_4 : decode cX11_plan 4 = .ok (.aload_n 0, 1) := by decide +kernel
theorem dX11_plan_5 : decode cX11_plan 5 = .ok (.getfield 27, 3) := by decide +kernel
theorem dX11_plan_8 : decode cX11_plan 8 = .ok (.iload_n 1, 1) := by decide +kernel
theorem dX11_plan_9 : decode cX11_plan 9 = .ok (.iload_n 2, 1) := by decide +kernel
theorem dX11_plan_10 : decode cX11_plan 10 = .ok (.invokevirtual 194, 3) := by decide +kernel
theorem dX11_plan_13 : decode cX11_plan 13 = .ok (.istore_n 3, 1) := by decide +kernel
theorem dX11_plan_14 : decode cX11_plan 14 = .ok (.iload_n 3, 1) := by decide +kernel
theorem dX11_plan_15 : decode cX11_plan 15 = .ok (.ifCond .eq 8, 3) := by decide +kernel
theorem dX11_plan_18 : decode cX11_plan 18 = .ok (.bipush (-10), 2) := by decide +kernel
theorem dX11_plan_20 : decode cX11_plan 20 = .ok (.iload_n 3, 1) := by decide +kernel
theorem dX11_plan_21 : decode cX11_plan 21 = .ok (.isub, 1) := by decide +kernel
theorem dX11_plan_22 : decode cX11_plan 22 = .ok (.ireturn, 1) := by decide +kernel
theorem dX11_plan_23 : decode cX11_plan 23 = .ok (.aload_n 0, 1) := by decide +kernel
theorem dX11_plan_24 : decode cX11_plan 24 = .ok (.getfield 44, 3) := by decide +kernel
theorem dX11_plan_27 : decode cX11_plan 27 = .ok (.aload_n 0, 1) := by decide +kernel
theorem dX11_plan_28 : decode cX11_plan 28 = .ok (.getfield 34, 3) := by decide +kernel
theorem dX11_plan_31 : decode cX11_plan 31 = .ok (.invokevirtual 177, 3) := by decide +kernel
theorem dX11_plan_34 : decode cX11_plan 34 = .ok (.aload_n 0, 1) := by decide +kernel
theorem dX11_plan_35 : decode cX11_plan 35 = .ok (.getfield 34, 3) := by decide +kernel
theorem dX11_plan_38 : decode cX11_plan 38 = .ok (.iload_n 1, 1) := by decide +kernel
theorem dX11_plan_39 : decode cX11_plan 39 = .ok (.invokevirtual 137, 3) := by decide +kernel
theorem dX11_plan_42 : decode cX11_plan 42 = .ok (.istore 4, 2) := by decide +kernel
theorem dX11_plan_44 : decode cX11_plan 44 = .ok (.aload_n 0, 1) := by decide +kernel
theorem dX11_plan_45 : decode cX11_plan 45 = .ok (.getfield 34, 3) := by decide +kernel
theorem dX11_plan_48 : decode cX11_plan 48 = .ok (.iload_n 1, 1) := by decide +kernel
theorem dX11_plan_49 : decode cX11_plan 49 = .ok (.iload_n 2, 1) := by decide +kernel
theorem dX11_plan_50 : decode cX11_plan 50 = .ok (.invokevirtual 198, 3) := by decide +kernel
theorem dX11_plan_53 : decode cX11_plan 53 = .ok (.iload 4, 2) := by decide +kernel
theorem dX11_plan_55 : decode cX11_plan 55 = .ok (.ireturn, 1) := by decide +kernel
theorem ml_X11_194 : Cond.methodLink RX11 194 yX6_whyNotPlan ∈ Wd := mW 870 (by decide +kernel) rfl
theorem mk_X6_whyNotPlan : MokV yX6_whyNotPlan cX6_whyNotPlan 4 (some .int) 3 := ⟨⟨mW 6 (by decide +kernel) rfl, mW 873 (by decide +kernel) rfl, ⟨by decide, by decide, by decide +kernel⟩, by decide⟩, mW 871 (by decide +kernel) rfl, mW 872 (by decide +kernel) rfl⟩
theorem ml_X11_198 : Cond.methodLink RX11 198 yX6_setPlan ∈ Wd := mW 875 (by decide +kernel) rfl
theorem mk_X6_setPlan : MokV yX6_setPlan cX6_setPlan 3 none 2 := ⟨⟨mW 6 (by decide +kernel) rfl, mW 878 (by decide +kernel) rfl, ⟨by decide, by decide, by decide +kernel⟩, by decide⟩, mW 876 (by decide +kernel) rfl, mW 877 (by decide +kernel) rfl⟩
def C_plan (x1 : Int32) (x2 : Int32) (h : Hp) (Q : Int32 → Hp → Prop) : Prop := Stand_whyNotPlan 20 x1 x2 h (fun r1 h2 => (r1 = 0 → Past_keep 20 h2 (fun h3 => Stand_planOf 20 x1 h3 (fun r4 h5 => Stand_setPlan 20 x1 x2 h5 (fun h6 => Q r4 h6)))) ∧ (¬ r1 = 0 → Q ((-10 : Int32) - r1) h2))
set_option maxHeartbeats 4000000 in
set_option maxRecDepth 20000 in
theorem c_C_plan {G : Gx}  {x1 : Int32} {x2 : Int32} {h : Hp} {Q : Int32 → Hp → Prop} (hw : C_plan x1 x2 h Q) : Ct yX11_plan cX11_plan 5 (some .int) 4 G [.ref (gAd G 0), .int x1, .int x2] h (QI G Q) := by
  refine ct_go [(0, .ref (gAd G 0)), (1, .int x1), (2, .int x2)] (plainFor_of_name (by decide)) rfl (Nat.le_of_ble_eq_true rfl) rfl ?_
  refine g_aload_n dX11_plan_0 rfl rfl ?_
  refine g_getO dX11_plan_1 fl_X11_34 sh0 rfl ?_
  refine g_aload_n dX11_plan_4 rfl rfl ?_
  refine g_getO dX11_plan_5 fl_X11_27 sh0 rfl ?_
  refine g_iload_n dX11_plan_8 rfl rfl ?_
  refine g_iload_n dX11_plan_9 rfl rfl ?_
  refine g_callVI [.ref (gAd G 14), .int x1, .int x2] (ci := 6) dX11_plan_10 ml_X11_194 mk_X6_whyNotPlan rfl rfl sh20 (Nat.le_of_ble_eq_true rfl) (Nat.le_of_ble_eq_true rfl) rfl (c_Stand_whyNotPlan sh20 hw) (fun r1 h2 hw => ?_)
  refine g_istore_n dX11_plan_13 rfl (by decide) (lv1 := [(0, .ref (gAd G 0)), (1, .int x1), (2, .int x2), (3, .int r1)]) rfl ?_
  refine g_iload_n dX11_plan_14 rfl rfl ?_
  refine g_if_eq 23 dX11_plan_15 rfl (fun hc => ?_) (fun hc => ?_)
  · have hw := hw.1 hc
    refine g_aload_n dX11_plan_23 rfl rfl ?_
    refine g_getO dX11_plan_24 fl_X11_44 sh0 rfl ?_
    refine g_aload_n dX11_plan_27 rfl rfl ?_
    refine g_getO dX11_plan_28 fl_X11_34 sh0 rfl ?_
    refine g_callVV [.ref (gAd G 20)] (ci := 4) dX11_plan_31 ml_X11_177 mk_X4_keep rfl rfl sh24 (Nat.le_of_ble_eq_true rfl) (Nat.le_of_ble_eq_true rfl) rfl (c_Past_keep sh20 hw) (fun h3 hw => ?_)
    refine g_aload_n dX11_plan_34 rfl rfl ?_
    refine g_getO dX11_plan_35 fl_X11_34 sh0 rfl ?_
    refine g_iload_n dX11_plan_38 rfl rfl ?_
    refine g_callVI [.int x1] (ci := 6) dX11_plan_39 ml_X11_137 mk_X6_planOf rfl rfl sh20 (Nat.le_of_ble_eq_true rfl) (Nat.le_of_ble_eq_true rfl) rfl (c_Stand_planOf sh20 hw) (fun r4 h5 hw => ?_)
    refine g_istore dX11_plan_42 (by decide) (lv1 := [(0, .ref (gAd G 0)), (1, .int x1), (2, .int x2), (3, .int r1), (4, .int r4)]) rfl ?_
    refine g_aload_n dX11_plan_44 rfl rfl ?_
    refine g_getO dX11_plan_45 fl_X11_34 sh0 rfl ?_
    refine g_iload_n dX11_plan_48 rfl rfl ?_
    refine g_iload_n dX11_plan_49 rfl rfl ?_
    refine g_callVV [.int x1, .int x2] (ci := 6) dX11_plan_50 ml_X11_198 mk_X6_setPlan rfl rfl sh20 (Nat.le_of_ble_eq_true rfl) (Nat.le_of_ble_eq_true rfl) rfl (c_Stand_setPlan sh20 hw) (fun h6 hw => ?_)
    refine g_iload dX11_plan_53 rfl ?_
    exact g_iret dX11_plan_55 hw
  · have hw := hw.2 hc
    refine g_bipush (v := (-10)) dX11_plan_18 (by decide) ?_
    refine g_iload_n dX11_plan_20 rfl rfl ?_
    refine g_isub dX11_plan_21 ?_
    exact g_iret dX11_plan_22 hw
theorem dX11_isEither_0 : decode cX11_isEither 0 = .ok (.iload_n 0, 1) := by decide +kernel
theorem dX11_isEither_1 : decode cX11_isEither 1 = .ok (.ifCond .eq 8, 3) := by decide +kernel
theorem dX11_isEither_4 : decode cX11_isEither 4 = .ok (.iload_n 0, 1) := by decide +kernel
theorem dX11_isEither_5 : decode cX11_isEither 5 = .ok (.iconst 1, 1) := by decide +kernel
theorem dX11_isEither_6 : decode cX11_isEither 6 = .ok (.if_icmp .ne 7, 3) := by decide +kernel
theorem dX11_isEither_9 : decode cX11_isEither 9 = .ok (.iconst 1, 1) := by decide +kernel
theorem dX11_isEither_10 : decode cX11_isEither 10 = .ok (.goto 4, 3) := by decide +kernel
theorem dX11_isEither_13 : decode cX11_isEither 13 = .ok (.iconst 0, 1) := by decide +kernel
theorem dX11_isEither_14 : decode cX11_isEither 14 = .ok (.ireturn, 1) := by decide +kernel
def C_isEither (x0 : Int32) (h : Hp) (Q : Int32 → Hp → Prop) : Prop := ∀ J9 : Hp → Prop, J9 = (fun h1 => Q 1 h1) → (x0 = 0 → J9 h) ∧ (¬ x0 = 0 → (¬ x0 = 1 → Q 0 h) ∧ (x0 = 1 → J9 h))
set_option maxHeartbeats 4000000 in
set_option maxRecDepth 20000 in
theorem c_C_isEither {G : Gx}  {x0 : Int32} {h : Hp} {Q : Int32 → Hp → Prop} (hw : C_isEither x0 h Q) : Ct yX11_isEither cX11_isEither 1 (some .boolean) 1 G [.int x0] h (QI G Q) := by
  refine ct_go [(0, .int x0)] (plainFor_of_name (by decide)) rfl (Nat.le_of_ble_eq_true rfl) rfl ?_
  refine g_iload_n dX11_isEither_0 rfl rfl ?_
  refine jn_el hw (fun J9 eJ9 hw => ?_)
  have hJ9 : ∀ (h1 : Hp), J9 h1 → Go cX11_isEither 1 RX11 (some .boolean) 1 G (QI G Q) 9 [] [] h1 := by
    intro h1 hw
    subst eJ9
    refine g_iconst (v := 1) dX11_isEither_9 (by decide) ?_
    refine g_goto 14 dX11_isEither_10 rfl ?_
    exact g_zret dX11_isEither_14 rfl hw
  refine g_if_eq 9 dX11_isEither_1 rfl (fun hc => ?_) (fun hc => ?_)
  · have hw := hw.1 hc
    refine g_lv [] rfl ?_
    exact hJ9 _ hw
  · have hw := hw.2 hc
    refine g_iload_n dX11_isEither_4 rfl rfl ?_
    refine g_iconst (v := 1) dX11_isEither_5 (by decide) ?_
    refine g_icmp_ne 13 dX11_isEither_6 rfl (fun hc => ?_) (fun hc => ?_)
    · have hw := hw.1 hc
      refine g_iconst (v := 0) dX11_isEither_13 (by decide) ?_
      exact g_zret dX11_isEither_14 rfl hw
    · have hw := hw.2 hc
      refine g_lv [] rfl ?_
      exact hJ9 _ hw
theorem dX11_isPlayer_0 : decode cX11_isPlayer 0 = .ok (.iload_n 0, 1) := by decide +kernel
theorem dX11_isPlayer_1 : decode cX11_isPlayer 1 = .ok (.invokestatic 262, 3) := by decide +kernel
theorem dX11_isPlayer_4 : decode cX11_isPlayer 4 = .ok (.ireturn, 1) := by decide +kernel
theorem ml_X11_262 : Cond.methodLink RX11 262 yX11_isEither ∈ Wd := mW 886 (by decide +kernel) rfl
theorem mk_X11_isEither : MokS yX11_isEither cX11_isEither 1 (some .boolean) 1 := ⟨⟨mW 1 (by decide +kernel) rfl, mW 888 (by decide +kernel) rfl, ⟨by decide, by decide, by decide +kernel⟩, by decide⟩, mW 887 (by decide +kernel) rfl⟩
def C_isPlayer (x0 : Int32) (h : Hp) (Q : Int32 → Hp → Prop) : Prop := C_isEither x0 h (fun r1 h2 => isB r1 ∧ Q r1 h2)
set_option maxHeartbeats 4000000 in
set_option maxRecDepth 20000 in
theorem c_C_isPlayer {G : Gx}  {x0 : Int32} {h : Hp} {Q : Int32 → Hp → Prop} (hw : C_isPlayer x0 h Q) : Ct yX11_isPlayer cX11_isPlayer 1 (some .boolean) 2 G [.int x0] h (QI G Q) := by
  refine ct_go [(0, .int x0)] (plainFor_of_name (by decide)) rfl (Nat.le_of_ble_eq_true rfl) rfl ?_
  refine g_iload_n dX11_isPlayer_0 rfl rfl ?_
  refine g_callSI [.int x0] dX11_isPlayer_1 ml_X11_262 mk_X11_isEither rfl (Nat.le_of_ble_eq_true rfl) (Nat.le_of_ble_eq_true rfl) rfl (c_C_isEither hw) (fun r1 h2 hw => ?_)
  exact g_zret dX11_isPlayer_4 (isB_n hw.1) hw.2
theorem dX8_allWays_0 : decode cX8_allWays 0 = .ok (.aload_n 0, 1) := by decide +kernel
theorem dX8_allWays_1 : decode cX8_allWays 1 = .ok (.aload_n 1, 1) := by decide +kernel
theorem dX8_allWays_2 : decode cX8_allWays 2 = .ok (.putfield 9, 3) := by decide +kernel
theorem dX8_allWays_5 : decode cX8_allWays 5 = .ok (.aload_n 0, 1) := by decide +kernel
theorem dX8_allWays_6 : decode cX8_allWays 6 = .ok (.iload_n 2, 1) := by decide +kernel
theorem dX8_allWays_7 : decode cX8_allWays 7 = .ok (.putfield 15, 3) := by decide +kernel
theorem dX8_allWays_10 : decode cX8_allWays 10 = .ok (.iconst 0, 1) := by decide +kernel
theorem dX8_allWays_11 : decode cX8_allWays 11 = .ok (.istore_n 3, 1) := by decide +kernel
theorem dX8_allWays_12 : decode cX8_allWays 12 = .ok (.iload_n 3, 1) := by decide +kernel
theorem dX8_allWays_13 : decode cX8_allWays 13 = .ok (.aload_n 0, 1) := by decide +kernel
theorem dX8_allWays_14 : decode cX8_allWays 14 = .ok (.getfield 22, 3) := by decide +kernel
theorem dX8_allWays_17 : decode cX8_allWays 17 = .ok (.arraylength, 1) := by decide +kernel
theorem dX8_allWays_18 : decode cX8_allWays 18 = .ok (.if_icmp .ge 21, 3) := by decide +kernel
theorem dX8_allWays_21 : decode cX8_allWays 21 = .ok (.aload_n 0, 1) := by decide +kernel
theorem dX8_allWays_22 : decode cX8_allWays 22 = .ok (.getfield 22, 3) := by decide +kernel
theorem dX8_allWays_25 : decode cX8_allWays 25 = .ok (.iload_n 3, 1) := by decide +kernel
theorem dX8_allWays_26 : decode cX8_allWays 26 = .ok (.aload_n 1, 1) := by decide +kernel
theorem dX8_allWays_27 : decode cX8_allWays 27 = .ok (.iload_n 2, 1) := by decide +kernel
theorem dX8_allWays_28 : decode cX8_allWays 28 = .ok (.iload_n 3, 1) := by decide +kernel
theorem dX8_allWays_29 : decode cX8_allWays 29 = .ok (.invokevirtual 44, 3) := by decide +kernel
theorem dX8_allWays_32 : decode cX8_allWays 32 = .ok (.iastore, 1) := by decide +kernel
theorem dX8_allWays_33 : decode cX8_allWays 33 = .ok (.iinc 3 1, 3) := by decide +kernel
theorem dX8_allWays_36 : decode cX8_allWays 36 = .ok (.goto (-24), 3) := by decide +kernel
theorem dX8_allWays_39 : decode cX8_allWays 39 = .ok (.return_, 1) := by decide +kernel
theorem fl_X8_9 : FLk RX8 9 8 0 := ⟨_, rfl, by decide, mW 248 (by decide +kernel) rfl⟩
theorem pf_8_0 : parseFieldDescriptor (uD 8 0) = some (.object "MeanRoads$Land") := by decide +kernel
theorem fl_X8_15 : FLk RX8 15 8 1 := ⟨_, rfl, by decide, mW 249 (by decide +kernel) rfl⟩
theorem pf_8_1 : parseFieldDescriptor (uD 8 1) = some .int := by decide +kernel
theorem fl_X8_22 : FLk RX8 22 8 3 := ⟨_, rfl, by decide, mW 251 (by decide +kernel) rfl⟩
theorem ml_X8_44 : Cond.methodLink RX8 44 yX2_waysFrom ∈ Wd := mW 898 (by decide +kernel) rfl
def Survey_allWays_L12 (x2 : Int32) (Q : Hp → Prop) : Nat → Int32 → Hp → Prop
  | 0, _, _ => False
  | n + 1, x3, h => (8 ≤ x3 → Q h) ∧ (¬ 8 ≤ x3 → Land_waysFrom x2 x3 h (fun r3 h4 => vp_in x3 8 ∧ ∀ h5 : Hp, h5 = sI h4 74 (x3).toNatClampNeg r3 → ∀ v6 : Int32, v6 = (x3 + 1) → Survey_allWays_L12 x2 Q n v6 h5))
set_option maxHeartbeats 4000000 in
set_option maxRecDepth 20000 in
theorem gl_Survey_allWays_L12 {G : Gx}  {x2 : Int32} {Q : Hp → Prop} : ∀ (n : Nat) (x3 : Int32) (h : Hp), Survey_allWays_L12 x2 Q n x3 h → Go cX8_allWays 4 RX8 none 4 G (QV G Q) 12 [(0, .ref (gAd G 73)), (1, .ref (gAd G 14)), (2, .int x2), (3, .int x3)] [] h := by
  intro n
  induction n with
  | zero => intro _ h hw; exact False.elim hw
  | succ n ih =>
    intro x3 h hw
    refine g_iload_n dX8_allWays_12 rfl rfl ?_
    refine g_aload_n dX8_allWays_13 rfl rfl ?_
    refine g_getA dX8_allWays_14 fl_X8_22 sh73 rfl ?_
    refine g_alen dX8_allWays_17 ia74 (by decide) al74 (v := 8) (by decide) ?_
    refine g_icmp_ge 39 dX8_allWays_18 rfl (fun hc => ?_) (fun hc => ?_)
    · have hw := hw.1 hc
      exact g_vret dX8_allWays_39 hw
    · have hw := hw.2 hc
      refine g_aload_n dX8_allWays_21 rfl rfl ?_
      refine g_getA dX8_allWays_22 fl_X8_22 sh73 rfl ?_
      refine g_iload_n dX8_allWays_25 rfl rfl ?_
      refine g_aload_n dX8_allWays_26 rfl rfl ?_
      refine g_iload_n dX8_allWays_27 rfl rfl ?_
      refine g_iload_n dX8_allWays_28 rfl rfl ?_
      refine g_callVI [.int x2, .int x3] (ci := 2) dX8_allWays_29 ml_X8_44 mk_X2_waysFrom rfl rfl sh14 (Nat.le_of_ble_eq_true rfl) (Nat.le_of_ble_eq_true rfl) rfl (c_Land_waysFrom hw) (fun r3 h4 hw => ?_)
      refine g_iast dX8_allWays_32 ia74 al74 hw.1 ?_
      have hw := hw.2
      refine g_heap (fun h5 eh5 => ?_)
      have hw := hw h5 eh5
      obtain ⟨v6, ev6⟩ : ∃ y : Int32, y = (x3 + 1) := ⟨_, rfl⟩
      have hw := hw v6 ev6
      refine g_iinc dX8_allWays_33 rfl (by rw [ev6]; rfl) (by decide) (lv1 := [(0, .ref (gAd G 73)), (1, .ref (gAd G 14)), (2, .int x2), (3, .int v6)]) rfl ?_
      refine g_goto 12 dX8_allWays_36 rfl ?_
      exact ih _ _ hw
def Survey_allWays (x2 : Int32) (h : Hp) (Q : Hp → Prop) : Prop := Mu 2 = (73, 0) ∧ ∀ h1 : Hp, h1 = sR h 2 (some 14) → ∀ h2 : Hp, h2 = sI h1 73 1 x2 → ∃ n7, Survey_allWays_L12 x2 Q n7 0 h2
set_option maxHeartbeats 4000000 in
set_option maxRecDepth 20000 in
theorem c_Survey_allWays {G : Gx}  {x2 : Int32} {h : Hp} {Q : Hp → Prop} (hw : Survey_allWays x2 h Q) : Ct yX8_allWays cX8_allWays 4 none 4 G [.ref (gAd G 73), .ref (gAd G 14), .int x2] h (QV G Q) := by
  refine ct_go [(0, .ref (gAd G 73)), (1, .ref (gAd G 14)), (2, .int x2)] (plainFor_of_name (by decide)) rfl (Nat.le_of_ble_eq_true rfl) rfl ?_
  refine g_aload_n dX8_allWays_0 rfl rfl ?_
  refine g_aload_n dX8_allWays_1 rfl rfl ?_
  refine g_putM dX8_allWays_2 fl_X8_9 sh73 rfl hw.1 rfl pf_8_0 (fun _ => rfl) (fun _ => rfl) ?_
  have hw := hw.2
  refine g_heap (fun h1 eh1 => ?_)
  have hw := hw h1 eh1
  refine g_aload_n dX8_allWays_5 rfl rfl ?_
  refine g_iload_n dX8_allWays_6 rfl rfl ?_
  refine g_putI dX8_allWays_7 fl_X8_15 sh73 rfl rfl pf_8_1 ?_
  refine g_heap (fun h2 eh2 => ?_)
  have hw := hw h2 eh2
  refine g_iconst (v := 0) dX8_allWays_10 (by decide) ?_
  refine g_istore_n dX8_allWays_11 rfl (by decide) (lv1 := [(0, .ref (gAd G 73)), (1, .ref (gAd G 14)), (2, .int x2), (3, .int 0)]) rfl ?_
  obtain ⟨n7, hw⟩ := hw
  refine gl_Survey_allWays_L12   _ _ _ hw
theorem dJ6_lowestOneBit_0f7a4_0 : decode cJ6_lowestOneBit_0f7a4 0 = .ok (.iload_n 0, 1) := by decide +kernel
theorem dJ6_lowestOneBit_0f7a4_1 : decode cJ6_lowestOneBit_0f7a4 1 = .ok (.iload_n 0, 1) := by decide +kernel
theorem dJ6_lowestOneBit_0f7a4_2 : decode cJ6_lowestOneBit_0f7a4 2 = .ok (.ineg, 1) := by decide +kernel
theorem dJ6_lowestOneBit_0f7a4_3 : decode cJ6_lowestOneBit_0f7a4 3 = .ok (.iand, 1) := by decide +kernel
theorem dJ6_lowestOneBit_0f7a4_4 : decode cJ6_lowestOneBit_0f7a4 4 = .ok (.ireturn, 1) := by decide +kernel
def J6_lowestOneBit_0f7a4 (x0 : Int32) (h : Hp) (Q : Int32 → Hp → Prop) : Prop := Q (x0 &&& (-x0)) h
set_option maxHeartbeats 4000000 in
set_option maxRecDepth 20000 in
theorem c_J6_lowestOneBit_0f7a4 {G : Gx}  {x0 : Int32} {h : Hp} {Q : Int32 → Hp → Prop} (hw : J6_lowestOneBit_0f7a4 x0 h Q) : Ct yJ6_lowestOneBit_0f7a4 cJ6_lowestOneBit_0f7a4 1 (some .int) 1 G [.int x0] h (QI G Q) := by
  refine ct_go [(0, .int x0)] (plainFor_of_name (by decide)) rfl (Nat.le_of_ble_eq_true rfl) rfl ?_
  refine g_iload_n dJ6_lowestOneBit_0f7a4_0 rfl rfl ?_
  refine g_iload_n dJ6_lowestOneBit_0f7a4_1 rfl rfl ?_
  refine g_ineg dJ6_lowestOneBit_0f7a4_2 ?_
  refine g_iand dJ6_lowestOneBit_0f7a4_3 ?_
  exact g_iret dJ6_lowestOneBit_0f7a4_4 hw
theorem dX0_firstPlan_0 : decode cX0_firstPlan 0 = .ok (.iconst 0, 1) := by decide +kernel
theorem dX0_firstPlan_1 : decode cX0_firstPlan 1 = .ok (.istore 4, 2) := by decide +kernel
theorem dX0_firstPlan_3 : decode cX0_firstPlan 3 = .ok (.iload 4, 2) := by decide +kernel
theorem dX0_firstPlan_5 : decode cX0_firstPlan 5 = .ok (.aload_n 1, 1) := by decide +kernel
theorem dX0_firstPlan_6 : decode cX0_firstPlan 6 = .ok (.getfield 81, 3) := by decide +kernel
theorem dX0_firstPlan_9 : decode cX0_firstPlan 9 = .ok (.if_icmp .ge 50, 3) := by decide +kernel
theorem dX0_firstPlan_12 : decode cX0_firstPlan 12 = .ok (.iload 4, 2) := by decide +kernel
theorem dX0_firstPlan_14 : decode cX0_firstPlan 14 = .ok (.aload_n 0, 1) := by decide +kernel
theorem dX0_firstPlan_15 : decode cX0_firstPlan 15 = .ok (.getfield 15, 3) := by decide +kernel
theorem dX0_firstPlan_18 : decode cX0_firstPlan 18 = .ok (.arraylength, 1) := by decide +kernel
theorem dX0_firstPlan_19 : decode cX0_firstPlan 19 = .ok (.if_icmp .ge 40, 3) := by decide +kernel
theorem dX0_firstPlan_22 : decode cX0_firstPlan 22 = .ok (.iload 4, 2) := by decide +kernel
theorem dX0_firstPlan_24 : decode cX0_firstPlan 24 = .ok (.aload_n 3, 1) := by decide +kernel
theorem dX0_firstPlan_25 : decode cX0_firstPlan 25 = .ok (.arraylength, 1) := by decide +kernel
theorem dX0_firstPlan_26 : decode cX0_firstPlan 26 = .ok (.if_icmp .ge 33, 3) := by decide +kernel
theorem dX0_firstPlan_29 : decode cX0_firstPlan 29 = .ok (.aload_n 1, 1) := by decide +kernel
theorem dX0_firstPlan_30 : decode cX0_firstPlan 30 = .ok (.iload 4, 2) := by decide +kernel
theorem dX0_firstPlan_32 : decode cX0_firstPlan 32 = .ok (.invokevirtual 87, 3) := by decide +kernel
theorem dX0_firstPlan_35 : decode cX0_firstPlan 35 = .ok (.iload_n 2, 1) := by decide +kernel
theorem dX0_firstPlan_36 : decode cX0_firstPlan 36 = .ok (.if_icmp .ne 17, 3) := by decide +kernel
theorem dX0_firstPlan_39 : decode cX0_firstPlan 39 = .ok (.aload_n 3, 1) := by decide +kernel
theorem dX0_firstPlan_40 : decode cX0_firstPlan 40 = .ok (.iload 4, 2) := by decide +kernel
theorem dX0_firstPlan_42 : decode cX0_firstPlan 42 = .ok (.aload_n 0, 1) := by decide +kernel
theorem dX0_firstPlan_43 : decode cX0_firstPlan 43 = .ok (.getfield 15, 3) := by decide +kernel
theorem dX0_firstPlan_46 : decode cX0_firstPlan 46 = .ok (.iload 4, 2) := by decide +kernel
theorem dX0_firstPlan_48 : decode cX0_firstPlan 48 = .ok (.iaload, 1) := by decide +kernel
theorem dX0_firstPlan_49 : decode cX0_firstPlan 49 = .ok (.invokestatic 96, 3) := by decide +kernel
theorem dX0_firstPlan_52 : decode cX0_firstPlan 52 = .ok (.iastore, 1) := by decide +kernel
theorem dX0_firstPlan_53 : decode cX0_firstPlan 53 = .ok (.iinc 4 1, 3) := by decide +kernel
theorem dX0_firstPlan_56 : decode cX0_firstPlan 56 = .ok (.goto (-53), 3) := by decide +kernel
theorem dX0_firstPlan_59 : decode cX0_firstPlan 59 = .ok (.return_, 1) := by decide +kernel
theorem fl_X0_81 : FLk RX0 81 2 0 := ⟨_, rfl, by decide, mW 143 (by decide +kernel) rfl⟩
theorem fl_X0_15 : FLk RX0 15 0 1 := ⟨_, rfl, by decide, mW 291 (by decide +kernel) rfl⟩
theorem ml_X0_87 : Cond.methodLink RX0 87 yX2_owner ∈ Wd := mW 907 (by decide +kernel) rfl
theorem ml_X0_96 : Cond.methodLink RX0 96 yJ6_lowestOneBit_0f7a4 ∈ Wd := mW 908 (by decide +kernel) rfl
theorem mk_J6_lowestOneBit_0f7a4 : MokS yJ6_lowestOneBit_0f7a4 cJ6_lowestOneBit_0f7a4 1 (some .int) 1 := ⟨⟨mW 21 (by decide +kernel) rfl, mW 910 (by decide +kernel) rfl, ⟨by decide, by decide, by decide +kernel⟩, by decide⟩, mW 909 (by decide +kernel) rfl⟩
def Game_firstPlan_L3 (x2 : Int32) (Q : Hp → Prop) : Nat → Int32 → Hp → Prop
  | 0, _, _ => False
  | n + 1, x4, h => ((gI h 14 0) ≤ x4 → Q h) ∧ (¬ (gI h 14 0) ≤ x4 → (8 ≤ x4 → Q h) ∧ (¬ 8 ≤ x4 → (8 ≤ x4 → Q h) ∧ (¬ 8 ≤ x4 → Land_owner x4 h (fun r1 h2 => ∀ J53 : Hp → Prop, J53 = (fun h3 => ∀ v4 : Int32, v4 = (x4 + 1) → Game_firstPlan_L3 x2 Q n v4 h3) → (¬ r1 = x2 → J53 h2) ∧ (r1 = x2 → vp_in x4 8 ∧ J6_lowestOneBit_0f7a4 (gI h2 81 (x4).toNatClampNeg) h2 (fun r5 h6 => vp_in x4 8 ∧ ∀ h7 : Hp, h7 = sI h6 74 (x4).toNatClampNeg r5 → J53 h7))))))
set_option maxHeartbeats 4000000 in
set_option maxRecDepth 20000 in
theorem gl_Game_firstPlan_L3 {G : Gx}  {x2 : Int32} {Q : Hp → Prop} : ∀ (n : Nat) (x4 : Int32) (h : Hp), Game_firstPlan_L3 x2 Q n x4 h → Go cX0_firstPlan 5 RX0 none 2 G (QV G Q) 3 [(0, .ref (gAd G 80)), (1, .ref (gAd G 14)), (2, .int x2), (3, .ref (gAd G 74)), (4, .int x4)] [] h := by
  intro n
  induction n with
  | zero => intro _ h hw; exact False.elim hw
  | succ n ih =>
    intro x4 h hw
    refine g_iload dX0_firstPlan_3 rfl ?_
    refine g_aload_n dX0_firstPlan_5 rfl rfl ?_
    refine g_getI dX0_firstPlan_6 fl_X0_81 sh14 rfl ?_
    refine g_icmp_ge 59 dX0_firstPlan_9 rfl (fun hc => ?_) (fun hc => ?_)
    · have hw := hw.1 hc
      exact g_vret dX0_firstPlan_59 hw
    · have hw := hw.2 hc
      refine g_iload dX0_firstPlan_12 rfl ?_
      refine g_aload_n dX0_firstPlan_14 rfl rfl ?_
      refine g_getA dX0_firstPlan_15 fl_X0_15 sh80 rfl ?_
      refine g_alen dX0_firstPlan_18 ia81 (by decide) al81 (v := 8) (by decide) ?_
      refine g_icmp_ge 59 dX0_firstPlan_19 rfl (fun hc => ?_) (fun hc => ?_)
      · have hw := hw.1 hc
        exact g_vret dX0_firstPlan_59 hw
      · have hw := hw.2 hc
        refine g_iload dX0_firstPlan_22 rfl ?_
        refine g_aload_n dX0_firstPlan_24 rfl rfl ?_
        refine g_alen dX0_firstPlan_25 ia74 (by decide) al74 (v := 8) (by decide) ?_
        refine g_icmp_ge 59 dX0_firstPlan_26 rfl (fun hc => ?_) (fun hc => ?_)
        · have hw := hw.1 hc
          exact g_vret dX0_firstPlan_59 hw
        · have hw := hw.2 hc
          refine g_aload_n dX0_firstPlan_29 rfl rfl ?_
          refine g_iload dX0_firstPlan_30 rfl ?_
          refine g_callVI [.int x4] (ci := 2) dX0_firstPlan_32 ml_X0_87 mk_X2_owner rfl rfl sh14 (Nat.le_of_ble_eq_true rfl) (Nat.le_of_ble_eq_true rfl) rfl (c_Land_owner hw) (fun r1 h2 hw => ?_)
          refine g_iload_n dX0_firstPlan_35 rfl rfl ?_
          refine jn_el hw (fun J53 eJ53 hw => ?_)
          have hJ53 : ∀ (h3 : Hp), J53 h3 → Go cX0_firstPlan 5 RX0 none 2 G (QV G Q) 53 [(0, .ref (gAd G 80)), (1, .ref (gAd G 14)), (2, .int x2), (3, .ref (gAd G 74)), (4, .int x4)] [] h3 := by
            intro h3 hw
            subst eJ53
            obtain ⟨v4, ev4⟩ : ∃ y : Int32, y = (x4 + 1) := ⟨_, rfl⟩
            have hw := hw v4 ev4
            refine g_iinc dX0_firstPlan_53 rfl (by rw [ev4]; rfl) (by decide) (lv1 := [(0, .ref (gAd G 80)), (1, .ref (gAd G 14)), (2, .int x2), (3, .ref (gAd G 74)), (4, .int v4)]) rfl ?_
            refine g_goto 3 dX0_firstPlan_56 rfl ?_
            exact ih _ _ hw
          refine g_icmp_ne 53 dX0_firstPlan_36 rfl (fun hc => ?_) (fun hc => ?_)
          · have hw := hw.1 hc
            exact hJ53 _ hw
          · have hw := hw.2 hc
            refine g_aload_n dX0_firstPlan_39 rfl rfl ?_
            refine g_iload dX0_firstPlan_40 rfl ?_
            refine g_aload_n dX0_firstPlan_42 rfl rfl ?_
            refine g_getA dX0_firstPlan_43 fl_X0_15 sh80 rfl ?_
            refine g_iload dX0_firstPlan_46 rfl ?_
            refine g_iald dX0_firstPlan_48 ia81 al81 hw.1 ?_
            have hw := hw.2
            refine g_callSI [.int (gI h2 81 (x4).toNatClampNeg)] dX0_firstPlan_49 ml_X0_96 mk_J6_lowestOneBit_0f7a4 rfl (Nat.le_of_ble_eq_true rfl) (Nat.le_of_ble_eq_true rfl) rfl (c_J6_lowestOneBit_0f7a4 hw) (fun r5 h6 hw => ?_)
            refine g_iast dX0_firstPlan_52 ia74 al74 hw.1 ?_
            have hw := hw.2
            refine g_heap (fun h7 eh7 => ?_)
            have hw := hw h7 eh7
            exact hJ53 _ hw
def Game_firstPlan (x2 : Int32) (h : Hp) (Q : Hp → Prop) : Prop := ∃ n8, Game_firstPlan_L3 x2 Q n8 0 h
set_option maxHeartbeats 4000000 in
set_option maxRecDepth 20000 in
theorem c_Game_firstPlan {G : Gx}  {x2 : Int32} {h : Hp} {Q : Hp → Prop} (hw : Game_firstPlan x2 h Q) : Ct yX0_firstPlan cX0_firstPlan 5 none 2 G [.ref (gAd G 80), .ref (gAd G 14), .int x2, .ref (gAd G 74)] h (QV G Q) := by
  refine ct_go [(0, .ref (gAd G 80)), (1, .ref (gAd G 14)), (2, .int x2), (3, .ref (gAd G 74))] (plainFor_of_name (by decide)) rfl (Nat.le_of_ble_eq_true rfl) rfl ?_
  refine g_iconst (v := 0) dX0_firstPlan_0 (by decide) ?_
  refine g_istore dX0_firstPlan_1 (by decide) (lv1 := [(0, .ref (gAd G 80)), (1, .ref (gAd G 14)), (2, .int x2), (3, .ref (gAd G 74)), (4, .int 0)]) rfl ?_
  obtain ⟨n8, hw⟩ := hw
  refine gl_Game_firstPlan_L3   _ _ _ hw
theorem dX8_placeCount_0 : decode cX8_placeCount 0 = .ok (.aload_n 0, 1) := by decide +kernel
theorem dX8_placeCount_1 : decode cX8_placeCount 1 = .ok (.getfield 9, 3) := by decide +kernel
theorem dX8_placeCount_4 : decode cX8_placeCount 4 = .ok (.ifnonnull 7, 3) := by decide +kernel
theorem dX8_placeCount_7 : decode cX8_placeCount 7 = .ok (.iconst 0, 1) := by decide +kernel
theorem dX8_placeCount_8 : decode cX8_placeCount 8 = .ok (.goto 15, 3) := by decide +kernel
theorem dX8_placeCount_11 : decode cX8_placeCount 11 = .ok (.aload_n 0, 1) := by decide +kernel
theorem dX8_placeCount_12 : decode cX8_placeCount 12 = .ok (.getfield 9, 3) := by decide +kernel
theorem dX8_placeCount_15 : decode cX8_placeCount 15 = .ok (.getfield 50, 3) := by decide +kernel
theorem dX8_placeCount_18 : decode cX8_placeCount 18 = .ok (.bipush 8, 2) := by decide +kernel
theorem dX8_placeCount_20 : decode cX8_placeCount 20 = .ok (.invokestatic 53, 3) := by decide +kernel
theorem dX8_placeCount_23 : decode cX8_placeCount 23 = .ok (.ireturn, 1) := by decide +kernel
theorem fl_X8_50 : FLk RX8 50 2 0 := ⟨_, rfl, by decide, mW 142 (by decide +kernel) rfl⟩
theorem ml_X8_53 : Cond.methodLink RX8 53 yJ9_min_7cf53 ∈ Wd := mW 923 (by decide +kernel) rfl
def Survey_placeCount  (h : Hp) (Q : Int32 → Hp → Prop) : Prop := (gR h 2 = none → Q 0 h) ∧ (∀ q1, gR h 2 = some q1 → gR h 2 = some 14 ∧ J9_min_7cf53 (gI h 14 0) 8 h (fun r3 h4 => Q r3 h4))
set_option maxHeartbeats 4000000 in
set_option maxRecDepth 20000 in
theorem c_Survey_placeCount {G : Gx}   {h : Hp} {Q : Int32 → Hp → Prop} (hw : Survey_placeCount  h Q) : Ct yX8_placeCount cX8_placeCount 1 (some .int) 2 G [.ref (gAd G 73)] h (QI G Q) := by
  refine ct_go [(0, .ref (gAd G 73))] (plainFor_of_name (by decide)) rfl (Nat.le_of_ble_eq_true rfl) rfl ?_
  refine g_aload_n dX8_placeCount_0 rfl rfl ?_
  cases hqq1 : gR h 2 with
  | none =>
    have hw := hw.1 hqq1
    refine g_getM0 dX8_placeCount_1 fl_X8_9 sh73 rfl hqq1 ?_
    refine g_ifnonnullN dX8_placeCount_4 ?_
    refine g_iconst (v := 0) dX8_placeCount_7 (by decide) ?_
    refine g_goto 23 dX8_placeCount_8 rfl ?_
    exact g_iret dX8_placeCount_23 hw
  | some q1 =>
    have hw := hw.2 q1 hqq1
    refine g_getM dX8_placeCount_1 fl_X8_9 sh73 rfl hqq1 ?_
    refine g_ifnonnull 11 dX8_placeCount_4 rfl ?_
    refine g_aload_n dX8_placeCount_11 rfl rfl ?_
    refine g_getM dX8_placeCount_12 fl_X8_9 sh73 rfl hw.1 ?_
    have hw := hw.2
    refine g_getI dX8_placeCount_15 fl_X8_50 sh14 rfl ?_
    refine g_bipush (v := 8) dX8_placeCount_18 (by decide) ?_
    refine g_callSI [.int (gI h 14 0), .int 8] dX8_placeCount_20 ml_X8_53 mk_J9_min_7cf53 rfl (Nat.le_of_ble_eq_true rfl) (Nat.le_of_ble_eq_true rfl) rfl (c_J9_min_7cf53 hw) (fun r3 h4 hw => ?_)
    exact g_iret dX8_placeCount_23 hw
theorem dX8_note_0 : decode cX8_note 0 = .ok (.aload_n 0, 1) := by decide +kernel
theorem dX8_note_1 : decode cX8_note 1 = .ok (.dup, 1) := by decide +kernel
theorem dX8_note_2 : decode cX8_note 2 = .ok (.getfield 41, 3) := by decide +kernel
theorem dX8_note_5 : decode cX8_note 5 = .ok (.iconst 1, 1) := by decide +kernel
theorem dX8_note_6 : decode cX8_note 6 = .ok (.iadd, 1) := by decide +kernel
theorem dX8_note_7 : decode cX8_note 7 = .ok (.putfield 41, 3) := by decide +kernel
theorem dX8_note_10 : decode cX8_note 10 = .ok (.iconst 0, 1) := by decide +kernel
theorem dX8_note_11 : decode cX8_note 11 = .ok (.istore_n 3, 1) := by decide +kernel
theorem dX8_note_12 : decode cX8_note 12 = .ok (.iload_n 3, 1) := by decide +kernel
theorem dX8_note_13 : decode cX8_note 13 = .ok (.aload_n 0, 1) := by decide +kernel
theorem dX8_note_14 : decode cX8_note 14 = .ok (.getfield 29, 3) := by decide +kernel
theorem dX8_note_17 : decode cX8_note 17 = .ok (.arraylength, 1) := by decide +kernel
theorem dX8_note_18 : decode cX8_note 18 = .ok (.if_icmp .ge 50, 3) := by decide +kernel
theorem dX8_note_21 : decode cX8_note 21 = .ok (.iload_n 1, 1) := by decide +kernel
theorem dX8_note_22 : decode cX8_note 22 = .ok (.iload_n 3, 1) := by decide +kernel
theorem dX8_note_23 : decode cX8_note 23 = .ok (.ishr, 1) := by decide +kernel
theorem dX8_note_24 : decode cX8_note 24 = .ok (.iconst 1, 1) := by decide +kernel
theorem dX8_note_25 : decode cX8_note 25 = .ok (.iand, 1) := by decide +kernel
theorem dX8_note_26 : decode cX8_note 26 = .ok (.iconst 1, 1) := by decide +kernel
theorem dX8_note_27 : decode cX8_note 27 = .ok (.if_icmp .ne 35, 3) := by decide +kernel
theorem dX8_note_30 : decode cX8_note 30 = .ok (.aload_n 0, 1) := by decide +kernel
theorem dX8_note_31 : decode cX8_note 31 = .ok (.getfield 29, 3) := by decide +kernel
theorem dX8_note_34 : decode cX8_note 34 = .ok (.iload_n 3, 1) := by decide +kernel
theorem dX8_note_35 : decode cX8_note 35 = .ok (.aload_n 0, 1) := by decide +kernel
theorem dX8_note_36 : decode cX8_note 36 = .ok (.getfield 29, 3) := by decide +kernel
theorem dX8_note_39 : decode cX8_note 39 = .ok (.iload_n 3, 1) := by decide +kernel
theorem dX8_note_40 : decode cX8_note 40 = .ok (.iaload, 1) := by decide +kernel
theorem dX8_note_41 : decode cX8_note 41 = .ok (.iload_n 2, 1) := by decide +kernel
theorem dX8_note_42 : decode cX8_note 42 = .ok (.invokestatic 53, 3) := by decide +kernel
theorem dX8_note_45 : decode cX8_note 45 = .ok (.iastore, 1) := by decide +kernel
theorem dX8_note_46 : decode cX8_note 46 = .ok (.aload_n 0, 1) := by decide +kernel
theorem dX8_note_47 : decode cX8_note 47 = .ok (.getfield 32, 3) := by decide +kernel
theorem dX8_note_50 : decode cX8_note 50 = .ok (.iload_n 3, 1) := by decide +kernel
theorem dX8_note_51 : decode cX8_note 51 = .ok (.aload_n 0, 1) := by decide +kernel
theorem dX8_note_52 : decode cX8_note 52 = .ok (.getfield 32, 3) := by decide +kernel
theorem dX8_note_55 : decode cX8_note 55 = .ok (.iload_n 3, 1) := by decide +kernel
theorem dX8_note_56 : decode cX8_note 56 = .ok (.iaload, 1) := by decide +kernel
theorem dX8_note_57 : decode cX8_note 57 = .ok (.iload_n 2, 1) := by decide +kernel
theorem dX8_note_58 : decode cX8_note 58 = .ok (.invokestatic 93, 3) := by decide +kernel
theorem dX8_note_61 : decode cX8_note 61 = .ok (.iastore, 1) := by decide +kernel
theorem dX8_note_62 : decode cX8_note 62 = .ok (.iinc 3 1, 3) := by decide +kernel
theorem dX8_note_65 : decode cX8_note 65 = .ok (.goto (-53), 3) := by decide +kernel
theorem dX8_note_68 : decode cX8_note 68 = .ok (.return_, 1) := by decide +kernel
theorem fl_X8_41 : FLk RX8 41 8 9 := ⟨_, rfl, by decide, mW 261 (by decide +kernel) rfl⟩
theorem pf_8_9 : parseFieldDescriptor (uD 8 9) = some .int := by decide +kernel
theorem fl_X8_29 : FLk RX8 29 8 5 := ⟨_, rfl, by decide, mW 255 (by decide +kernel) rfl⟩
theorem fl_X8_32 : FLk RX8 32 8 6 := ⟨_, rfl, by decide, mW 256 (by decide +kernel) rfl⟩
theorem ml_X8_93 : Cond.methodLink RX8 93 yJ9_max_7cf53 ∈ Wd := mW 934 (by decide +kernel) rfl
def Survey_note_L12 (x1 : Int32) (x2 : Int32) (Q : Hp → Prop) : Nat → Int32 → Hp → Prop
  | 0, _, _ => False
  | n + 1, x3, h => (8 ≤ x3 → Q h) ∧ (¬ 8 ≤ x3 → ∀ J62 : Hp → Prop, J62 = (fun h2 => ∀ v3 : Int32, v3 = (x3 + 1) → Survey_note_L12 x1 x2 Q n v3 h2) → (¬ ((x1 >>> (x3 &&& 31)) &&& 1) = 1 → J62 h) ∧ (((x1 >>> (x3 &&& 31)) &&& 1) = 1 → vp_in x3 8 ∧ J9_min_7cf53 (gI h 76 (x3).toNatClampNeg) x2 h (fun r4 h5 => vp_in x3 8 ∧ ∀ h6 : Hp, h6 = sI h5 76 (x3).toNatClampNeg r4 → vp_in x3 8 ∧ J9_max_7cf53 (gI h6 77 (x3).toNatClampNeg) x2 h6 (fun r7 h8 => vp_in x3 8 ∧ ∀ h9 : Hp, h9 = sI h8 77 (x3).toNatClampNeg r7 → J62 h9))))
set_option maxHeartbeats 4000000 in
set_option maxRecDepth 20000 in
theorem gl_Survey_note_L12 {G : Gx}  {x1 : Int32} {x2 : Int32} {Q : Hp → Prop} : ∀ (n : Nat) (x3 : Int32) (h : Hp), Survey_note_L12 x1 x2 Q n x3 h → Go cX8_note 4 RX8 none 2 G (QV G Q) 12 [(0, .ref (gAd G 73)), (1, .int x1), (2, .int x2), (3, .int x3)] [] h := by
  intro n
  induction n with
  | zero => intro _ h hw; exact False.elim hw
  | succ n ih =>
    intro x3 h hw
    refine g_iload_n dX8_note_12 rfl rfl ?_
    refine g_aload_n dX8_note_13 rfl rfl ?_
    refine g_getA dX8_note_14 fl_X8_29 sh73 rfl ?_
    refine g_alen dX8_note_17 ia76 (by decide) al76 (v := 8) (by decide) ?_
    refine g_icmp_ge 68 dX8_note_18 rfl (fun hc => ?_) (fun hc => ?_)
    · have hw := hw.1 hc
      exact g_vret dX8_note_68 hw
    · have hw := hw.2 hc
      refine g_iload_n dX8_note_21 rfl rfl ?_
      refine g_iload_n dX8_note_22 rfl rfl ?_
      refine g_ishr dX8_note_23 ?_
      refine g_iconst (v := 1) dX8_note_24 (by decide) ?_
      refine g_iand dX8_note_25 ?_
      refine g_iconst (v := 1) dX8_note_26 (by decide) ?_
      refine jn_el hw (fun J62 eJ62 hw => ?_)
      have hJ62 : ∀ (h2 : Hp), J62 h2 → Go cX8_note 4 RX8 none 2 G (QV G Q) 62 [(0, .ref (gAd G 73)), (1, .int x1), (2, .int x2), (3, .int x3)] [] h2 := by
        intro h2 hw
        subst eJ62
        obtain ⟨v3, ev3⟩ : ∃ y : Int32, y = (x3 + 1) := ⟨_, rfl⟩
        have hw := hw v3 ev3
        refine g_iinc dX8_note_62 rfl (by rw [ev3]; rfl) (by decide) (lv1 := [(0, .ref (gAd G 73)), (1, .int x1), (2, .int x2), (3, .int v3)]) rfl ?_
        refine g_goto 12 dX8_note_65 rfl ?_
        exact ih _ _ hw
      refine g_icmp_ne 62 dX8_note_27 rfl (fun hc => ?_) (fun hc => ?_)
      · have hw := hw.1 hc
        exact hJ62 _ hw
      · have hw := hw.2 hc
        refine g_aload_n dX8_note_30 rfl rfl ?_
        refine g_getA dX8_note_31 fl_X8_29 sh73 rfl ?_
        refine g_iload_n dX8_note_34 rfl rfl ?_
        refine g_aload_n dX8_note_35 rfl rfl ?_
        refine g_getA dX8_note_36 fl_X8_29 sh73 rfl ?_
        refine g_iload_n dX8_note_39 rfl rfl ?_
        refine g_iald dX8_note_40 ia76 al76 hw.1 ?_
        have hw := hw.2
        refine g_iload_n dX8_note_41 rfl rfl ?_
        refine g_callSI [.int (gI h 76 (x3).toNatClampNeg), .int x2] dX8_note_42 ml_X8_53 mk_J9_min_7cf53 rfl (Nat.le_of_ble_eq_true rfl) (Nat.le_of_ble_eq_true rfl) rfl (c_J9_min_7cf53 hw) (fun r4 h5 hw => ?_)
        refine g_iast dX8_note_45 ia76 al76 hw.1 ?_
        have hw := hw.2
        refine g_heap (fun h6 eh6 => ?_)
        have hw := hw h6 eh6
        refine g_aload_n dX8_note_46 rfl rfl ?_
        refine g_getA dX8_note_47 fl_X8_32 sh73 rfl ?_
        refine g_iload_n dX8_note_50 rfl rfl ?_
        refine g_aload_n dX8_note_51 rfl rfl ?_
        refine g_getA dX8_note_52 fl_X8_32 sh73 rfl ?_
        refine g_iload_n dX8_note_55 rfl rfl ?_
        refine g_iald dX8_note_56 ia77 al77 hw.1 ?_
        have hw := hw.2
        refine g_iload_n dX8_note_57 rfl rfl ?_
        refine g_callSI [.int (gI h6 77 (x3).toNatClampNeg), .int x2] dX8_note_58 ml_X8_93 mk_J9_max_7cf53 rfl (Nat.le_of_ble_eq_true rfl) (Nat.le_of_ble_eq_true rfl) rfl (c_J9_max_7cf53 hw) (fun r7 h8 hw => ?_)
        refine g_iast dX8_note_61 ia77 al77 hw.1 ?_
        have hw := hw.2
        refine g_heap (fun h9 eh9 => ?_)
        have hw := hw h9 eh9
        exact hJ62 _ hw
def Survey_note (x1 : Int32) (x2 : Int32) (h : Hp) (Q : Hp → Prop) : Prop := ∀ h1 : Hp, h1 = sI h 73 9 ((gI h 73 9) + 1) → ∃ n10, Survey_note_L12 x1 x2 Q n10 0 h1
set_option maxHeartbeats 4000000 in
set_option maxRecDepth 20000 in
theorem c_Survey_note {G : Gx}  {x1 : Int32} {x2 : Int32} {h : Hp} {Q : Hp → Prop} (hw : Survey_note x1 x2 h Q) : Ct yX8_note cX8_note 4 none 2 G [.ref (gAd G 73), .int x1, .int x2] h (QV G Q) := by
  refine ct_go [(0, .ref (gAd G 73)), (1, .int x1), (2, .int x2)] (plainFor_of_name (by decide)) rfl (Nat.le_of_ble_eq_true rfl) rfl ?_
  refine g_aload_n dX8_note_0 rfl rfl ?_
  refine g_dup dX8_note_1 rfl ?_
  refine g_getI dX8_note_2 fl_X8_41 sh73 rfl ?_
  refine g_iconst (v := 1) dX8_note_5 (by decide) ?_
  refine g_iadd dX8_note_6 ?_
  refine g_putI dX8_note_7 fl_X8_41 sh73 rfl rfl pf_8_9 ?_
  refine g_heap (fun h1 eh1 => ?_)
  have hw := hw h1 eh1
  refine g_iconst (v := 0) dX8_note_10 (by decide) ?_
  refine g_istore_n dX8_note_11 rfl (by decide) (lv1 := [(0, .ref (gAd G 73)), (1, .int x1), (2, .int x2), (3, .int 0)]) rfl ?_
  obtain ⟨n10, hw⟩ := hw
  refine gl_Survey_note_L12   _ _ _ hw
theorem dX8_walk_0 : decode cX8_walk 0 = .ok (.aload_n 0, 1) := by decide +kernel
theorem dX8_walk_1 : decode cX8_walk 1 = .ok (.getfield 9, 3) := by decide +kernel
theorem dX8_walk_4 : decode cX8_walk 4 = .ok (.ifnull 29, 3) := by decide +kernel
theorem dX8_walk_7 : decode cX8_walk 7 = .ok (.iload_n 1, 1) := by decide +kernel
theorem dX8_walk_8 : decode cX8_walk 8 = .ok (.ifCond .lt 25, 3) := by decide +kernel
theorem dX8_walk_11 : decode cX8_walk 11 = .ok (.iload_n 1, 1) := by decide +kernel
theorem dX8_walk_12 : decode cX8_walk 12 = .ok (.aload_n 0, 1) := by decide +kernel
theorem dX8_walk_13 : decode cX8_walk 13 = .ok (.getfield 22, 3) := by decide +kernel
theorem dX8_walk_16 : decode cX8_walk 16 = .ok (.arraylength, 1) := by decide +kernel
theorem dX8_walk_17 : decode cX8_walk 17 = .ok (.if_icmp .ge 16, 3) := by decide +kernel
theorem dX8_walk_20 : decode cX8_walk 20 = .ok (.iload 4, 2) := by decide +kernel
theorem dX8_walk_22 : decode cX8_walk 22 = .ok (.iconst 1, 1) := by decide +kernel
theorem dX8_walk_23 : decode cX8_walk 23 = .ok (.if_icmp .lt 10, 3) := by decide +kernel
theorem dX8_walk_26 : decode cX8_walk 26 = .ok (.iload 4, 2) := by decide +kernel
theorem dX8_walk_28 : decode cX8_walk 28 = .ok (.bipush 8, 2) := by decide +kernel
theorem dX8_walk_30 : decode cX8_walk 30 = .ok (.if_icmp .le 4, 3) := by decide +kernel
theorem dX8_walk_33 : decode cX8_walk 33 = .ok (.return_, 1) := by decide +kernel
theorem dX8_walk_34 : decode cX8_walk 34 = .ok (.iconst 0, 1) := by decide +kernel
theorem dX8_walk_35 : decode cX8_walk 35 = .ok (.istore 5, 2) := by decide +kernel
theorem dX8_walk_37 : decode cX8_walk 37 = .ok (.iload 5, 2) := by decide +kernel
theorem dX8_walk_39 : decode cX8_walk 39 = .ok (.bipush 16, 2) := by decide +kernel
theorem dX8_walk_41 : decode cX8_walk 41 = .ok (.if_icmp .gt 128, 3) := by decide +kernel
theorem dX8_walk_44 : decode cX8_walk 44 = .ok (.aload_n 0, 1) := by decide +kernel
theorem dX8_walk_45 : decode cX8_walk 45 = .ok (.getfield 22, 3) := by decide +kernel
theorem dX8_walk_48 : decode cX8_walk 48 = .ok (.iload_n 1, 1) := by decide +kernel
theorem dX8_walk_49 : decode cX8_walk 49 = .ok (.iaload, 1) := by decide +kernel
theorem dX8_walk_50 : decode cX8_walk 50 = .ok (.iload 5, 2) := by decide +kernel
theorem dX8_walk_52 : decode cX8_walk 52 = .ok (.ishr, 1) := by decide +kernel
theorem dX8_walk_53 : decode cX8_walk 53 = .ok (.iconst 1, 1) := by decide +kernel
theorem dX8_walk_54 : decode cX8_walk 54 = .ok (.iand, 1) := by decide +kernel
theorem dX8_walk_55 : decode cX8_walk 55 = .ok (.iconst 1, 1) := by decide +kernel
theorem dX8_walk_56 : decode cX8_walk 56 = .ok (.if_icmp .ne 107, 3) := by decide +kernel
theorem dX8_walk_59 : decode cX8_walk 59 = .ok (.aload_n 0, 1) := by decide +kernel
theorem dX8_walk_60 : decode cX8_walk 60 = .ok (.getfield 9, 3) := by decide +kernel
theorem dX8_walk_63 : decode cX8_walk 63 = .ok (.iload_n 1, 1) := by decide +kernel
theorem dX8_walk_64 : decode cX8_walk 64 = .ok (.iload 5, 2) := by decide +kernel
theorem dX8_walk_66 : decode cX8_walk 66 = .ok (.invokevirtual 84, 3) := by decide +kernel
theorem dX8_walk_69 : decode cX8_walk 69 = .ok (.istore 6, 2) := by decide +kernel
theorem dX8_walk_71 : decode cX8_walk 71 = .ok (.iload_n 3, 1) := by decide +kernel
theorem dX8_walk_72 : decode cX8_walk 72 = .ok (.aload_n 0, 1) := by decide +kernel
theorem dX8_walk_73 : decode cX8_walk 73 = .ok (.getfield 9, 3) := by decide +kernel
theorem dX8_walk_76 : decode cX8_walk 76 = .ok (.aload_n 0, 1) := by decide +kernel
theorem dX8_walk_77 : decode cX8_walk 77 = .ok (.getfield 15, 3) := by decide +kernel
theorem dX8_walk_80 : decode cX8_walk 80 = .ok (.iload 5, 2) := by decide +kernel
theorem dX8_walk_82 : decode cX8_walk 82 = .ok (.invokevirtual 87, 3) := by decide +kernel
theorem dX8_walk_85 : decode cX8_walk 85 = .ok (.iadd, 1) := by decide +kernel
theorem dX8_walk_86 : decode cX8_walk 86 = .ok (.istore 7, 2) := by decide +kernel
theorem dX8_walk_88 : decode cX8_walk 88 = .ok (.aload_n 0, 1) := by decide +kernel
theorem dX8_walk_89 : decode cX8_walk 89 = .ok (.getfield 26, 3) := by decide +kernel
theorem dX8_walk_92 : decode cX8_walk 92 = .ok (.iload_n 1, 1) := by decide +kernel
theorem dX8_walk_93 : decode cX8_walk 93 = .ok (.dup2, 1) := by decide +kernel
theorem dX8_walk_94 : decode cX8_walk 94 = .ok (.iaload, 1) := by decide +kernel
theorem dX8_walk_95 : decode cX8_walk 95 = .ok (.iconst 1, 1) := by decide +kernel
theorem dX8_walk_96 : decode cX8_walk 96 = .ok (.iload 6, 2) := by decide +kernel
theorem dX8_walk_98 : decode cX8_walk 98 = .ok (.ishl, 1) := by decide +kernel
theorem dX8_walk_99 : decode cX8_walk 99 = .ok (.ior, 1) := by decide +kernel
theorem dX8_walk_100 : decode cX8_walk 100 = .ok (.iastore, 1) := by decide +kernel
theorem dX8_walk_101 : decode cX8_walk 101 = .ok (.iload 6, 2) := by decide +kernel
theorem dX8_walk_103 : decode cX8_walk 103 = .ok (.aload_n 0, 1) := by decide +kernel
theorem dX8_walk_104 : decode cX8_walk 104 = .ok (.getfield 19, 3) := by decide +kernel
theorem dX8_walk_107 : decode cX8_walk 107 = .ok (.if_icmp .ne 20, 3) := by decide +kernel
theorem dX8_walk_110 : decode cX8_walk 110 = .ok (.aload_n 0, 1) := by decide +kernel
theorem dX8_walk_111 : decode cX8_walk 111 = .ok (.iload_n 2, 1) := by decide +kernel
theorem dX8_walk_112 : decode cX8_walk 112 = .ok (.iload 7, 2) := by decide +kernel
theorem dX8_walk_114 : decode cX8_walk 114 = .ok (.sipush 840, 3) := by decide +kernel
theorem dX8_walk_117 : decode cX8_walk 117 = .ok (.imul, 1) := by decide +kernel
theorem dX8_walk_118 : decode cX8_walk 118 = .ok (.iload 4, 2) := by decide +kernel
theorem dX8_walk_120 : decode cX8_walk 120 = .ok (.idiv, 1) := by decide +kernel
theorem dX8_walk_121 : decode cX8_walk 121 = .ok (.invokevirtual 90, 3) := by decide +kernel
theorem dX8_walk_124 : decode cX8_walk 124 = .ok (.goto 39, 3) := by decide +kernel
theorem dX8_walk_127 : decode cX8_walk 127 = .ok (.iload 6, 2) := by decide +kernel
theorem dX8_walk_129 : decode cX8_walk 129 = .ok (.aload_n 0, 1) := by decide +kernel
theorem dX8_walk_130 : decode cX8_walk 130 = .ok (.getfield 19, 3) := by decide +kernel
theorem dX8_walk_133 : decode cX8_walk 133 = .ok (.if_icmp .le 30, 3) := by decide +kernel
theorem dX8_walk_136 : decode cX8_walk 136 = .ok (.iload_n 2, 1) := by decide +kernel
theorem dX8_walk_137 : decode cX8_walk 137 = .ok (.iload 6, 2) := by decide +kernel
theorem dX8_walk_139 : decode cX8_walk 139 = .ok (.ishr, 1) := by decide +kernel
theorem dX8_walk_140 : decode cX8_walk 140 = .ok (.iconst 1, 1) := by decide +kernel
theorem dX8_walk_141 : decode cX8_walk 141 = .ok (.iand, 1) := by decide +kernel
theorem dX8_walk_142 : decode cX8_walk 142 = .ok (.ifCond .ne 21, 3) := by decide +kernel
theorem dX8_walk_145 : decode cX8_walk 145 = .ok (.aload_n 0, 1) := by decide +kernel
theorem dX8_walk_146 : decode cX8_walk 146 = .ok (.iload 6, 2) := by decide +kernel
theorem dX8_walk_148 : decode cX8_walk 148 = .ok (.iload_n 2, 1) := by decide +kernel
theorem dX8_walk_149 : decode cX8_walk 149 = .ok (.iconst 1, 1) := by decide +kernel
theorem dX8_walk_150 : decode cX8_walk 150 = .ok (.iload 6, 2) := by decide +kernel
theorem dX8_walk_152 : decode cX8_walk 152 = .ok (.ishl, 1) := by decide +kernel
theorem dX8_walk_153 : decode cX8_walk 153 = .ok (.ior, 1) := by decide +kernel
theorem dX8_walk_154 : decode cX8_walk 154 = .ok (.iload 7, 2) := by decide +kernel
theorem dX8_walk_156 : decode cX8_walk 156 = .ok (.iload 4, 2) := by decide +kernel
theorem dX8_walk_158 : decode cX8_walk 158 = .ok (.iconst 1, 1) := by decide +kernel
theorem dX8_walk_159 : decode cX8_walk 159 = .ok (.iadd, 1) := by decide +kernel
theorem dX8_walk_160 : decode cX8_walk 160 = .ok (.invokevirtual 72, 3) := by decide +kernel
theorem dX8_walk_163 : decode cX8_walk 163 = .ok (.iinc 5 1, 3) := by decide +kernel
theorem dX8_walk_166 : decode cX8_walk 166 = .ok (.goto (-129), 3) := by decide +kernel
theorem dX8_walk_169 : decode cX8_walk 169 = .ok (.return_, 1) := by decide +kernel
theorem ml_X8_84 : Cond.methodLink RX8 84 yX2_target ∈ Wd := mW 928 (by decide +kernel) rfl
theorem ml_X8_87 : Cond.methodLink RX8 87 yX2_payOf ∈ Wd := mW 929 (by decide +kernel) rfl
theorem fl_X8_26 : FLk RX8 26 8 4 := ⟨_, rfl, by decide, mW 253 (by decide +kernel) rfl⟩
theorem fl_X8_19 : FLk RX8 19 8 2 := ⟨_, rfl, by decide, mW 250 (by decide +kernel) rfl⟩
theorem ml_X8_72 : Cond.methodLink RX8 72 yX8_walk ∈ Wd := mW 924 (by decide +kernel) rfl
theorem mk_X8_walk : MokV yX8_walk cX8_walk 8 none 4 := ⟨⟨mW 9 (by decide +kernel) rfl, mW 927 (by decide +kernel) rfl, ⟨by decide, by decide, by decide +kernel⟩, by decide⟩, mW 926 (by decide +kernel) rfl, mS (q := (yX8_walk, 10)) 26 (by decide +kernel)⟩
theorem ml_X8_90 : Cond.methodLink RX8 90 yX8_note ∈ Wd := mW 930 (by decide +kernel) rfl
theorem mk_X8_note : MokV yX8_note cX8_note 4 none 2 := ⟨⟨mW 9 (by decide +kernel) rfl, mW 933 (by decide +kernel) rfl, ⟨by decide, by decide, by decide +kernel⟩, by decide⟩, mW 932 (by decide +kernel) rfl, mS (q := (yX8_note, 10)) 27 (by decide +kernel)⟩
def Survey_walk_L37 (x1 : Int32) (x2 : Int32) (x3 : Int32) (x4 : Int32) (R_walk : Int32 → Int32 → Int32 → Int32 → Hp → (Hp → Prop) → Prop) (Q : Hp → Prop) : Nat → Int32 → Hp → Prop
  | 0, _, _ => False
  | n + 1, x5, h => (16 < x5 → Q h) ∧ (¬ 16 < x5 → vp_in x1 8 ∧ ∀ J163 : Hp → Prop, J163 = (fun h2 => ∀ v3 : Int32, v3 = (x5 + 1) → Survey_walk_L37 x1 x2 x3 x4 R_walk Q n v3 h2) → (¬ (((gI h 74 (x1).toNatClampNeg) >>> (x5 &&& 31)) &&& 1) = 1 → J163 h) ∧ ((((gI h 74 (x1).toNatClampNeg) >>> (x5 &&& 31)) &&& 1) = 1 → gR h 2 = some 14 ∧ Land_target x1 x5 h (fun r5 h6 => gR h6 2 = some 14 ∧ Land_payOf (gI h6 73 1) x5 h6 (fun r8 h9 => ∀ v10 : Int32, v10 = (x3 + r8) → vp_in x1 8 ∧ vp_in x1 8 ∧ ∀ h11 : Hp, h11 = sI h9 75 (x1).toNatClampNeg ((gI h9 75 (x1).toNatClampNeg) ||| ((1 : Int32) <<< (r5 &&& 31))) → (¬ r5 = (gI h11 73 2) → (r5 ≤ (gI h11 73 2) → J163 h11) ∧ (¬ r5 ≤ (gI h11 73 2) → (¬ ((x2 >>> (r5 &&& 31)) &&& 1) = 0 → J163 h11) ∧ (((x2 >>> (r5 &&& 31)) &&& 1) = 0 → R_walk r5 (x2 ||| ((1 : Int32) <<< (r5 &&& 31))) v10 (x4 + 1) h11 (fun h12 => J163 h12)))) ∧ (r5 = (gI h11 73 2) → ¬ x4 = 0 ∧ Survey_note x2 ((v10 * 840) / x4) h11 (fun h13 => J163 h13))))))
set_option maxHeartbeats 4000000 in
set_option maxRecDepth 20000 in
theorem gl_Survey_walk_L37 {G : Gx}  {d d1 : Nat} (hdd : d1 + 1 ≤ d) (hD : 3 ≤ d) {R_walk : Int32 → Int32 → Int32 → Int32 → Hp → (Hp → Prop) → Prop} (hR_walk : ∀ (y0 : Int32) (y1 : Int32) (y2 : Int32) (y3 : Int32) (h : Hp) (Q : Hp → Prop), R_walk y0 y1 y2 y3 h Q → Ct yX8_walk cX8_walk 8 none d1 G [.ref (gAd G 73), .int y0, .int y1, .int y2, .int y3] h (QV G Q)) {x1 : Int32} {x2 : Int32} {x3 : Int32} {x4 : Int32} {Q : Hp → Prop} : ∀ (n : Nat) (x5 : Int32) (h : Hp), Survey_walk_L37 x1 x2 x3 x4 R_walk Q n x5 h → Go cX8_walk 8 RX8 none d G (QV G Q) 37 [(0, .ref (gAd G 73)), (1, .int x1), (2, .int x2), (3, .int x3), (4, .int x4), (5, .int x5)] [] h := by
  intro n
  induction n with
  | zero => intro _ h hw; exact False.elim hw
  | succ n ih =>
    intro x5 h hw
    refine g_iload dX8_walk_37 rfl ?_
    refine g_bipush (v := 16) dX8_walk_39 (by decide) ?_
    refine g_icmp_gt 169 dX8_walk_41 rfl (fun hc => ?_) (fun hc => ?_)
    · have hw := hw.1 hc
      exact g_vret dX8_walk_169 hw
    · have hw := hw.2 hc
      refine g_aload_n dX8_walk_44 rfl rfl ?_
      refine g_getA dX8_walk_45 fl_X8_22 sh73 rfl ?_
      refine g_iload_n dX8_walk_48 rfl rfl ?_
      refine g_iald dX8_walk_49 ia74 al74 hw.1 ?_
      have hw := hw.2
      refine g_iload dX8_walk_50 rfl ?_
      refine g_ishr dX8_walk_52 ?_
      refine g_iconst (v := 1) dX8_walk_53 (by decide) ?_
      refine g_iand dX8_walk_54 ?_
      refine g_iconst (v := 1) dX8_walk_55 (by decide) ?_
      refine jn_el hw (fun J163 eJ163 hw => ?_)
      have hJ163 : ∀ (h2 : Hp), J163 h2 → Go cX8_walk 8 RX8 none d G (QV G Q) 163 [(0, .ref (gAd G 73)), (1, .int x1), (2, .int x2), (3, .int x3), (4, .int x4), (5, .int x5)] [] h2 := by
        intro h2 hw
        subst eJ163
        obtain ⟨v3, ev3⟩ : ∃ y : Int32, y = (x5 + 1) := ⟨_, rfl⟩
        have hw := hw v3 ev3
        refine g_iinc dX8_walk_163 rfl (by rw [ev3]; rfl) (by decide) (lv1 := [(0, .ref (gAd G 73)), (1, .int x1), (2, .int x2), (3, .int x3), (4, .int x4), (5, .int v3)]) rfl ?_
        refine g_goto 37 dX8_walk_166 rfl ?_
        exact ih _ _ hw
      refine g_icmp_ne 163 dX8_walk_56 rfl (fun hc => ?_) (fun hc => ?_)
      · have hw := hw.1 hc
        exact hJ163 _ hw
      · have hw := hw.2 hc
        refine g_aload_n dX8_walk_59 rfl rfl ?_
        refine g_getM dX8_walk_60 fl_X8_9 sh73 rfl hw.1 ?_
        have hw := hw.2
        refine g_iload_n dX8_walk_63 rfl rfl ?_
        refine g_iload dX8_walk_64 rfl ?_
        refine g_callVI [.int x1, .int x5] (ci := 2) dX8_walk_66 ml_X8_84 mk_X2_target rfl rfl sh14 (by omega) (Nat.le_of_ble_eq_true rfl) rfl (c_Land_target hw) (fun r5 h6 hw => ?_)
        refine g_istore dX8_walk_69 (by decide) (lv1 := [(0, .ref (gAd G 73)), (1, .int x1), (2, .int x2), (3, .int x3), (4, .int x4), (5, .int x5), (6, .int r5)]) rfl ?_
        refine g_iload_n dX8_walk_71 rfl rfl ?_
        refine g_aload_n dX8_walk_72 rfl rfl ?_
        refine g_getM dX8_walk_73 fl_X8_9 sh73 rfl hw.1 ?_
        have hw := hw.2
        refine g_aload_n dX8_walk_76 rfl rfl ?_
        refine g_getI dX8_walk_77 fl_X8_15 sh73 rfl ?_
        refine g_iload dX8_walk_80 rfl ?_
        refine g_callVI [.int (gI h6 73 1), .int x5] (ci := 2) dX8_walk_82 ml_X8_87 mk_X2_payOf rfl rfl sh14 (by omega) (Nat.le_of_ble_eq_true rfl) rfl (c_Land_payOf hw) (fun r8 h9 hw => ?_)
        refine g_iadd dX8_walk_85 ?_
        refine g_topi (fun v10 ev10 => ?_)
        have hw := hw v10 ev10
        refine g_istore dX8_walk_86 (by decide) (lv1 := [(0, .ref (gAd G 73)), (1, .int x1), (2, .int x2), (3, .int x3), (4, .int x4), (5, .int x5), (6, .int r5), (7, .int v10)]) rfl ?_
        refine g_aload_n dX8_walk_88 rfl rfl ?_
        refine g_getA dX8_walk_89 fl_X8_26 sh73 rfl ?_
        refine g_iload_n dX8_walk_92 rfl rfl ?_
        refine g_dup2_11 dX8_walk_93 rfl rfl ?_
        refine g_iald dX8_walk_94 ia75 al75 hw.1 ?_
        have hw := hw.2
        refine g_iconst (v := 1) dX8_walk_95 (by decide) ?_
        refine g_iload dX8_walk_96 rfl ?_
        refine g_ishl dX8_walk_98 ?_
        refine g_ior dX8_walk_99 ?_
        refine g_iast dX8_walk_100 ia75 al75 hw.1 ?_
        have hw := hw.2
        refine g_heap (fun h11 eh11 => ?_)
        have hw := hw h11 eh11
        refine g_iload dX8_walk_101 rfl ?_
        refine g_aload_n dX8_walk_103 rfl rfl ?_
        refine g_getI dX8_walk_104 fl_X8_19 sh73 rfl ?_
        refine g_icmp_ne 127 dX8_walk_107 rfl (fun hc => ?_) (fun hc => ?_)
        · have hw := hw.1 hc
          refine g_iload dX8_walk_127 rfl ?_
          refine g_aload_n dX8_walk_129 rfl rfl ?_
          refine g_getI dX8_walk_130 fl_X8_19 sh73 rfl ?_
          refine g_icmp_le 163 dX8_walk_133 rfl (fun hc => ?_) (fun hc => ?_)
          · have hw := hw.1 hc
            refine g_lv [0, 1, 2, 3, 4, 5] rfl ?_
            exact hJ163 _ hw
          · have hw := hw.2 hc
            refine g_iload_n dX8_walk_136 rfl rfl ?_
            refine g_iload dX8_walk_137 rfl ?_
            refine g_ishr dX8_walk_139 ?_
            refine g_iconst (v := 1) dX8_walk_140 (by decide) ?_
            refine g_iand dX8_walk_141 ?_
            refine g_if_ne 163 dX8_walk_142 rfl (fun hc => ?_) (fun hc => ?_)
            · have hw := hw.1 hc
              refine g_lv [0, 1, 2, 3, 4, 5] rfl ?_
              exact hJ163 _ hw
            · have hw := hw.2 hc
              refine g_aload_n dX8_walk_145 rfl rfl ?_
              refine g_iload dX8_walk_146 rfl ?_
              refine g_iload_n dX8_walk_148 rfl rfl ?_
              refine g_iconst (v := 1) dX8_walk_149 (by decide) ?_
              refine g_iload dX8_walk_150 rfl ?_
              refine g_ishl dX8_walk_152 ?_
              refine g_ior dX8_walk_153 ?_
              refine g_iload dX8_walk_154 rfl ?_
              refine g_iload dX8_walk_156 rfl ?_
              refine g_iconst (v := 1) dX8_walk_158 (by decide) ?_
              refine g_iadd dX8_walk_159 ?_
              refine g_callVV [.int r5, .int (x2 ||| ((1 : Int32) <<< (r5 &&& 31))), .int v10, .int (x4 + 1)] (ci := 8) dX8_walk_160 ml_X8_72 mk_X8_walk rfl rfl sh73 hdd (Nat.le_of_ble_eq_true rfl) rfl (hR_walk _ _ _ _ _ _ hw) (fun h12 hw => ?_)
              refine g_lv [0, 1, 2, 3, 4, 5] rfl ?_
              exact hJ163 _ hw
        · have hw := hw.2 hc
          refine g_aload_n dX8_walk_110 rfl rfl ?_
          refine g_iload_n dX8_walk_111 rfl rfl ?_
          refine g_iload dX8_walk_112 rfl ?_
          refine g_sipush (v := 840) dX8_walk_114 (by decide) ?_
          refine g_imul dX8_walk_117 ?_
          refine g_iload dX8_walk_118 rfl ?_
          refine g_idiv dX8_walk_120 hw.1 ?_
          have hw := hw.2
          refine g_callVV [.int x2, .int ((v10 * 840) / x4)] (ci := 8) dX8_walk_121 ml_X8_90 mk_X8_note rfl rfl sh73 (by omega) (Nat.le_of_ble_eq_true rfl) rfl (c_Survey_note hw) (fun h13 hw => ?_)
          refine g_goto 163 dX8_walk_124 rfl ?_
          refine g_lv [0, 1, 2, 3, 4, 5] rfl ?_
          exact hJ163 _ hw
def Survey_walk_B  (R_walk : Int32 → Int32 → Int32 → Int32 → Hp → (Hp → Prop) → Prop) (x1 : Int32) (x2 : Int32) (x3 : Int32) (x4 : Int32) (h : Hp) (Q : Hp → Prop) : Prop := (gR h 2 = none → Q h) ∧ (∀ q1, gR h 2 = some q1 → (x1 < 0 → Q h) ∧ (¬ x1 < 0 → (8 ≤ x1 → Q h) ∧ (¬ 8 ≤ x1 → (x4 < 1 → Q h) ∧ (¬ x4 < 1 → (x4 ≤ 8 → ∃ n14, Survey_walk_L37 x1 x2 x3 x4 R_walk Q n14 0 h) ∧ (¬ x4 ≤ 8 → Q h)))))
set_option maxHeartbeats 4000000 in
set_option maxRecDepth 20000 in
theorem cb_Survey_walk {G : Gx}  {d d1 : Nat} (hdd : d1 + 1 ≤ d) (hD : 3 ≤ d) {R_walk : Int32 → Int32 → Int32 → Int32 → Hp → (Hp → Prop) → Prop} (hR_walk : ∀ (y0 : Int32) (y1 : Int32) (y2 : Int32) (y3 : Int32) (h : Hp) (Q : Hp → Prop), R_walk y0 y1 y2 y3 h Q → Ct yX8_walk cX8_walk 8 none d1 G [.ref (gAd G 73), .int y0, .int y1, .int y2, .int y3] h (QV G Q)) {x1 : Int32} {x2 : Int32} {x3 : Int32} {x4 : Int32} {h : Hp} {Q : Hp → Prop} (hw : Survey_walk_B  R_walk x1 x2 x3 x4 h Q) : Ct yX8_walk cX8_walk 8 none d G [.ref (gAd G 73), .int x1, .int x2, .int x3, .int x4] h (QV G Q) := by
  refine ct_go [(0, .ref (gAd G 73)), (1, .int x1), (2, .int x2), (3, .int x3), (4, .int x4)] (plainFor_of_name (by decide)) rfl (Nat.le_of_ble_eq_true rfl) rfl ?_
  refine g_aload_n dX8_walk_0 rfl rfl ?_
  cases hqq1 : gR h 2 with
  | none =>
    have hw := hw.1 hqq1
    refine g_getM0 dX8_walk_1 fl_X8_9 sh73 rfl hqq1 ?_
    refine g_ifnullN 33 dX8_walk_4 rfl ?_
    exact g_vret dX8_walk_33 hw
  | some q1 =>
    have hw := hw.2 q1 hqq1
    refine g_getM dX8_walk_1 fl_X8_9 sh73 rfl hqq1 ?_
    refine g_ifnull dX8_walk_4 ?_
    refine g_iload_n dX8_walk_7 rfl rfl ?_
    refine g_if_lt 33 dX8_walk_8 rfl (fun hc => ?_) (fun hc => ?_)
    · have hw := hw.1 hc
      exact g_vret dX8_walk_33 hw
    · have hw := hw.2 hc
      refine g_iload_n dX8_walk_11 rfl rfl ?_
      refine g_aload_n dX8_walk_12 rfl rfl ?_
      refine g_getA dX8_walk_13 fl_X8_22 sh73 rfl ?_
      refine g_alen dX8_walk_16 ia74 (by decide) al74 (v := 8) (by decide) ?_
      refine g_icmp_ge 33 dX8_walk_17 rfl (fun hc => ?_) (fun hc => ?_)
      · have hw := hw.1 hc
        exact g_vret dX8_walk_33 hw
      · have hw := hw.2 hc
        refine g_iload dX8_walk_20 rfl ?_
        refine g_iconst (v := 1) dX8_walk_22 (by decide) ?_
        refine g_icmp_lt 33 dX8_walk_23 rfl (fun hc => ?_) (fun hc => ?_)
        · have hw := hw.1 hc
          exact g_vret dX8_walk_33 hw
        · have hw := hw.2 hc
          refine g_iload dX8_walk_26 rfl ?_
          refine g_bipush (v := 8) dX8_walk_28 (by decide) ?_
          refine g_icmp_le 34 dX8_walk_30 rfl (fun hc => ?_) (fun hc => ?_)
          · have hw := hw.1 hc
            refine g_iconst (v := 0) dX8_walk_34 (by decide) ?_
            refine g_istore dX8_walk_35 (by decide) (lv1 := [(0, .ref (gAd G 73)), (1, .int x1), (2, .int x2), (3, .int x3), (4, .int x4), (5, .int 0)]) rfl ?_
            obtain ⟨n14, hw⟩ := hw
            refine gl_Survey_walk_L37  hdd hD hR_walk  _ _ _ hw
          · have hw := hw.2 hc
            exact g_vret dX8_walk_33 hw
def Survey_walk  : Nat → Int32 → Int32 → Int32 → Int32 → Hp → (Hp → Prop) → Prop
  | 0, _, _, _, _, _, _ => False
  | n + 1, x1, x2, x3, x4, h, Q => Survey_walk_B  (Survey_walk  n) x1 x2 x3 x4 h Q
theorem cn_Survey_walk {G : Gx}  : ∀ (n : Nat) (x1 : Int32) (x2 : Int32) (x3 : Int32) (x4 : Int32) (h : Hp) (Q : Hp → Prop), Survey_walk  n x1 x2 x3 x4 h Q → Ct yX8_walk cX8_walk 8 none (3 + n) G [.ref (gAd G 73), .int x1, .int x2, .int x3, .int x4] h (QV G Q) := by
  intro n
  induction n with
  | zero => intro _ _ _ _ _ _ hw; exact False.elim hw
  | succ n ih =>
    intro x1 x2 x3 x4 h Q hw
    exact cb_Survey_walk  (d := 3 + (n + 1)) (d1 := 3 + n) (by omega) (by omega) ih hw
theorem c_Survey_walk {G : Gx}  {x1 : Int32} {x2 : Int32} {x3 : Int32} {x4 : Int32} {h : Hp} {Q : Hp → Prop} (hw : Survey_walk  10 x1 x2 x3 x4 h Q) : Ct yX8_walk cX8_walk 8 none 13 G [.ref (gAd G 73), .int x1, .int x2, .int x3, .int x4] h (QV G Q) := cn_Survey_walk  10 _ _ _ _ _ _ hw
theorem dX8_reachAll_0 : decode cX8_reachAll 0 = .ok (.iconst 0, 1) := by decide +kernel
theorem dX8_reachAll_1 : decode cX8_reachAll 1 = .ok (.istore_n 2, 1) := by decide +kernel
theorem dX8_reachAll_2 : decode cX8_reachAll 2 = .ok (.iload_n 2, 1) := by decide +kernel
theorem dX8_reachAll_3 : decode cX8_reachAll 3 = .ok (.iload_n 1, 1) := by decide +kernel
theorem dX8_reachAll_4 : decode cX8_reachAll 4 = .ok (.if_icmp .ge 21, 3) := by decide +kernel
theorem dX8_reachAll_7 : decode cX8_reachAll 7 = .ok (.aload_n 0, 1) := by decide +kernel
theorem dX8_reachAll_8 : decode cX8_reachAll 8 = .ok (.getfield 26, 3) := by decide +kernel
theorem dX8_reachAll_11 : decode cX8_reachAll 11 = .ok (.iload_n 2, 1) := by decide +kernel
theorem dX8_reachAll_12 : decode cX8_reachAll 12 = .ok (.dup2, 1) := by decide +kernel
theorem dX8_reachAll_13 : decode cX8_reachAll 13 = .ok (.iaload, 1) := by decide +kernel
theorem dX8_reachAll_14 : decode cX8_reachAll 14 = .ok (.iconst 1, 1) := by decide +kernel
theorem dX8_reachAll_15 : decode cX8_reachAll 15 = .ok (.iload_n 2, 1) := by decide +kernel
theorem dX8_reachAll_16 : decode cX8_reachAll 16 = .ok (.ishl, 1) := by decide +kernel
theorem dX8_reachAll_17 : decode cX8_reachAll 17 = .ok (.ior, 1) := by decide +kernel
theorem dX8_reachAll_18 : decode cX8_reachAll 18 = .ok (.iastore, 1) := by decide +kernel
theorem dX8_reachAll_19 : decode cX8_reachAll 19 = .ok (.iinc 2 1, 3) := by decide +kernel
theorem dX8_reachAll_22 : decode cX8_reachAll 22 = .ok (.goto (-20), 3) := by decide +kernel
theorem dX8_reachAll_25 : decode cX8_reachAll 25 = .ok (.iconst 0, 1) := by decide +kernel
theorem dX8_reachAll_26 : decode cX8_reachAll 26 = .ok (.istore_n 2, 1) := by decide +kernel
theorem dX8_reachAll_27 : decode cX8_reachAll 27 = .ok (.iload_n 2, 1) := by decide +kernel
theorem dX8_reachAll_28 : decode cX8_reachAll 28 = .ok (.iload_n 1, 1) := by decide +kernel
theorem dX8_reachAll_29 : decode cX8_reachAll 29 = .ok (.if_icmp .ge 51, 3) := by decide +kernel
theorem dX8_reachAll_32 : decode cX8_reachAll 32 = .ok (.iconst 0, 1) := by decide +kernel
theorem dX8_reachAll_33 : decode cX8_reachAll 33 = .ok (.istore_n 3, 1) := by decide +kernel
theorem dX8_reachAll_34 : decode cX8_reachAll 34 = .ok (.iload_n 3, 1) := by decide +kernel
theorem dX8_reachAll_35 : decode cX8_reachAll 35 = .ok (.iload_n 1, 1) := by decide +kernel
theorem dX8_reachAll_36 : decode cX8_reachAll 36 = .ok (.if_icmp .ge 38, 3) := by decide +kernel
theorem dX8_reachAll_39 : decode cX8_reachAll 39 = .ok (.aload_n 0, 1) := by decide +kernel
theorem dX8_reachAll_40 : decode cX8_reachAll 40 = .ok (.getfield 26, 3) := by decide +kernel
theorem dX8_reachAll_43 : decode cX8_reachAll 43 = .ok (.iload_n 3, 1) := by decide +kernel
theorem dX8_reachAll_44 : decode cX8_reachAll 44 = .ok (.iaload, 1) := by decide +kernel
theorem dX8_reachAll_45 : decode cX8_reachAll 45 = .ok (.iload_n 2, 1) := by decide +kernel
theorem dX8_reachAll_46 : decode cX8_reachAll 46 = .ok (.ishr, 1) := by decide +kernel
theorem dX8_reachAll_47 : decode cX8_reachAll 47 = .ok (.iconst 1, 1) := by decide +kernel
theorem dX8_reachAll_48 : decode cX8_reachAll 48 = .ok (.iand, 1) := by decide +kernel
theorem dX8_reachAll_49 : decode cX8_reachAll 49 = .ok (.iconst 1, 1) := by decide +kernel
theorem dX8_reachAll_50 : decode cX8_reachAll 50 = .ok (.if_icmp .ne 18, 3) := by decide +kernel
theorem dX8_reachAll_53 : decode cX8_reachAll 53 = .ok (.aload_n 0, 1) := by decide +kernel
theorem dX8_reachAll_54 : decode cX8_reachAll 54 = .ok (.getfield 26, 3) := by decide +kernel
theorem dX8_reachAll_57 : decode cX8_reachAll 57 = .ok (.iload_n 3, 1) := by decide +kernel
theorem dX8_reachAll_58 : decode cX8_reachAll 58 = .ok (.dup2, 1) := by decide +kernel
theorem dX8_reachAll_59 : decode cX8_reachAll 59 = .ok (.iaload, 1) := by decide +kernel
theorem dX8_reachAll_60 : decode cX8_reachAll 60 = .ok (.aload_n 0, 1) := by decide +kernel
theorem dX8_reachAll_61 : decode cX8_reachAll 61 = .ok (.getfield 26, 3) := by decide +kernel
theorem dX8_reachAll_64 : decode cX8_reachAll 64 = .ok (.iload_n 2, 1) := by decide +kernel
theorem dX8_reachAll_65 : decode cX8_reachAll 65 = .ok (.iaload, 1) := by decide +kernel
theorem dX8_reachAll_66 : decode cX8_reachAll 66 = .ok (.ior, 1) := by decide +kernel
theorem dX8_reachAll_67 : decode cX8_reachAll 67 = .ok (.iastore, 1) := by decide +kernel
theorem dX8_reachAll_68 : decode cX8_reachAll 68 = .ok (.iinc 3 1, 3) := by decide +kernel
theorem dX8_reachAll_71 : decode cX8_reachAll 71 = .ok (.goto (-37), 3) := by decide +kernel
theorem dX8_reachAll_74 : decode cX8_reachAll 74 = .ok (.iinc 2 1, 3) := by decide +kernel
theorem dX8_reachAll_77 : decode cX8_reachAll 77 = .ok (.goto (-50), 3) := by decide +kernel
theorem dX8_reachAll_80 : decode cX8_reachAll 80 = .ok (.return_, 1) := by decide +kernel
def Survey_reachAll_L2 (x1 : Int32) (K25 : Hp → Prop) : Nat → Int32 → Hp → Prop
  | 0, _, _ => False
  | n + 1, x2, h => (x1 ≤ x2 → K25 h) ∧ (¬ x1 ≤ x2 → vp_in x2 8 ∧ vp_in x2 8 ∧ ∀ h1 : Hp, h1 = sI h 75 (x2).toNatClampNeg ((gI h 75 (x2).toNatClampNeg) ||| ((1 : Int32) <<< (x2 &&& 31))) → ∀ v2 : Int32, v2 = (x2 + 1) → Survey_reachAll_L2 x1 K25 n v2 h1)
set_option maxHeartbeats 4000000 in
set_option maxRecDepth 20000 in
theorem gl_Survey_reachAll_L2 {G : Gx}  {x1 : Int32} {Q : Hp → Prop} {K25 : Hp → Prop} (hK25 : ∀  (h1 : Hp), K25  h1 → Go cX8_reachAll 4 RX8 none 1 G (QV G Q) 25 [(0, .ref (gAd G 73)), (1, .int x1)] [] h1) : ∀ (n : Nat) (x2 : Int32) (h : Hp), Survey_reachAll_L2 x1 K25 n x2 h → Go cX8_reachAll 4 RX8 none 1 G (QV G Q) 2 [(0, .ref (gAd G 73)), (1, .int x1), (2, .int x2)] [] h := by
  intro n
  induction n with
  | zero => intro _ h hw; exact False.elim hw
  | succ n ih =>
    intro x2 h hw
    refine g_iload_n dX8_reachAll_2 rfl rfl ?_
    refine g_iload_n dX8_reachAll_3 rfl rfl ?_
    refine g_icmp_ge 25 dX8_reachAll_4 rfl (fun hc => ?_) (fun hc => ?_)
    · have hw := hw.1 hc
      refine g_lv [0, 1] rfl ?_
      exact hK25 _ hw
    · have hw := hw.2 hc
      refine g_aload_n dX8_reachAll_7 rfl rfl ?_
      refine g_getA dX8_reachAll_8 fl_X8_26 sh73 rfl ?_
      refine g_iload_n dX8_reachAll_11 rfl rfl ?_
      refine g_dup2_11 dX8_reachAll_12 rfl rfl ?_
      refine g_iald dX8_reachAll_13 ia75 al75 hw.1 ?_
      have hw := hw.2
      refine g_iconst (v := 1) dX8_reachAll_14 (by decide) ?_
      refine g_iload_n dX8_reachAll_15 rfl rfl ?_
      refine g_ishl dX8_reachAll_16 ?_
      refine g_ior dX8_reachAll_17 ?_
      refine g_iast dX8_reachAll_18 ia75 al75 hw.1 ?_
      have hw := hw.2
      refine g_heap (fun h1 eh1 => ?_)
      have hw := hw h1 eh1
      obtain ⟨v2, ev2⟩ : ∃ y : Int32, y = (x2 + 1) := ⟨_, rfl⟩
      have hw := hw v2 ev2
      refine g_iinc dX8_reachAll_19 rfl (by rw [ev2]; rfl) (by decide) (lv1 := [(0, .ref (gAd G 73)), (1, .int x1), (2, .int v2)]) rfl ?_
      refine g_goto 2 dX8_reachAll_22 rfl ?_
      exact ih _ _ hw
def Survey_reachAll_L34 (x1 : Int32) (x2 : Int32) (K74 : Hp → Prop) : Nat → Int32 → Hp → Prop
  | 0, _, _ => False
  | n + 1, x3, h => (x1 ≤ x3 → K74 h) ∧ (¬ x1 ≤ x3 → vp_in x3 8 ∧ ∀ J68 : Hp → Prop, J68 = (fun h5 => ∀ v6 : Int32, v6 = (x3 + 1) → Survey_reachAll_L34 x1 x2 K74 n v6 h5) → (¬ (((gI h 75 (x3).toNatClampNeg) >>> (x2 &&& 31)) &&& 1) = 1 → J68 h) ∧ ((((gI h 75 (x3).toNatClampNeg) >>> (x2 &&& 31)) &&& 1) = 1 → vp_in x3 8 ∧ vp_in x2 8 ∧ vp_in x3 8 ∧ ∀ h7 : Hp, h7 = sI h 75 (x3).toNatClampNeg ((gI h 75 (x3).toNatClampNeg) ||| (gI h 75 (x2).toNatClampNeg)) → J68 h7))
set_option maxHeartbeats 4000000 in
set_option maxRecDepth 20000 in
theorem gl_Survey_reachAll_L34 {G : Gx}  {x1 : Int32} {x2 : Int32} {Q : Hp → Prop} {K74 : Hp → Prop} (hK74 : ∀  (h1 : Hp), K74  h1 → Go cX8_reachAll 4 RX8 none 1 G (QV G Q) 74 [(0, .ref (gAd G 73)), (1, .int x1), (2, .int x2)] [] h1) : ∀ (n : Nat) (x3 : Int32) (h : Hp), Survey_reachAll_L34 x1 x2 K74 n x3 h → Go cX8_reachAll 4 RX8 none 1 G (QV G Q) 34 [(0, .ref (gAd G 73)), (1, .int x1), (2, .int x2), (3, .int x3)] [] h := by
  intro n
  induction n with
  | zero => intro _ h hw; exact False.elim hw
  | succ n ih =>
    intro x3 h hw
    refine g_iload_n dX8_reachAll_34 rfl rfl ?_
    refine g_iload_n dX8_reachAll_35 rfl rfl ?_
    refine g_icmp_ge 74 dX8_reachAll_36 rfl (fun hc => ?_) (fun hc => ?_)
    · have hw := hw.1 hc
      refine g_lv [0, 1, 2] rfl ?_
      exact hK74 _ hw
    · have hw := hw.2 hc
      refine g_aload_n dX8_reachAll_39 rfl rfl ?_
      refine g_getA dX8_reachAll_40 fl_X8_26 sh73 rfl ?_
      refine g_iload_n dX8_reachAll_43 rfl rfl ?_
      refine g_iald dX8_reachAll_44 ia75 al75 hw.1 ?_
      have hw := hw.2
      refine g_iload_n dX8_reachAll_45 rfl rfl ?_
      refine g_ishr dX8_reachAll_46 ?_
      refine g_iconst (v := 1) dX8_reachAll_47 (by decide) ?_
      refine g_iand dX8_reachAll_48 ?_
      refine g_iconst (v := 1) dX8_reachAll_49 (by decide) ?_
      refine jn_el hw (fun J68 eJ68 hw => ?_)
      have hJ68 : ∀ (h5 : Hp), J68 h5 → Go cX8_reachAll 4 RX8 none 1 G (QV G Q) 68 [(0, .ref (gAd G 73)), (1, .int x1), (2, .int x2), (3, .int x3)] [] h5 := by
        intro h5 hw
        subst eJ68
        obtain ⟨v6, ev6⟩ : ∃ y : Int32, y = (x3 + 1) := ⟨_, rfl⟩
        have hw := hw v6 ev6
        refine g_iinc dX8_reachAll_68 rfl (by rw [ev6]; rfl) (by decide) (lv1 := [(0, .ref (gAd G 73)), (1, .int x1), (2, .int x2), (3, .int v6)]) rfl ?_
        refine g_goto 34 dX8_reachAll_71 rfl ?_
        exact ih _ _ hw
      refine g_icmp_ne 68 dX8_reachAll_50 rfl (fun hc => ?_) (fun hc => ?_)
      · have hw := hw.1 hc
        exact hJ68 _ hw
      · have hw := hw.2 hc
        refine g_aload_n dX8_reachAll_53 rfl rfl ?_
        refine g_getA dX8_reachAll_54 fl_X8_26 sh73 rfl ?_
        refine g_iload_n dX8_reachAll_57 rfl rfl ?_
        refine g_dup2_11 dX8_reachAll_58 rfl rfl ?_
        refine g_iald dX8_reachAll_59 ia75 al75 hw.1 ?_
        have hw := hw.2
        refine g_aload_n dX8_reachAll_60 rfl rfl ?_
        refine g_getA dX8_reachAll_61 fl_X8_26 sh73 rfl ?_
        refine g_iload_n dX8_reachAll_64 rfl rfl ?_
        refine g_iald dX8_reachAll_65 ia75 al75 hw.1 ?_
        have hw := hw.2
        refine g_ior dX8_reachAll_66 ?_
        refine g_iast dX8_reachAll_67 ia75 al75 hw.1 ?_
        have hw := hw.2
        refine g_heap (fun h7 eh7 => ?_)
        have hw := hw h7 eh7
        exact hJ68 _ hw
def Survey_reachAll_L27 (x1 : Int32) (Q : Hp → Prop) : Nat → Int32 → Hp → Prop
  | 0, _, _ => False
  | n + 1, x2, h => (x1 ≤ x2 → Q h) ∧ (¬ x1 ≤ x2 → ∃ n8, Survey_reachAll_L34 x1 x2 (fun h9 => ∀ v10 : Int32, v10 = (x2 + 1) → Survey_reachAll_L27 x1 Q n v10 h9) n8 0 h)
set_option maxHeartbeats 4000000 in
set_option maxRecDepth 20000 in
theorem gl_Survey_reachAll_L27 {G : Gx}  {x1 : Int32} {Q : Hp → Prop} : ∀ (n : Nat) (x2 : Int32) (h : Hp), Survey_reachAll_L27 x1 Q n x2 h → Go cX8_reachAll 4 RX8 none 1 G (QV G Q) 27 [(0, .ref (gAd G 73)), (1, .int x1), (2, .int x2)] [] h := by
  intro n
  induction n with
  | zero => intro _ h hw; exact False.elim hw
  | succ n ih =>
    intro x2 h hw
    refine g_iload_n dX8_reachAll_27 rfl rfl ?_
    refine g_iload_n dX8_reachAll_28 rfl rfl ?_
    refine g_icmp_ge 80 dX8_reachAll_29 rfl (fun hc => ?_) (fun hc => ?_)
    · have hw := hw.1 hc
      exact g_vret dX8_reachAll_80 hw
    · have hw := hw.2 hc
      refine g_iconst (v := 0) dX8_reachAll_32 (by decide) ?_
      refine g_istore_n dX8_reachAll_33 rfl (by decide) (lv1 := [(0, .ref (gAd G 73)), (1, .int x1), (2, .int x2), (3, .int 0)]) rfl ?_
      obtain ⟨n8, hw⟩ := hw
      refine gl_Survey_reachAll_L34  ?_ _ _ _ hw
      · intro h9 hw
        obtain ⟨v10, ev10⟩ : ∃ y : Int32, y = (x2 + 1) := ⟨_, rfl⟩
        have hw := hw v10 ev10
        refine g_iinc dX8_reachAll_74 rfl (by rw [ev10]; rfl) (by decide) (lv1 := [(0, .ref (gAd G 73)), (1, .int x1), (2, .int v10)]) rfl ?_
        refine g_goto 27 dX8_reachAll_77 rfl ?_
        exact ih _ _ hw
def Survey_reachAll (x1 : Int32) (h : Hp) (Q : Hp → Prop) : Prop := ∃ n3, Survey_reachAll_L2 x1 (fun h4 => ∃ n11, Survey_reachAll_L27 x1 Q n11 0 h4) n3 0 h
set_option maxHeartbeats 4000000 in
set_option maxRecDepth 20000 in
theorem c_Survey_reachAll {G : Gx}  {x1 : Int32} {h : Hp} {Q : Hp → Prop} (hw : Survey_reachAll x1 h Q) : Ct yX8_reachAll cX8_reachAll 4 none 1 G [.ref (gAd G 73), .int x1] h (QV G Q) := by
  refine ct_go [(0, .ref (gAd G 73)), (1, .int x1)] (plainFor_of_name (by decide)) rfl (Nat.le_of_ble_eq_true rfl) rfl ?_
  refine g_iconst (v := 0) dX8_reachAll_0 (by decide) ?_
  refine g_istore_n dX8_reachAll_1 rfl (by decide) (lv1 := [(0, .ref (gAd G 73)), (1, .int x1), (2, .int 0)]) rfl ?_
  obtain ⟨n3, hw⟩ := hw
  refine gl_Survey_reachAll_L2  ?_ _ _ _ hw
  · intro h4 hw
    refine g_iconst (v := 0) dX8_reachAll_25 (by decide) ?_
    refine g_istore_n dX8_reachAll_26 rfl (by decide) (lv1 := [(0, .ref (gAd G 73)), (1, .int x1), (2, .int 0)]) rfl ?_
    obtain ⟨n11, hw⟩ := hw
    refine gl_Survey_reachAll_L27   _ _ _ hw
theorem dX8_gather_0 : decode cX8_gather 0 = .ok (.aload_n 0, 1) := by decide +kernel
theorem dX8_gather_1 : decode cX8_gather 1 = .ok (.getfield 35, 3) := by decide +kernel
theorem dX8_gather_4 : decode cX8_gather 4 = .ok (.iload_n 1, 1) := by decide +kernel
theorem dX8_gather_5 : decode cX8_gather 5 = .ok (.ldc 60, 2) := by decide +kernel
theorem dX8_gather_7 : decode cX8_gather 7 = .ok (.iastore, 1) := by decide +kernel
theorem dX8_gather_8 : decode cX8_gather 8 = .ok (.aload_n 0, 1) := by decide +kernel
theorem dX8_gather_9 : decode cX8_gather 9 = .ok (.getfield 38, 3) := by decide +kernel
theorem dX8_gather_12 : decode cX8_gather 12 = .ok (.iload_n 1, 1) := by decide +kernel
theorem dX8_gather_13 : decode cX8_gather 13 = .ok (.ldc 67, 2) := by decide +kernel
theorem dX8_gather_15 : decode cX8_gather 15 = .ok (.iastore, 1) := by decide +kernel
theorem dX8_gather_16 : decode cX8_gather 16 = .ok (.iconst 0, 1) := by decide +kernel
theorem dX8_gather_17 : decode cX8_gather 17 = .ok (.istore_n 3, 1) := by decide +kernel
theorem dX8_gather_18 : decode cX8_gather 18 = .ok (.iload_n 3, 1) := by decide +kernel
theorem dX8_gather_19 : decode cX8_gather 19 = .ok (.iload_n 2, 1) := by decide +kernel
theorem dX8_gather_20 : decode cX8_gather 20 = .ok (.if_icmp .ge 65, 3) := by decide +kernel
theorem dX8_gather_23 : decode cX8_gather 23 = .ok (.aload_n 0, 1) := by decide +kernel
theorem dX8_gather_24 : decode cX8_gather 24 = .ok (.getfield 26, 3) := by decide +kernel
theorem dX8_gather_27 : decode cX8_gather 27 = .ok (.iload_n 1, 1) := by decide +kernel
theorem dX8_gather_28 : decode cX8_gather 28 = .ok (.iaload, 1) := by decide +kernel
theorem dX8_gather_29 : decode cX8_gather 29 = .ok (.iload_n 3, 1) := by decide +kernel
theorem dX8_gather_30 : decode cX8_gather 30 = .ok (.ishr, 1) := by decide +kernel
theorem dX8_gather_31 : decode cX8_gather 31 = .ok (.iconst 1, 1) := by decide +kernel
theorem dX8_gather_32 : decode cX8_gather 32 = .ok (.iand, 1) := by decide +kernel
theorem dX8_gather_33 : decode cX8_gather 33 = .ok (.iconst 1, 1) := by decide +kernel
theorem dX8_gather_34 : decode cX8_gather 34 = .ok (.if_icmp .ne 45, 3) := by decide +kernel
theorem dX8_gather_37 : decode cX8_gather 37 = .ok (.aload_n 0, 1) := by decide +kernel
theorem dX8_gather_38 : decode cX8_gather 38 = .ok (.getfield 35, 3) := by decide +kernel
theorem dX8_gather_41 : decode cX8_gather 41 = .ok (.iload_n 1, 1) := by decide +kernel
theorem dX8_gather_42 : decode cX8_gather 42 = .ok (.aload_n 0, 1) := by decide +kernel
theorem dX8_gather_43 : decode cX8_gather 43 = .ok (.getfield 35, 3) := by decide +kernel
theorem dX8_gather_46 : decode cX8_gather 46 = .ok (.iload_n 1, 1) := by decide +kernel
theorem dX8_gather_47 : decode cX8_gather 47 = .ok (.iaload, 1) := by decide +kernel
theorem dX8_gather_48 : decode cX8_gather 48 = .ok (.aload_n 0, 1) := by decide +kernel
theorem dX8_gather_49 : decode cX8_gather 49 = .ok (.getfield 29, 3) := by decide +kernel
theorem dX8_gather_52 : decode cX8_gather 52 = .ok (.iload_n 3, 1) := by decide +kernel
theorem dX8_gather_53 : decode cX8_gather 53 = .ok (.iaload, 1) := by decide +kernel
theorem dX8_gather_54 : decode cX8_gather 54 = .ok (.invokestatic 53, 3) := by decide +kernel
theorem dX8_gather_57 : decode cX8_gather 57 = .ok (.iastore, 1) := by decide +kernel
theorem dX8_gather_58 : decode cX8_gather 58 = .ok (.aload_n 0, 1) := by decide +kernel
theorem dX8_gather_59 : decode cX8_gather 59 = .ok (.getfield 38, 3) := by decide +kernel
theorem dX8_gather_62 : decode cX8_gather 62 = .ok (.iload_n 1, 1) := by decide +kernel
theorem dX8_gather_63 : decode cX8_gather 63 = .ok (.aload_n 0, 1) := by decide +kernel
theorem dX8_gather_64 : decode cX8_gather 64 = .ok (.getfield 38, 3) := by decide +kernel
theorem dX8_gather_67 : decode cX8_gather 67 = .ok (.iload_n 1, 1) := by decide +kernel
theorem dX8_gather_68 : decode cX8_gather 68 = .ok (.iaload, 1) := by decide +kernel
theorem dX8_gather_69 : decode cX8_gather 69 = .ok (.aload_n 0, 1) := by decide +kernel
theorem dX8_gather_70 : decode cX8_gather 70 = .ok (.getfield 32, 3) := by decide +kernel
theorem dX8_gather_73 : decode cX8_gather 73 = .ok (.iload_n 3, 1) := by decide +kernel
theorem dX8_gather_74 : decode cX8_gather 74 = .ok (.iaload, 1) := by decide +kernel
theorem dX8_gather_75 : decode cX8_gather 75 = .ok (.invokestatic 93, 3) := by decide +kernel
theorem dX8_gather_78 : decode cX8_gather 78 = .ok (.iastore, 1) := by decide +kernel
theorem dX8_gather_79 : decode cX8_gather 79 = .ok (.iinc 3 1, 3) := by decide +kernel
theorem dX8_gather_82 : decode cX8_gather 82 = .ok (.goto (-64), 3) := by decide +kernel
theorem dX8_gather_85 : decode cX8_gather 85 = .ok (.return_, 1) := by decide +kernel
theorem fl_X8_35 : FLk RX8 35 8 7 := ⟨_, rfl, by decide, mW 257 (by decide +kernel) rfl⟩
theorem kc_X8_60 : Cond.constant RX8 60 (2147483647) ∈ Wd := mW 916 (by decide +kernel) rfl
theorem fl_X8_38 : FLk RX8 38 8 8 := ⟨_, rfl, by decide, mW 259 (by decide +kernel) rfl⟩
theorem kc_X8_67 : Cond.constant RX8 67 (-2147483648) ∈ Wd := mW 918 (by decide +kernel) rfl
def Survey_gather_L18 (x1 : Int32) (x2 : Int32) (Q : Hp → Prop) : Nat → Int32 → Hp → Prop
  | 0, _, _ => False
  | n + 1, x3, h => (x2 ≤ x3 → Q h) ∧ (¬ x2 ≤ x3 → vp_in x1 8 ∧ ∀ J79 : Hp → Prop, J79 = (fun h3 => ∀ v4 : Int32, v4 = (x3 + 1) → Survey_gather_L18 x1 x2 Q n v4 h3) → (¬ (((gI h 75 (x1).toNatClampNeg) >>> (x3 &&& 31)) &&& 1) = 1 → J79 h) ∧ ((((gI h 75 (x1).toNatClampNeg) >>> (x3 &&& 31)) &&& 1) = 1 → vp_in x1 8 ∧ vp_in x3 8 ∧ J9_min_7cf53 (gI h 78 (x1).toNatClampNeg) (gI h 76 (x3).toNatClampNeg) h (fun r5 h6 => vp_in x1 8 ∧ ∀ h7 : Hp, h7 = sI h6 78 (x1).toNatClampNeg r5 → vp_in x1 8 ∧ vp_in x3 8 ∧ J9_max_7cf53 (gI h7 79 (x1).toNatClampNeg) (gI h7 77 (x3).toNatClampNeg) h7 (fun r8 h9 => vp_in x1 8 ∧ ∀ h10 : Hp, h10 = sI h9 79 (x1).toNatClampNeg r8 → J79 h10))))
set_option maxHeartbeats 4000000 in
set_option maxRecDepth 20000 in
theorem gl_Survey_gather_L18 {G : Gx}  {x1 : Int32} {x2 : Int32} {Q : Hp → Prop} : ∀ (n : Nat) (x3 : Int32) (h : Hp), Survey_gather_L18 x1 x2 Q n x3 h → Go cX8_gather 4 RX8 none 2 G (QV G Q) 18 [(0, .ref (gAd G 73)), (1, .int x1), (2, .int x2), (3, .int x3)] [] h := by
  intro n
  induction n with
  | zero => intro _ h hw; exact False.elim hw
  | succ n ih =>
    intro x3 h hw
    refine g_iload_n dX8_gather_18 rfl rfl ?_
    refine g_iload_n dX8_gather_19 rfl rfl ?_
    refine g_icmp_ge 85 dX8_gather_20 rfl (fun hc => ?_) (fun hc => ?_)
    · have hw := hw.1 hc
      exact g_vret dX8_gather_85 hw
    · have hw := hw.2 hc
      refine g_aload_n dX8_gather_23 rfl rfl ?_
      refine g_getA dX8_gather_24 fl_X8_26 sh73 rfl ?_
      refine g_iload_n dX8_gather_27 rfl rfl ?_
      refine g_iald dX8_gather_28 ia75 al75 hw.1 ?_
      have hw := hw.2
      refine g_iload_n dX8_gather_29 rfl rfl ?_
      refine g_ishr dX8_gather_30 ?_
      refine g_iconst (v := 1) dX8_gather_31 (by decide) ?_
      refine g_iand dX8_gather_32 ?_
      refine g_iconst (v := 1) dX8_gather_33 (by decide) ?_
      refine jn_el hw (fun J79 eJ79 hw => ?_)
      have hJ79 : ∀ (h3 : Hp), J79 h3 → Go cX8_gather 4 RX8 none 2 G (QV G Q) 79 [(0, .ref (gAd G 73)), (1, .int x1), (2, .int x2), (3, .int x3)] [] h3 := by
        intro h3 hw
        subst eJ79
        obtain ⟨v4, ev4⟩ : ∃ y : Int32, y = (x3 + 1) := ⟨_, rfl⟩
        have hw := hw v4 ev4
        refine g_iinc dX8_gather_79 rfl (by rw [ev4]; rfl) (by decide) (lv1 := [(0, .ref (gAd G 73)), (1, .int x1), (2, .int x2), (3, .int v4)]) rfl ?_
        refine g_goto 18 dX8_gather_82 rfl ?_
        exact ih _ _ hw
      refine g_icmp_ne 79 dX8_gather_34 rfl (fun hc => ?_) (fun hc => ?_)
      · have hw := hw.1 hc
        exact hJ79 _ hw
      · have hw := hw.2 hc
        refine g_aload_n dX8_gather_37 rfl rfl ?_
        refine g_getA dX8_gather_38 fl_X8_35 sh73 rfl ?_
        refine g_iload_n dX8_gather_41 rfl rfl ?_
        refine g_aload_n dX8_gather_42 rfl rfl ?_
        refine g_getA dX8_gather_43 fl_X8_35 sh73 rfl ?_
        refine g_iload_n dX8_gather_46 rfl rfl ?_
        refine g_iald dX8_gather_47 ia78 al78 hw.1 ?_
        have hw := hw.2
        refine g_aload_n dX8_gather_48 rfl rfl ?_
        refine g_getA dX8_gather_49 fl_X8_29 sh73 rfl ?_
        refine g_iload_n dX8_gather_52 rfl rfl ?_
        refine g_iald dX8_gather_53 ia76 al76 hw.1 ?_
        have hw := hw.2
        refine g_callSI [.int (gI h 78 (x1).toNatClampNeg), .int (gI h 76 (x3).toNatClampNeg)] dX8_gather_54 ml_X8_53 mk_J9_min_7cf53 rfl (Nat.le_of_ble_eq_true rfl) (Nat.le_of_ble_eq_true rfl) rfl (c_J9_min_7cf53 hw) (fun r5 h6 hw => ?_)
        refine g_iast dX8_gather_57 ia78 al78 hw.1 ?_
        have hw := hw.2
        refine g_heap (fun h7 eh7 => ?_)
        have hw := hw h7 eh7
        refine g_aload_n dX8_gather_58 rfl rfl ?_
        refine g_getA dX8_gather_59 fl_X8_38 sh73 rfl ?_
        refine g_iload_n dX8_gather_62 rfl rfl ?_
        refine g_aload_n dX8_gather_63 rfl rfl ?_
        refine g_getA dX8_gather_64 fl_X8_38 sh73 rfl ?_
        refine g_iload_n dX8_gather_67 rfl rfl ?_
        refine g_iald dX8_gather_68 ia79 al79 hw.1 ?_
        have hw := hw.2
        refine g_aload_n dX8_gather_69 rfl rfl ?_
        refine g_getA dX8_gather_70 fl_X8_32 sh73 rfl ?_
        refine g_iload_n dX8_gather_73 rfl rfl ?_
        refine g_iald dX8_gather_74 ia77 al77 hw.1 ?_
        have hw := hw.2
        refine g_callSI [.int (gI h7 79 (x1).toNatClampNeg), .int (gI h7 77 (x3).toNatClampNeg)] dX8_gather_75 ml_X8_93 mk_J9_max_7cf53 rfl (Nat.le_of_ble_eq_true rfl) (Nat.le_of_ble_eq_true rfl) rfl (c_J9_max_7cf53 hw) (fun r8 h9 hw => ?_)
        refine g_iast dX8_gather_78 ia79 al79 hw.1 ?_
        have hw := hw.2
        refine g_heap (fun h10 eh10 => ?_)
        have hw := hw h10 eh10
        exact hJ79 _ hw
def Survey_gather (x1 : Int32) (x2 : Int32) (h : Hp) (Q : Hp → Prop) : Prop := vp_in x1 8 ∧ ∀ h1 : Hp, h1 = sI h 78 (x1).toNatClampNeg 2147483647 → vp_in x1 8 ∧ ∀ h2 : Hp, h2 = sI h1 79 (x1).toNatClampNeg (-2147483648) → ∃ n11, Survey_gather_L18 x1 x2 Q n11 0 h2
set_option maxHeartbeats 4000000 in
set_option maxRecDepth 20000 in
theorem c_Survey_gather {G : Gx}  {x1 : Int32} {x2 : Int32} {h : Hp} {Q : Hp → Prop} (hw : Survey_gather x1 x2 h Q) : Ct yX8_gather cX8_gather 4 none 2 G [.ref (gAd G 73), .int x1, .int x2] h (QV G Q) := by
  refine ct_go [(0, .ref (gAd G 73)), (1, .int x1), (2, .int x2)] (plainFor_of_name (by decide)) rfl (Nat.le_of_ble_eq_true rfl) rfl ?_
  refine g_aload_n dX8_gather_0 rfl rfl ?_
  refine g_getA dX8_gather_1 fl_X8_35 sh73 rfl ?_
  refine g_iload_n dX8_gather_4 rfl rfl ?_
  refine g_ldc dX8_gather_5 kc_X8_60 ?_
  refine g_iast dX8_gather_7 ia78 al78 hw.1 ?_
  have hw := hw.2
  refine g_heap (fun h1 eh1 => ?_)
  have hw := hw h1 eh1
  refine g_aload_n dX8_gather_8 rfl rfl ?_
  refine g_getA dX8_gather_9 fl_X8_38 sh73 rfl ?_
  refine g_iload_n dX8_gather_12 rfl rfl ?_
  refine g_ldc dX8_gather_13 kc_X8_67 ?_
  refine g_iast dX8_gather_15 ia79 al79 hw.1 ?_
  have hw := hw.2
  refine g_heap (fun h2 eh2 => ?_)
  have hw := hw h2 eh2
  refine g_iconst (v := 0) dX8_gather_16 (by decide) ?_
  refine g_istore_n dX8_gather_17 rfl (by decide) (lv1 := [(0, .ref (gAd G 73)), (1, .int x1), (2, .int x2), (3, .int 0)]) rfl ?_
  obtain ⟨n11, hw⟩ := hw
  refine gl_Survey_gather_L18   _ _ _ hw
theorem dX8_look_0 : decode cX8_look 0 = .ok (.aload_n 0, 1) := by decide +kernel
theorem dX8_look_1 : decode cX8_look 1 = .ok (.iconst 0, 1) := by decide +kernel
theorem dX8_look_2 : decode cX8_look 2 = .ok (.putfield 41, 3) := by decide +kernel
theorem dX8_look_5 : decode cX8_look 5 = .ok (.aload_n 0, 1) := by decide +kernel
theorem dX8_look_6 : decode cX8_look 6 = .ok (.getfield 29, 3) := by decide +kernel
theorem dX8_look_9 : decode cX8_look 9 = .ok (.ldc 60, 2) := by decide +kernel
theorem dX8_look_11 : decode cX8_look 11 = .ok (.invokestatic 61, 3) := by decide +kernel
theorem dX8_look_14 : decode cX8_look 14 = .ok (.aload_n 0, 1) := by decide +kernel
theorem dX8_look_15 : decode cX8_look 15 = .ok (.getfield 32, 3) := by decide +kernel
theorem dX8_look_18 : decode cX8_look 18 = .ok (.ldc 67, 2) := by decide +kernel
theorem dX8_look_20 : decode cX8_look 20 = .ok (.invokestatic 61, 3) := by decide +kernel
theorem dX8_look_23 : decode cX8_look 23 = .ok (.aload_n 0, 1) := by decide +kernel
theorem dX8_look_24 : decode cX8_look 24 = .ok (.getfield 26, 3) := by decide +kernel
theorem dX8_look_27 : decode cX8_look 27 = .ok (.iconst 0, 1) := by decide +kernel
theorem dX8_look_28 : decode cX8_look 28 = .ok (.invokestatic 61, 3) := by decide +kernel
theorem dX8_look_31 : decode cX8_look 31 = .ok (.aload_n 0, 1) := by decide +kernel
theorem dX8_look_32 : decode cX8_look 32 = .ok (.invokevirtual 68, 3) := by decide +kernel
theorem dX8_look_35 : decode cX8_look 35 = .ok (.istore_n 1, 1) := by decide +kernel
theorem dX8_look_36 : decode cX8_look 36 = .ok (.iconst 0, 1) := by decide +kernel
theorem dX8_look_37 : decode cX8_look 37 = .ok (.istore_n 2, 1) := by decide +kernel
theorem dX8_look_38 : decode cX8_look 38 = .ok (.iload_n 2, 1) := by decide +kernel
theorem dX8_look_39 : decode cX8_look 39 = .ok (.iload_n 1, 1) := by decide +kernel
theorem dX8_look_40 : decode cX8_look 40 = .ok (.if_icmp .ge 24, 3) := by decide +kernel
theorem dX8_look_43 : decode cX8_look 43 = .ok (.aload_n 0, 1) := by decide +kernel
theorem dX8_look_44 : decode cX8_look 44 = .ok (.iload_n 2, 1) := by decide +kernel
theorem dX8_look_45 : decode cX8_look 45 = .ok (.putfield 19, 3) := by decide +kernel
theorem dX8_look_48 : decode cX8_look 48 = .ok (.aload_n 0, 1) := by decide +kernel
theorem dX8_look_49 : decode cX8_look 49 = .ok (.iload_n 2, 1) := by decide +kernel
theorem dX8_look_50 : decode cX8_look 50 = .ok (.iconst 1, 1) := by decide +kernel
theorem dX8_look_51 : decode cX8_look 51 = .ok (.iload_n 2, 1) := by decide +kernel
theorem dX8_look_52 : decode cX8_look 52 = .ok (.ishl, 1) := by decide +kernel
theorem dX8_look_53 : decode cX8_look 53 = .ok (.iconst 0, 1) := by decide +kernel
theorem dX8_look_54 : decode cX8_look 54 = .ok (.iconst 1, 1) := by decide +kernel
theorem dX8_look_55 : decode cX8_look 55 = .ok (.invokevirtual 72, 3) := by decide +kernel
theorem dX8_look_58 : decode cX8_look 58 = .ok (.iinc 2 1, 3) := by decide +kernel
theorem dX8_look_61 : decode cX8_look 61 = .ok (.goto (-23), 3) := by decide +kernel
theorem dX8_look_64 : decode cX8_look 64 = .ok (.aload_n 0, 1) := by decide +kernel
theorem dX8_look_65 : decode cX8_look 65 = .ok (.iload_n 1, 1) := by decide +kernel
theorem dX8_look_66 : decode cX8_look 66 = .ok (.invokevirtual 76, 3) := by decide +kernel
theorem dX8_look_69 : decode cX8_look 69 = .ok (.iconst 0, 1) := by decide +kernel
theorem dX8_look_70 : decode cX8_look 70 = .ok (.istore_n 2, 1) := by decide +kernel
theorem dX8_look_71 : decode cX8_look 71 = .ok (.iload_n 2, 1) := by decide +kernel
theorem dX8_look_72 : decode cX8_look 72 = .ok (.iload_n 1, 1) := by decide +kernel
theorem dX8_look_73 : decode cX8_look 73 = .ok (.if_icmp .ge 15, 3) := by decide +kernel
theorem dX8_look_76 : decode cX8_look 76 = .ok (.aload_n 0, 1) := by decide +kernel
theorem dX8_look_77 : decode cX8_look 77 = .ok (.iload_n 2, 1) := by decide +kernel
theorem dX8_look_78 : decode cX8_look 78 = .ok (.iload_n 1, 1) := by decide +kernel
theorem dX8_look_79 : decode cX8_look 79 = .ok (.invokevirtual 80, 3) := by decide +kernel
theorem dX8_look_82 : decode cX8_look 82 = .ok (.iinc 2 1, 3) := by decide +kernel
theorem dX8_look_85 : decode cX8_look 85 = .ok (.goto (-14), 3) := by decide +kernel
theorem dX8_look_88 : decode cX8_look 88 = .ok (.return_, 1) := by decide +kernel
theorem ml_X8_61 : Cond.methodLink RX8 61 yJ7_fill_53178 ∈ Wd := mW 917 (by decide +kernel) rfl
theorem ml_X8_68 : Cond.methodLink RX8 68 yX8_placeCount ∈ Wd := mW 919 (by decide +kernel) rfl
theorem mk_X8_placeCount : MokV yX8_placeCount cX8_placeCount 1 (some .int) 0 := ⟨⟨mW 9 (by decide +kernel) rfl, mW 922 (by decide +kernel) rfl, ⟨by decide, by decide, by decide +kernel⟩, by decide⟩, mW 921 (by decide +kernel) rfl, mS (q := (yX8_placeCount, 10)) 25 (by decide +kernel)⟩
theorem pf_8_2 : parseFieldDescriptor (uD 8 2) = some .int := by decide +kernel
theorem ml_X8_76 : Cond.methodLink RX8 76 yX8_reachAll ∈ Wd := mW 935 (by decide +kernel) rfl
theorem mk_X8_reachAll : MokV yX8_reachAll cX8_reachAll 4 none 1 := ⟨⟨mW 9 (by decide +kernel) rfl, mW 938 (by decide +kernel) rfl, ⟨by decide, by decide, by decide +kernel⟩, by decide⟩, mW 937 (by decide +kernel) rfl, mS (q := (yX8_reachAll, 10)) 28 (by decide +kernel)⟩
theorem ml_X8_80 : Cond.methodLink RX8 80 yX8_gather ∈ Wd := mW 939 (by decide +kernel) rfl
theorem mk_X8_gather : MokV yX8_gather cX8_gather 4 none 2 := ⟨⟨mW 9 (by decide +kernel) rfl, mW 942 (by decide +kernel) rfl, ⟨by decide, by decide, by decide +kernel⟩, by decide⟩, mW 941 (by decide +kernel) rfl, mS (q := (yX8_gather, 10)) 29 (by decide +kernel)⟩
def Survey_look_L38 (x1 : Int32) (K64 : Hp → Prop) : Nat → Int32 → Hp → Prop
  | 0, _, _ => False
  | n + 1, x2, h => (x1 ≤ x2 → K64 h) ∧ (¬ x1 ≤ x2 → ∀ h7 : Hp, h7 = sI h 73 2 x2 → Survey_walk 10 x2 ((1 : Int32) <<< (x2 &&& 31)) 0 1 h7 (fun h8 => ∀ v9 : Int32, v9 = (x2 + 1) → Survey_look_L38 x1 K64 n v9 h8))
set_option maxHeartbeats 4000000 in
set_option maxRecDepth 20000 in
theorem gl_Survey_look_L38 {G : Gx}  {x1 : Int32} {Q : Hp → Prop} {K64 : Hp → Prop} (hK64 : ∀  (h1 : Hp), K64  h1 → Go cX8_look 3 RX8 none 14 G (QV G Q) 64 [(0, .ref (gAd G 73)), (1, .int x1)] [] h1) : ∀ (n : Nat) (x2 : Int32) (h : Hp), Survey_look_L38 x1 K64 n x2 h → Go cX8_look 3 RX8 none 14 G (QV G Q) 38 [(0, .ref (gAd G 73)), (1, .int x1), (2, .int x2)] [] h := by
  intro n
  induction n with
  | zero => intro _ h hw; exact False.elim hw
  | succ n ih =>
    intro x2 h hw
    refine g_iload_n dX8_look_38 rfl rfl ?_
    refine g_iload_n dX8_look_39 rfl rfl ?_
    refine g_icmp_ge 64 dX8_look_40 rfl (fun hc => ?_) (fun hc => ?_)
    · have hw := hw.1 hc
      refine g_lv [0, 1] rfl ?_
      exact hK64 _ hw
    · have hw := hw.2 hc
      refine g_aload_n dX8_look_43 rfl rfl ?_
      refine g_iload_n dX8_look_44 rfl rfl ?_
      refine g_putI dX8_look_45 fl_X8_19 sh73 rfl rfl pf_8_2 ?_
      refine g_heap (fun h7 eh7 => ?_)
      have hw := hw h7 eh7
      refine g_aload_n dX8_look_48 rfl rfl ?_
      refine g_iload_n dX8_look_49 rfl rfl ?_
      refine g_iconst (v := 1) dX8_look_50 (by decide) ?_
      refine g_iload_n dX8_look_51 rfl rfl ?_
      refine g_ishl dX8_look_52 ?_
      refine g_iconst (v := 0) dX8_look_53 (by decide) ?_
      refine g_iconst (v := 1) dX8_look_54 (by decide) ?_
      refine g_callVV [.int x2, .int ((1 : Int32) <<< (x2 &&& 31)), .int 0, .int 1] (ci := 8) dX8_look_55 ml_X8_72 mk_X8_walk rfl rfl sh73 (Nat.le_of_ble_eq_true rfl) (Nat.le_of_ble_eq_true rfl) rfl (c_Survey_walk hw) (fun h8 hw => ?_)
      obtain ⟨v9, ev9⟩ : ∃ y : Int32, y = (x2 + 1) := ⟨_, rfl⟩
      have hw := hw v9 ev9
      refine g_iinc dX8_look_58 rfl (by rw [ev9]; rfl) (by decide) (lv1 := [(0, .ref (gAd G 73)), (1, .int x1), (2, .int v9)]) rfl ?_
      refine g_goto 38 dX8_look_61 rfl ?_
      exact ih _ _ hw
def Survey_look_L71 (x1 : Int32) (Q : Hp → Prop) : Nat → Int32 → Hp → Prop
  | 0, _, _ => False
  | n + 1, x2, h => (x1 ≤ x2 → Q h) ∧ (¬ x1 ≤ x2 → Survey_gather x2 x1 h (fun h13 => ∀ v14 : Int32, v14 = (x2 + 1) → Survey_look_L71 x1 Q n v14 h13))
set_option maxHeartbeats 4000000 in
set_option maxRecDepth 20000 in
theorem gl_Survey_look_L71 {G : Gx}  {x1 : Int32} {Q : Hp → Prop} : ∀ (n : Nat) (x2 : Int32) (h : Hp), Survey_look_L71 x1 Q n x2 h → Go cX8_look 3 RX8 none 14 G (QV G Q) 71 [(0, .ref (gAd G 73)), (1, .int x1), (2, .int x2)] [] h := by
  intro n
  induction n with
  | zero => intro _ h hw; exact False.elim hw
  | succ n ih =>
    intro x2 h hw
    refine g_iload_n dX8_look_71 rfl rfl ?_
    refine g_iload_n dX8_look_72 rfl rfl ?_
    refine g_icmp_ge 88 dX8_look_73 rfl (fun hc => ?_) (fun hc => ?_)
    · have hw := hw.1 hc
      exact g_vret dX8_look_88 hw
    · have hw := hw.2 hc
      refine g_aload_n dX8_look_76 rfl rfl ?_
      refine g_iload_n dX8_look_77 rfl rfl ?_
      refine g_iload_n dX8_look_78 rfl rfl ?_
      refine g_callVV [.int x2, .int x1] (ci := 8) dX8_look_79 ml_X8_80 mk_X8_gather rfl rfl sh73 (Nat.le_of_ble_eq_true rfl) (Nat.le_of_ble_eq_true rfl) rfl (c_Survey_gather hw) (fun h13 hw => ?_)
      obtain ⟨v14, ev14⟩ : ∃ y : Int32, y = (x2 + 1) := ⟨_, rfl⟩
      have hw := hw v14 ev14
      refine g_iinc dX8_look_82 rfl (by rw [ev14]; rfl) (by decide) (lv1 := [(0, .ref (gAd G 73)), (1, .int x1), (2, .int v14)]) rfl ?_
      refine g_goto 71 dX8_look_85 rfl ?_
      exact ih _ _ hw
def Survey_look  (h : Hp) (Q : Hp → Prop) : Prop := ∀ h1 : Hp, h1 = sI h 73 9 0 → J7_fill_53178 76 2147483647 h1 (fun h2 => J7_fill_53178 77 (-2147483648) h2 (fun h3 => J7_fill_53178 75 0 h3 (fun h4 => Survey_placeCount  h4 (fun r5 h6 => ∃ n10, Survey_look_L38 r5 (fun h11 => Survey_reachAll r5 h11 (fun h12 => ∃ n15, Survey_look_L71 r5 Q n15 0 h12)) n10 0 h6))))
set_option maxHeartbeats 4000000 in
set_option maxRecDepth 20000 in
theorem c_Survey_look {G : Gx}   {h : Hp} {Q : Hp → Prop} (hw : Survey_look  h Q) : Ct yX8_look cX8_look 3 none 14 G [.ref (gAd G 73)] h (QV G Q) := by
  refine ct_go [(0, .ref (gAd G 73))] (plainFor_of_name (by decide)) rfl (Nat.le_of_ble_eq_true rfl) rfl ?_
  refine g_aload_n dX8_look_0 rfl rfl ?_
  refine g_iconst (v := 0) dX8_look_1 (by decide) ?_
  refine g_putI dX8_look_2 fl_X8_41 sh73 rfl rfl pf_8_9 ?_
  refine g_heap (fun h1 eh1 => ?_)
  have hw := hw h1 eh1
  refine g_aload_n dX8_look_5 rfl rfl ?_
  refine g_getA dX8_look_6 fl_X8_29 sh73 rfl ?_
  refine g_ldc dX8_look_9 kc_X8_60 ?_
  refine g_callSV [.ref (gAd G 76), .int 2147483647] dX8_look_11 ml_X8_61 mk_J7_fill_53178 rfl (Nat.le_of_ble_eq_true rfl) (Nat.le_of_ble_eq_true rfl) rfl (c_J7_fill_53178 ia76 hw) (fun h2 hw => ?_)
  refine g_aload_n dX8_look_14 rfl rfl ?_
  refine g_getA dX8_look_15 fl_X8_32 sh73 rfl ?_
  refine g_ldc dX8_look_18 kc_X8_67 ?_
  refine g_callSV [.ref (gAd G 77), .int (-2147483648)] dX8_look_20 ml_X8_61 mk_J7_fill_53178 rfl (Nat.le_of_ble_eq_true rfl) (Nat.le_of_ble_eq_true rfl) rfl (c_J7_fill_53178 ia77 hw) (fun h3 hw => ?_)
  refine g_aload_n dX8_look_23 rfl rfl ?_
  refine g_getA dX8_look_24 fl_X8_26 sh73 rfl ?_
  refine g_iconst (v := 0) dX8_look_27 (by decide) ?_
  refine g_callSV [.ref (gAd G 75), .int 0] dX8_look_28 ml_X8_61 mk_J7_fill_53178 rfl (Nat.le_of_ble_eq_true rfl) (Nat.le_of_ble_eq_true rfl) rfl (c_J7_fill_53178 ia75 hw) (fun h4 hw => ?_)
  refine g_aload_n dX8_look_31 rfl rfl ?_
  refine g_callVI [] (ci := 8) dX8_look_32 ml_X8_68 mk_X8_placeCount rfl rfl sh73 (Nat.le_of_ble_eq_true rfl) (Nat.le_of_ble_eq_true rfl) rfl (c_Survey_placeCount hw) (fun r5 h6 hw => ?_)
  refine g_istore_n dX8_look_35 rfl (by decide) (lv1 := [(0, .ref (gAd G 73)), (1, .int r5)]) rfl ?_
  refine g_iconst (v := 0) dX8_look_36 (by decide) ?_
  refine g_istore_n dX8_look_37 rfl (by decide) (lv1 := [(0, .ref (gAd G 73)), (1, .int r5), (2, .int 0)]) rfl ?_
  obtain ⟨n10, hw⟩ := hw
  refine gl_Survey_look_L38  ?_ _ _ _ hw
  · intro h11 hw
    refine g_aload_n dX8_look_64 rfl rfl ?_
    refine g_iload_n dX8_look_65 rfl rfl ?_
    refine g_callVV [.int r5] (ci := 8) dX8_look_66 ml_X8_76 mk_X8_reachAll rfl rfl sh73 (Nat.le_of_ble_eq_true rfl) (Nat.le_of_ble_eq_true rfl) rfl (c_Survey_reachAll hw) (fun h12 hw => ?_)
    refine g_iconst (v := 0) dX8_look_69 (by decide) ?_
    refine g_istore_n dX8_look_70 rfl (by decide) (lv1 := [(0, .ref (gAd G 73)), (1, .int r5), (2, .int 0)]) rfl ?_
    obtain ⟨n15, hw⟩ := hw
    refine gl_Survey_look_L71   _ _ _ hw
theorem dX8_securedBy_0 : decode cX8_securedBy 0 = .ok (.iload_n 2, 1) := by decide +kernel
theorem dX8_securedBy_1 : decode cX8_securedBy 1 = .ok (.ifCond .lt 12, 3) := by decide +kernel
theorem dX8_securedBy_4 : decode cX8_securedBy 4 = .ok (.iload_n 2, 1) := by decide +kernel
theorem dX8_securedBy_5 : decode cX8_securedBy 5 = .ok (.aload_n 0, 1) := by decide +kernel
theorem dX8_securedBy_6 : decode cX8_securedBy 6 = .ok (.getfield 35, 3) := by decide +kernel
theorem dX8_securedBy_9 : decode cX8_securedBy 9 = .ok (.arraylength, 1) := by decide +kernel
theorem dX8_securedBy_10 : decode cX8_securedBy 10 = .ok (.if_icmp .lt 5, 3) := by decide +kernel
theorem dX8_securedBy_13 : decode cX8_securedBy 13 = .ok (.iconst 0, 1) := by decide +kernel
theorem dX8_securedBy_14 : decode cX8_securedBy 14 = .ok (.ireturn, 1) := by decide +kernel
theorem dX8_securedBy_15 : decode cX8_securedBy 15 = .ok (.iload_n 1, 1) := by decide +kernel
theorem dX8_securedBy_16 : decode cX8_securedBy 16 = .ok (.iconst 1, 1) := by decide +kernel
theorem dX8_securedBy_17 : decode cX8_securedBy 17 = .ok (.if_icmp .ne 12, 3) := by decide +kernel
theorem dX8_securedBy_20 : decode cX8_securedBy 20 = .ok (.aload_n 0, 1) := by decide +kernel
theorem dX8_securedBy_21 : decode cX8_securedBy 21 = .ok (.getfield 35, 3) := by decide +kernel
theorem dX8_securedBy_24 : decode cX8_securedBy 24 = .ok (.iload_n 2, 1) := by decide +kernel
theorem dX8_securedBy_25 : decode cX8_securedBy 25 = .ok (.iaload, 1) := by decide +kernel
theorem dX8_securedBy_26 : decode cX8_securedBy 26 = .ok (.goto 9, 3) := by decide +kernel
theorem dX8_securedBy_29 : decode cX8_securedBy 29 = .ok (.aload_n 0, 1) := by decide +kernel
theorem dX8_securedBy_30 : decode cX8_securedBy 30 = .ok (.getfield 38, 3) := by decide +kernel
theorem dX8_securedBy_33 : decode cX8_securedBy 33 = .ok (.iload_n 2, 1) := by decide +kernel
theorem dX8_securedBy_34 : decode cX8_securedBy 34 = .ok (.iaload, 1) := by decide +kernel
theorem dX8_securedBy_35 : decode cX8_securedBy 35 = .ok (.ireturn, 1) := by decide +kernel
def Survey_securedBy (x1 : Int32) (x2 : Int32) (h : Hp) (Q : Int32 → Hp → Prop) : Prop := (x2 < 0 → Q 0 h) ∧ (¬ x2 < 0 → (x2 < 8 → (¬ x1 = 1 → vp_in x2 8 ∧ Q (gI h 79 (x2).toNatClampNeg) h) ∧ (x1 = 1 → vp_in x2 8 ∧ Q (gI h 78 (x2).toNatClampNeg) h)) ∧ (¬ x2 < 8 → Q 0 h))
set_option maxHeartbeats 4000000 in
set_option maxRecDepth 20000 in
theorem c_Survey_securedBy {G : Gx}  {x1 : Int32} {x2 : Int32} {h : Hp} {Q : Int32 → Hp → Prop} (hw : Survey_securedBy x1 x2 h Q) : Ct yX8_securedBy cX8_securedBy 3 (some .int) 1 G [.ref (gAd G 73), .int x1, .int x2] h (QI G Q) := by
  refine ct_go [(0, .ref (gAd G 73)), (1, .int x1), (2, .int x2)] (plainFor_of_name (by decide)) rfl (Nat.le_of_ble_eq_true rfl) rfl ?_
  refine g_iload_n dX8_securedBy_0 rfl rfl ?_
  refine g_if_lt 13 dX8_securedBy_1 rfl (fun hc => ?_) (fun hc => ?_)
  · have hw := hw.1 hc
    refine g_iconst (v := 0) dX8_securedBy_13 (by decide) ?_
    exact g_iret dX8_securedBy_14 hw
  · have hw := hw.2 hc
    refine g_iload_n dX8_securedBy_4 rfl rfl ?_
    refine g_aload_n dX8_securedBy_5 rfl rfl ?_
    refine g_getA dX8_securedBy_6 fl_X8_35 sh73 rfl ?_
    refine g_alen dX8_securedBy_9 ia78 (by decide) al78 (v := 8) (by decide) ?_
    refine g_icmp_lt 15 dX8_securedBy_10 rfl (fun hc => ?_) (fun hc => ?_)
    · have hw := hw.1 hc
      refine g_iload_n dX8_securedBy_15 rfl rfl ?_
      refine g_iconst (v := 1) dX8_securedBy_16 (by decide) ?_
      refine g_icmp_ne 29 dX8_securedBy_17 rfl (fun hc => ?_) (fun hc => ?_)
      · have hw := hw.1 hc
        refine g_aload_n dX8_securedBy_29 rfl rfl ?_
        refine g_getA dX8_securedBy_30 fl_X8_38 sh73 rfl ?_
        refine g_iload_n dX8_securedBy_33 rfl rfl ?_
        refine g_iald dX8_securedBy_34 ia79 al79 hw.1 ?_
        have hw := hw.2
        exact g_iret dX8_securedBy_35 hw
      · have hw := hw.2 hc
        refine g_aload_n dX8_securedBy_20 rfl rfl ?_
        refine g_getA dX8_securedBy_21 fl_X8_35 sh73 rfl ?_
        refine g_iload_n dX8_securedBy_24 rfl rfl ?_
        refine g_iald dX8_securedBy_25 ia78 al78 hw.1 ?_
        have hw := hw.2
        refine g_goto 35 dX8_securedBy_26 rfl ?_
        exact g_iret dX8_securedBy_35 hw
    · have hw := hw.2 hc
      refine g_iconst (v := 0) dX8_securedBy_13 (by decide) ?_
      exact g_iret dX8_securedBy_14 hw
theorem dX0_raiseValues_0 : decode cX0_raiseValues 0 = .ok (.iconst 0, 1) := by decide +kernel
theorem dX0_raiseValues_1 : decode cX0_raiseValues 1 = .ok (.istore 5, 2) := by decide +kernel
theorem dX0_raiseValues_3 : decode cX0_raiseValues 3 = .ok (.iconst 0, 1) := by decide +kernel
theorem dX0_raiseValues_4 : decode cX0_raiseValues 4 = .ok (.istore 6, 2) := by decide +kernel
theorem dX0_raiseValues_6 : decode cX0_raiseValues 6 = .ok (.iload 6, 2) := by decide +kernel
theorem dX0_raiseValues_8 : decode cX0_raiseValues 8 = .ok (.aload_n 1, 1) := by decide +kernel
theorem dX0_raiseValues_9 : decode cX0_raiseValues 9 = .ok (.getfield 81, 3) := by decide +kernel
theorem dX0_raiseValues_12 : decode cX0_raiseValues 12 = .ok (.if_icmp .ge 115, 3) := by decide +kernel
theorem dX0_raiseValues_15 : decode cX0_raiseValues 15 = .ok (.iload 6, 2) := by decide +kernel
theorem dX0_raiseValues_17 : decode cX0_raiseValues 17 = .ok (.aload_n 0, 1) := by decide +kernel
theorem dX0_raiseValues_18 : decode cX0_raiseValues 18 = .ok (.getfield 19, 3) := by decide +kernel
theorem dX0_raiseValues_21 : decode cX0_raiseValues 21 = .ok (.arraylength, 1) := by decide +kernel
theorem dX0_raiseValues_22 : decode cX0_raiseValues 22 = .ok (.if_icmp .ge 105, 3) := by decide +kernel
theorem dX0_raiseValues_25 : decode cX0_raiseValues 25 = .ok (.iload 6, 2) := by decide +kernel
theorem dX0_raiseValues_27 : decode cX0_raiseValues 27 = .ok (.aload 4, 2) := by decide +kernel
theorem dX0_raiseValues_29 : decode cX0_raiseValues 29 = .ok (.arraylength, 1) := by decide +kernel
theorem dX0_raiseValues_30 : decode cX0_raiseValues 30 = .ok (.if_icmp .ge 97, 3) := by decide +kernel
theorem dX0_raiseValues_33 : decode cX0_raiseValues 33 = .ok (.aload_n 2, 1) := by decide +kernel
theorem dX0_raiseValues_34 : decode cX0_raiseValues 34 = .ok (.iload_n 3, 1) := by decide +kernel
theorem dX0_raiseValues_35 : decode cX0_raiseValues 35 = .ok (.iload 6, 2) := by decide +kernel
theorem dX0_raiseValues_37 : decode cX0_raiseValues 37 = .ok (.invokevirtual 84, 3) := by decide +kernel
theorem dX0_raiseValues_40 : decode cX0_raiseValues 40 = .ok (.istore 7, 2) := by decide +kernel
theorem dX0_raiseValues_42 : decode cX0_raiseValues 42 = .ok (.aload 4, 2) := by decide +kernel
theorem dX0_raiseValues_44 : decode cX0_raiseValues 44 = .ok (.iload 6, 2) := by decide +kernel
theorem dX0_raiseValues_46 : decode cX0_raiseValues 46 = .ok (.iaload, 1) := by decide +kernel
theorem dX0_raiseValues_47 : decode cX0_raiseValues 47 = .ok (.ifCond .eq 35, 3) := by decide +kernel
theorem dX0_raiseValues_50 : decode cX0_raiseValues 50 = .ok (.iload_n 3, 1) := by decide +kernel
theorem dX0_raiseValues_51 : decode cX0_raiseValues 51 = .ok (.iconst 1, 1) := by decide +kernel
theorem dX0_raiseValues_52 : decode cX0_raiseValues 52 = .ok (.if_icmp .ne 18, 3) := by decide +kernel
theorem dX0_raiseValues_55 : decode cX0_raiseValues 55 = .ok (.iload 7, 2) := by decide +kernel
theorem dX0_raiseValues_57 : decode cX0_raiseValues 57 = .ok (.aload_n 0, 1) := by decide +kernel
theorem dX0_raiseValues_58 : decode cX0_raiseValues 58 = .ok (.getfield 19, 3) := by decide +kernel
theorem dX0_raiseValues_61 : decode cX0_raiseValues 61 = .ok (.iload 6, 2) := by decide +kernel
theorem dX0_raiseValues_63 : decode cX0_raiseValues 63 = .ok (.iaload, 1) := by decide +kernel
theorem dX0_raiseValues_64 : decode cX0_raiseValues 64 = .ok (.if_icmp .le 36, 3) := by decide +kernel
theorem dX0_raiseValues_67 : decode cX0_raiseValues 67 = .ok (.goto 15, 3) := by decide +kernel
theorem dX0_raiseValues_70 : decode cX0_raiseValues 70 = .ok (.iload 7, 2) := by decide +kernel
theorem dX0_raiseValues_72 : decode cX0_raiseValues 72 = .ok (.aload_n 0, 1) := by decide +kernel
theorem dX0_raiseValues_73 : decode cX0_raiseValues 73 = .ok (.getfield 19, 3) := by decide +kernel
theorem dX0_raiseValues_76 : decode cX0_raiseValues 76 = .ok (.iload 6, 2) := by decide +kernel
theorem dX0_raiseValues_78 : decode cX0_raiseValues 78 = .ok (.iaload, 1) := by decide +kernel
theorem dX0_raiseValues_79 : decode cX0_raiseValues 79 = .ok (.if_icmp .ge 21, 3) := by decide +kernel
theorem dX0_raiseValues_82 : decode cX0_raiseValues 82 = .ok (.aload_n 0, 1) := by decide +kernel
theorem dX0_raiseValues_83 : decode cX0_raiseValues 83 = .ok (.getfield 19, 3) := by decide +kernel
theorem dX0_raiseValues_86 : decode cX0_raiseValues 86 = .ok (.iload 6, 2) := by decide +kernel
theorem dX0_raiseValues_88 : decode cX0_raiseValues 88 = .ok (.iload 7, 2) := by decide +kernel
theorem dX0_raiseValues_90 : decode cX0_raiseValues 90 = .ok (.iastore, 1) := by decide +kernel
theorem dX0_raiseValues_91 : decode cX0_raiseValues 91 = .ok (.aload 4, 2) := by decide +kernel
theorem dX0_raiseValues_93 : decode cX0_raiseValues 93 = .ok (.iload 6, 2) := by decide +kernel
theorem dX0_raiseValues_95 : decode cX0_raiseValues 95 = .ok (.iconst 0, 1) := by decide +kernel
theorem dX0_raiseValues_96 : decode cX0_raiseValues 96 = .ok (.iastore, 1) := by decide +kernel
theorem dX0_raiseValues_97 : decode cX0_raiseValues 97 = .ok (.iconst 1, 1) := by decide +kernel
theorem dX0_raiseValues_98 : decode cX0_raiseValues 98 = .ok (.istore 5, 2) := by decide +kernel
theorem dX0_raiseValues_100 : decode cX0_raiseValues 100 = .ok (.iload 7, 2) := by decide +kernel
theorem dX0_raiseValues_102 : decode cX0_raiseValues 102 = .ok (.aload_n 0, 1) := by decide +kernel
theorem dX0_raiseValues_103 : decode cX0_raiseValues 103 = .ok (.getfield 19, 3) := by decide +kernel
theorem dX0_raiseValues_106 : decode cX0_raiseValues 106 = .ok (.iload 6, 2) := by decide +kernel
theorem dX0_raiseValues_108 : decode cX0_raiseValues 108 = .ok (.iaload, 1) := by decide +kernel
theorem dX0_raiseValues_109 : decode cX0_raiseValues 109 = .ok (.if_icmp .ne 12, 3) := by decide +kernel
theorem dX0_raiseValues_112 : decode cX0_raiseValues 112 = .ok (.aload 4, 2) := by decide +kernel
theorem dX0_raiseValues_114 : decode cX0_raiseValues 114 = .ok (.iload 6, 2) := by decide +kernel
theorem dX0_raiseValues_116 : decode cX0_raiseValues 116 = .ok (.dup2, 1) := by decide +kernel
theorem dX0_raiseValues_117 : decode cX0_raiseValues 117 = .ok (.iaload, 1) := by decide +kernel
theorem dX0_raiseValues_118 : decode cX0_raiseValues 118 = .ok (.iconst 1, 1) := by decide +kernel
theorem dX0_raiseValues_119 : decode cX0_raiseValues 119 = .ok (.iadd, 1) := by decide +kernel
theorem dX0_raiseValues_120 : decode cX0_raiseValues 120 = .ok (.iastore, 1) := by decide +kernel
theorem dX0_raiseValues_121 : decode cX0_raiseValues 121 = .ok (.iinc 6 1, 3) := by decide +kernel
theorem dX0_raiseValues_124 : decode cX0_raiseValues 124 = .ok (.goto (-118), 3) := by decide +kernel
theorem dX0_raiseValues_127 : decode cX0_raiseValues 127 = .ok (.iload 5, 2) := by decide +kernel
theorem dX0_raiseValues_129 : decode cX0_raiseValues 129 = .ok (.ireturn, 1) := by decide +kernel
theorem fl_X0_19 : FLk RX0 19 0 2 := ⟨_, rfl, by decide, mW 292 (by decide +kernel) rfl⟩
theorem ml_X0_84 : Cond.methodLink RX0 84 yX8_securedBy ∈ Wd := mW 947 (by decide +kernel) rfl
theorem mk_X8_securedBy : MokV yX8_securedBy cX8_securedBy 3 (some .int) 2 := ⟨⟨mW 9 (by decide +kernel) rfl, mW 950 (by decide +kernel) rfl, ⟨by decide, by decide, by decide +kernel⟩, by decide⟩, mW 948 (by decide +kernel) rfl, mW 949 (by decide +kernel) rfl⟩
def Game_raiseValues_L6 (o4 : Nat) (x3 : Int32) (Q : Int32 → Hp → Prop) : Nat → Int32 → Int32 → Hp → Prop
  | 0, _, _, _ => False
  | n + 1, x5, x6, h => ((gI h 14 0) ≤ x6 → isB x5 ∧ Q x5 h) ∧ (¬ (gI h 14 0) ≤ x6 → (8 ≤ x6 → isB x5 ∧ Q x5 h) ∧ (¬ 8 ≤ x6 → ((Int32.ofNat (alen o4)) ≤ x6 → isB x5 ∧ Q x5 h) ∧ (¬ (Int32.ofNat (alen o4)) ≤ x6 → Survey_securedBy x3 x6 h (fun r1 h2 => vp_in x6 (alen o4) ∧ ∀ J100 : Int32 → Hp → Prop, J100 = (fun x5_3 h4 => vp_in x6 8 ∧ ∀ J121 : Hp → Prop, J121 = (fun h5 => ∀ v6 : Int32, v6 = (x6 + 1) → Game_raiseValues_L6 o4 x3 Q n x5_3 v6 h5) → (¬ r1 = (gI h4 82 (x6).toNatClampNeg) → J121 h4) ∧ (r1 = (gI h4 82 (x6).toNatClampNeg) → vp_in x6 (alen o4) ∧ vp_in x6 (alen o4) ∧ ∀ h7 : Hp, h7 = sI h4 o4 (x6).toNatClampNeg ((gI h4 o4 (x6).toNatClampNeg) + 1) → J121 h7)) → ∀ J82 : Hp → Prop, J82 = (fun h8 => vp_in x6 8 ∧ ∀ h9 : Hp, h9 = sI h8 82 (x6).toNatClampNeg r1 → vp_in x6 (alen o4) ∧ ∀ h10 : Hp, h10 = sI h9 o4 (x6).toNatClampNeg 0 → J100 1 h10) → ((gI h2 o4 (x6).toNatClampNeg) = 0 → J82 h2) ∧ (¬ (gI h2 o4 (x6).toNatClampNeg) = 0 → (¬ x3 = 1 → vp_in x6 8 ∧ ((gI h2 82 (x6).toNatClampNeg) ≤ r1 → J100 x5 h2) ∧ (¬ (gI h2 82 (x6).toNatClampNeg) ≤ r1 → J82 h2)) ∧ (x3 = 1 → vp_in x6 8 ∧ (r1 ≤ (gI h2 82 (x6).toNatClampNeg) → J100 x5 h2) ∧ (¬ r1 ≤ (gI h2 82 (x6).toNatClampNeg) → J82 h2)))))))
set_option maxHeartbeats 4000000 in
set_option maxRecDepth 20000 in
theorem gl_Game_raiseValues_L6 {G : Gx} {o4 : Nat} (ho4 : isA o4 0) {x3 : Int32} {Q : Int32 → Hp → Prop} : ∀ (n : Nat) (x5 : Int32) (x6 : Int32) (h : Hp), Game_raiseValues_L6 o4 x3 Q n x5 x6 h → Go cX0_raiseValues 8 RX0 (some .boolean) 2 G (QI G Q) 6 [(0, .ref (gAd G 80)), (1, .ref (gAd G 14)), (2, .ref (gAd G 73)), (3, .int x3), (4, .ref (gAd G o4)), (5, .int x5), (6, .int x6)] [] h := by
  intro n
  induction n with
  | zero => intro _ _ h hw; exact False.elim hw
  | succ n ih =>
    intro x5 x6 h hw
    refine g_iload dX0_raiseValues_6 rfl ?_
    refine g_aload_n dX0_raiseValues_8 rfl rfl ?_
    refine g_getI dX0_raiseValues_9 fl_X0_81 sh14 rfl ?_
    refine g_icmp_ge 127 dX0_raiseValues_12 rfl (fun hc => ?_) (fun hc => ?_)
    · have hw := hw.1 hc
      refine g_iload dX0_raiseValues_127 rfl ?_
      exact g_zret dX0_raiseValues_129 (isB_n hw.1) hw.2
    · have hw := hw.2 hc
      refine g_iload dX0_raiseValues_15 rfl ?_
      refine g_aload_n dX0_raiseValues_17 rfl rfl ?_
      refine g_getA dX0_raiseValues_18 fl_X0_19 sh80 rfl ?_
      refine g_alen dX0_raiseValues_21 ia82 (by decide) al82 (v := 8) (by decide) ?_
      refine g_icmp_ge 127 dX0_raiseValues_22 rfl (fun hc => ?_) (fun hc => ?_)
      · have hw := hw.1 hc
        refine g_iload dX0_raiseValues_127 rfl ?_
        exact g_zret dX0_raiseValues_129 (isB_n hw.1) hw.2
      · have hw := hw.2 hc
        refine g_iload dX0_raiseValues_25 rfl ?_
        refine g_aload dX0_raiseValues_27 rfl ?_
        refine g_alen dX0_raiseValues_29 ho4 (by decide) rfl rfl ?_
        refine g_icmp_ge 127 dX0_raiseValues_30 rfl (fun hc => ?_) (fun hc => ?_)
        · have hw := hw.1 hc
          refine g_iload dX0_raiseValues_127 rfl ?_
          exact g_zret dX0_raiseValues_129 (isB_n hw.1) hw.2
        · have hw := hw.2 hc
          refine g_aload_n dX0_raiseValues_33 rfl rfl ?_
          refine g_iload_n dX0_raiseValues_34 rfl rfl ?_
          refine g_iload dX0_raiseValues_35 rfl ?_
          refine g_callVI [.int x3, .int x6] (ci := 8) dX0_raiseValues_37 ml_X0_84 mk_X8_securedBy rfl rfl sh73 (Nat.le_of_ble_eq_true rfl) (Nat.le_of_ble_eq_true rfl) rfl (c_Survey_securedBy hw) (fun r1 h2 hw => ?_)
          refine g_istore dX0_raiseValues_40 (by decide) (lv1 := [(0, .ref (gAd G 80)), (1, .ref (gAd G 14)), (2, .ref (gAd G 73)), (3, .int x3), (4, .ref (gAd G o4)), (5, .int x5), (6, .int x6), (7, .int r1)]) rfl ?_
          refine g_aload dX0_raiseValues_42 rfl ?_
          refine g_iload dX0_raiseValues_44 rfl ?_
          refine g_iald dX0_raiseValues_46 ho4 rfl hw.1 ?_
          have hw := hw.2
          refine jn_el hw (fun J100 eJ100 hw => ?_)
          have hJ100 : ∀ (x5_3 : Int32) (h4 : Hp), J100 x5_3 h4 → Go cX0_raiseValues 8 RX0 (some .boolean) 2 G (QI G Q) 100 [(0, .ref (gAd G 80)), (1, .ref (gAd G 14)), (2, .ref (gAd G 73)), (3, .int x3), (4, .ref (gAd G o4)), (5, .int x5_3), (6, .int x6), (7, .int r1)] [] h4 := by
            intro x5_3 h4 hw
            subst eJ100
            refine g_iload dX0_raiseValues_100 rfl ?_
            refine g_aload_n dX0_raiseValues_102 rfl rfl ?_
            refine g_getA dX0_raiseValues_103 fl_X0_19 sh80 rfl ?_
            refine g_iload dX0_raiseValues_106 rfl ?_
            refine g_iald dX0_raiseValues_108 ia82 al82 hw.1 ?_
            have hw := hw.2
            refine jn_el hw (fun J121 eJ121 hw => ?_)
            have hJ121 : ∀ (h5 : Hp), J121 h5 → Go cX0_raiseValues 8 RX0 (some .boolean) 2 G (QI G Q) 121 [(0, .ref (gAd G 80)), (1, .ref (gAd G 14)), (2, .ref (gAd G 73)), (3, .int x3), (4, .ref (gAd G o4)), (5, .int x5_3), (6, .int x6)] [] h5 := by
              intro h5 hw
              subst eJ121
              obtain ⟨v6, ev6⟩ : ∃ y : Int32, y = (x6 + 1) := ⟨_, rfl⟩
              have hw := hw v6 ev6
              refine g_iinc dX0_raiseValues_121 rfl (by rw [ev6]; rfl) (by decide) (lv1 := [(0, .ref (gAd G 80)), (1, .ref (gAd G 14)), (2, .ref (gAd G 73)), (3, .int x3), (4, .ref (gAd G o4)), (5, .int x5_3), (6, .int v6)]) rfl ?_
              refine g_goto 6 dX0_raiseValues_124 rfl ?_
              exact ih _ _ _ hw
            refine g_icmp_ne 121 dX0_raiseValues_109 rfl (fun hc => ?_) (fun hc => ?_)
            · have hw := hw.1 hc
              refine g_lv [0, 1, 2, 3, 4, 5, 6] rfl ?_
              exact hJ121 _ hw
            · have hw := hw.2 hc
              refine g_aload dX0_raiseValues_112 rfl ?_
              refine g_iload dX0_raiseValues_114 rfl ?_
              refine g_dup2_11 dX0_raiseValues_116 rfl rfl ?_
              refine g_iald dX0_raiseValues_117 ho4 rfl hw.1 ?_
              have hw := hw.2
              refine g_iconst (v := 1) dX0_raiseValues_118 (by decide) ?_
              refine g_iadd dX0_raiseValues_119 ?_
              refine g_iast dX0_raiseValues_120 ho4 rfl hw.1 ?_
              have hw := hw.2
              refine g_heap (fun h7 eh7 => ?_)
              have hw := hw h7 eh7
              refine g_lv [0, 1, 2, 3, 4, 5, 6] rfl ?_
              exact hJ121 _ hw
          refine jn_el hw (fun J82 eJ82 hw => ?_)
          have hJ82 : ∀ (h8 : Hp), J82 h8 → Go cX0_raiseValues 8 RX0 (some .boolean) 2 G (QI G Q) 82 [(0, .ref (gAd G 80)), (1, .ref (gAd G 14)), (2, .ref (gAd G 73)), (3, .int x3), (4, .ref (gAd G o4)), (6, .int x6), (7, .int r1)] [] h8 := by
            intro h8 hw
            subst eJ82
            refine g_aload_n dX0_raiseValues_82 rfl rfl ?_
            refine g_getA dX0_raiseValues_83 fl_X0_19 sh80 rfl ?_
            refine g_iload dX0_raiseValues_86 rfl ?_
            refine g_iload dX0_raiseValues_88 rfl ?_
            refine g_iast dX0_raiseValues_90 ia82 al82 hw.1 ?_
            have hw := hw.2
            refine g_heap (fun h9 eh9 => ?_)
            have hw := hw h9 eh9
            refine g_aload dX0_raiseValues_91 rfl ?_
            refine g_iload dX0_raiseValues_93 rfl ?_
            refine g_iconst (v := 0) dX0_raiseValues_95 (by decide) ?_
            refine g_iast dX0_raiseValues_96 ho4 rfl hw.1 ?_
            have hw := hw.2
            refine g_heap (fun h10 eh10 => ?_)
            have hw := hw h10 eh10
            refine g_iconst (v := 1) dX0_raiseValues_97 (by decide) ?_
            refine g_istore dX0_raiseValues_98 (by decide) (lv1 := [(0, .ref (gAd G 80)), (1, .ref (gAd G 14)), (2, .ref (gAd G 73)), (3, .int x3), (4, .ref (gAd G o4)), (5, .int 1), (6, .int x6), (7, .int r1)]) rfl ?_
            exact hJ100 _ _ hw
          refine g_if_eq 82 dX0_raiseValues_47 rfl (fun hc => ?_) (fun hc => ?_)
          · have hw := hw.1 hc
            refine g_lv [0, 1, 2, 3, 4, 6, 7] rfl ?_
            exact hJ82 _ hw
          · have hw := hw.2 hc
            refine g_iload_n dX0_raiseValues_50 rfl rfl ?_
            refine g_iconst (v := 1) dX0_raiseValues_51 (by decide) ?_
            refine g_icmp_ne 70 dX0_raiseValues_52 rfl (fun hc => ?_) (fun hc => ?_)
            · have hw := hw.1 hc
              refine g_iload dX0_raiseValues_70 rfl ?_
              refine g_aload_n dX0_raiseValues_72 rfl rfl ?_
              refine g_getA dX0_raiseValues_73 fl_X0_19 sh80 rfl ?_
              refine g_iload dX0_raiseValues_76 rfl ?_
              refine g_iald dX0_raiseValues_78 ia82 al82 hw.1 ?_
              have hw := hw.2
              refine g_icmp_ge 100 dX0_raiseValues_79 rfl (fun hc => ?_) (fun hc => ?_)
              · have hw := hw.1 hc
                exact hJ100 _ _ hw
              · have hw := hw.2 hc
                refine g_lv [0, 1, 2, 3, 4, 6, 7] rfl ?_
                exact hJ82 _ hw
            · have hw := hw.2 hc
              refine g_iload dX0_raiseValues_55 rfl ?_
              refine g_aload_n dX0_raiseValues_57 rfl rfl ?_
              refine g_getA dX0_raiseValues_58 fl_X0_19 sh80 rfl ?_
              refine g_iload dX0_raiseValues_61 rfl ?_
              refine g_iald dX0_raiseValues_63 ia82 al82 hw.1 ?_
              have hw := hw.2
              refine g_icmp_le 100 dX0_raiseValues_64 rfl (fun hc => ?_) (fun hc => ?_)
              · have hw := hw.1 hc
                exact hJ100 _ _ hw
              · have hw := hw.2 hc
                refine g_goto 82 dX0_raiseValues_67 rfl ?_
                refine g_lv [0, 1, 2, 3, 4, 6, 7] rfl ?_
                exact hJ82 _ hw
def Game_raiseValues (x3 : Int32) (o4 : Nat) (h : Hp) (Q : Int32 → Hp → Prop) : Prop := ∃ n11, Game_raiseValues_L6 o4 x3 Q n11 0 0 h
set_option maxHeartbeats 4000000 in
set_option maxRecDepth 20000 in
theorem c_Game_raiseValues {G : Gx} {o4 : Nat} (ho4 : isA o4 0) {x3 : Int32} {h : Hp} {Q : Int32 → Hp → Prop} (hw : Game_raiseValues x3 o4 h Q) : Ct yX0_raiseValues cX0_raiseValues 8 (some .boolean) 2 G [.ref (gAd G 80), .ref (gAd G 14), .ref (gAd G 73), .int x3, .ref (gAd G o4)] h (QI G Q) := by
  refine ct_go [(0, .ref (gAd G 80)), (1, .ref (gAd G 14)), (2, .ref (gAd G 73)), (3, .int x3), (4, .ref (gAd G o4))] (plainFor_of_name (by decide)) rfl (Nat.le_of_ble_eq_true rfl) rfl ?_
  refine g_iconst (v := 0) dX0_raiseValues_0 (by decide) ?_
  refine g_istore dX0_raiseValues_1 (by decide) (lv1 := [(0, .ref (gAd G 80)), (1, .ref (gAd G 14)), (2, .ref (gAd G 73)), (3, .int x3), (4, .ref (gAd G o4)), (5, .int 0)]) rfl ?_
  refine g_iconst (v := 0) dX0_raiseValues_3 (by decide) ?_
  refine g_istore dX0_raiseValues_4 (by decide) (lv1 := [(0, .ref (gAd G 80)), (1, .ref (gAd G 14)), (2, .ref (gAd G 73)), (3, .int x3), (4, .ref (gAd G o4)), (5, .int 0), (6, .int 0)]) rfl ?_
  obtain ⟨n11, hw⟩ := hw
  refine gl_Game_raiseValues_L6 ho4  _ _ _ _ hw
