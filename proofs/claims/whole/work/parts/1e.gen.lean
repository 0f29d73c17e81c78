theorem dX11_numbers_0 : decode cX11_numbers 0 = .ok (.iload_n 1, 1) := by decide +kernel
theorem dX11_numbers_1 : decode cX11_numbers 1 = .ok (.invokestatic 224, 3) := by decide +kernel
theorem dX11_numbers_4 : decode cX11_numbers 4 = .ok (.ifCond .eq 12, 3) := by decide +kernel
theorem dX11_numbers_7 : decode cX11_numbers 7 = .ok (.iload_n 2, 1) := by decide +kernel
theorem dX11_numbers_8 : decode cX11_numbers 8 = .ok (.ifCond .lt 8, 3) := by decide +kernel
theorem dX11_numbers_11 : decode cX11_numbers 11 = .ok (.iload_n 2, 1) := by decide +kernel
theorem dX11_numbers_12 : decode cX11_numbers 12 = .ok (.iconst 3, 1) := by decide +kernel
theorem dX11_numbers_13 : decode cX11_numbers 13 = .ok (.if_icmp .le 6, 3) := by decide +kernel
theorem dX11_numbers_16 : decode cX11_numbers 16 = .ok (.bipush (-2), 2) := by decide +kernel
theorem dX11_numbers_18 : decode cX11_numbers 18 = .ok (.ireturn, 1) := by decide +kernel
theorem dX11_numbers_19 : decode cX11_numbers 19 = .ok (.iload_n 3, 1) := by decide +kernel
theorem dX11_numbers_20 : decode cX11_numbers 20 = .ok (.ifCond .lt 9, 3) := by decide +kernel
theorem dX11_numbers_23 : decode cX11_numbers 23 = .ok (.iload_n 3, 1) := by decide +kernel
theorem dX11_numbers_24 : decode cX11_numbers 24 = .ok (.bipush 40, 2) := by decide +kernel
theorem dX11_numbers_26 : decode cX11_numbers 26 = .ok (.if_icmp .le 6, 3) := by decide +kernel
theorem dX11_numbers_29 : decode cX11_numbers 29 = .ok (.bipush (-3), 2) := by decide +kernel
theorem dX11_numbers_31 : decode cX11_numbers 31 = .ok (.ireturn, 1) := by decide +kernel
theorem dX11_numbers_32 : decode cX11_numbers 32 = .ok (.aload_n 0, 1) := by decide +kernel
theorem dX11_numbers_33 : decode cX11_numbers 33 = .ok (.getfield 50, 3) := by decide +kernel
theorem dX11_numbers_36 : decode cX11_numbers 36 = .ok (.iload_n 1, 1) := by decide +kernel
theorem dX11_numbers_37 : decode cX11_numbers 37 = .ok (.aaload, 1) := by decide +kernel
theorem dX11_numbers_38 : decode cX11_numbers 38 = .ok (.iload_n 2, 1) := by decide +kernel
theorem dX11_numbers_39 : decode cX11_numbers 39 = .ok (.iload_n 3, 1) := by decide +kernel
theorem dX11_numbers_40 : decode cX11_numbers 40 = .ok (.invokevirtual 391, 3) := by decide +kernel
theorem dX11_numbers_43 : decode cX11_numbers 43 = .ok (.iconst 0, 1) := by decide +kernel
theorem dX11_numbers_44 : decode cX11_numbers 44 = .ok (.ireturn, 1) := by decide +kernel
theorem ml_X11_391 : Cond.methodLink RX11 391 yX10_renew ∈ Wd := mW 1321 (by decide +kernel) rfl
theorem mk_X10_renew : MokV yX10_renew cX10_renew 3 none 2 := ⟨⟨mW 13 (by decide +kernel) rfl, mW 1324 (by decide +kernel) rfl, ⟨by decide, by decide, by decide +kernel⟩, by decide⟩, mW 1322 (by decide +kernel) rfl, mW 1323 (by decide +kernel) rfl⟩
def C_numbers (x1 : Int32) (x2 : Int32) (x3 : Int32) (h : Hp) (Q : Int32 → Hp → Prop) : Prop := C_isTray x1 h (fun r1 h2 => (r1 = 0 → Q (-2) h2) ∧ (¬ r1 = 0 → (x2 < 0 → Q (-2) h2) ∧ (¬ x2 < 0 → (x2 ≤ 3 → (x3 < 0 → Q (-3) h2) ∧ (¬ x3 < 0 → (x3 ≤ 40 → vp_in x1 4 ∧ Tray_renew (rf 46 (x1).toNatClampNeg) x2 x3 h2 (fun h4 => Q 0 h4)) ∧ (¬ x3 ≤ 40 → Q (-3) h2))) ∧ (¬ x2 ≤ 3 → Q (-2) h2))))
set_option maxHeartbeats 4000000 in
set_option maxRecDepth 20000 in
theorem c_C_numbers {G : Gx}  {x1 : Int32} {x2 : Int32} {x3 : Int32} {h : Hp} {Q : Int32 → Hp → Prop} (hw : C_numbers x1 x2 x3 h Q) : Ct yX11_numbers cX11_numbers 4 (some .int) 3 G [.ref (gAd G 0), .int x1, .int x2, .int x3] h (QI G Q) := by
  refine ct_go [(0, .ref (gAd G 0)), (1, .int x1), (2, .int x2), (3, .int x3)] (plainFor_of_name (by decide)) rfl (Nat.le_of_ble_eq_true rfl) rfl ?_
  refine g_iload_n dX11_numbers_0 rfl rfl ?_
  refine g_callSI [.int x1] dX11_numbers_1 ml_X11_224 mk_X11_isTray rfl (Nat.le_of_ble_eq_true rfl) (Nat.le_of_ble_eq_true rfl) rfl (c_C_isTray hw) (fun r1 h2 hw => ?_)
  refine g_if_eq 16 dX11_numbers_4 rfl (fun hc => ?_) (fun hc => ?_)
  · have hw := hw.1 hc
    refine g_bipush (v := (-2)) dX11_numbers_16 (by decide) ?_
    exact g_iret dX11_numbers_18 hw
  · have hw := hw.2 hc
    refine g_iload_n dX11_numbers_7 rfl rfl ?_
    refine g_if_lt 16 dX11_numbers_8 rfl (fun hc => ?_) (fun hc => ?_)
    · have hw := hw.1 hc
      refine g_bipush (v := (-2)) dX11_numbers_16 (by decide) ?_
      exact g_iret dX11_numbers_18 hw
    · have hw := hw.2 hc
      refine g_iload_n dX11_numbers_11 rfl rfl ?_
      refine g_iconst (v := 3) dX11_numbers_12 (by decide) ?_
      refine g_icmp_le 19 dX11_numbers_13 rfl (fun hc => ?_) (fun hc => ?_)
      · have hw := hw.1 hc
        refine g_iload_n dX11_numbers_19 rfl rfl ?_
        refine g_if_lt 29 dX11_numbers_20 rfl (fun hc => ?_) (fun hc => ?_)
        · have hw := hw.1 hc
          refine g_bipush (v := (-3)) dX11_numbers_29 (by decide) ?_
          exact g_iret dX11_numbers_31 hw
        · have hw := hw.2 hc
          refine g_iload_n dX11_numbers_23 rfl rfl ?_
          refine g_bipush (v := 40) dX11_numbers_24 (by decide) ?_
          refine g_icmp_le 32 dX11_numbers_26 rfl (fun hc => ?_) (fun hc => ?_)
          · have hw := hw.1 hc
            refine g_aload_n dX11_numbers_32 rfl rfl ?_
            refine g_getA dX11_numbers_33 fl_X11_50 sh0 rfl ?_
            refine g_iload_n dX11_numbers_36 rfl rfl ?_
            refine g_aald dX11_numbers_37 ia46 (by decide) al46 hw.1 ?_
            have hi3 := hw.1
            have hw := hw.2
            refine g_iload_n dX11_numbers_38 rfl rfl ?_
            refine g_iload_n dX11_numbers_39 rfl rfl ?_
            refine g_callVV [.int x2, .int x3] (ci := 10) dX11_numbers_40 ml_X11_391 mk_X10_renew rfl rfl (rf_e ia46 (by rw [al46]; exact vp_lt hi3) (by decide)) (Nat.le_of_ble_eq_true rfl) (Nat.le_of_ble_eq_true rfl) rfl (c_Tray_renew (rf_e ia46 (by rw [al46]; exact vp_lt hi3) (by decide)) hw) (fun h4 hw => ?_)
            refine g_iconst (v := 0) dX11_numbers_43 (by decide) ?_
            exact g_iret dX11_numbers_44 hw
          · have hw := hw.2 hc
            refine g_bipush (v := (-3)) dX11_numbers_29 (by decide) ?_
            exact g_iret dX11_numbers_31 hw
      · have hw := hw.2 hc
        refine g_bipush (v := (-2)) dX11_numbers_16 (by decide) ?_
        exact g_iret dX11_numbers_18 hw
theorem dX10_cut_0 : decode cX10_cut 0 = .ok (.aload_n 0, 1) := by decide +kernel
theorem dX10_cut_1 : decode cX10_cut 1 = .ok (.getfield 9, 3) := by decide +kernel
theorem dX10_cut_4 : decode cX10_cut 4 = .ok (.tableswitch 42 0 2 #[28, 33, 38], 28) := by decide +kernel
theorem dX10_cut_32 : decode cX10_cut 32 = .ok (.lload_n 1, 1) := by decide +kernel
theorem dX10_cut_33 : decode cX10_cut 33 = .ok (.l2i, 1) := by decide +kernel
theorem dX10_cut_34 : decode cX10_cut 34 = .ok (.i2b, 1) := by decide +kernel
theorem dX10_cut_35 : decode cX10_cut 35 = .ok (.i2l, 1) := by decide +kernel
theorem dX10_cut_36 : decode cX10_cut 36 = .ok (.lreturn, 1) := by decide +kernel
theorem dX10_cut_37 : decode cX10_cut 37 = .ok (.lload_n 1, 1) := by decide +kernel
theorem dX10_cut_38 : decode cX10_cut 38 = .ok (.l2i, 1) := by decide +kernel
theorem dX10_cut_39 : decode cX10_cut 39 = .ok (.i2s, 1) := by decide +kernel
theorem dX10_cut_40 : decode cX10_cut 40 = .ok (.i2l, 1) := by decide +kernel
theorem dX10_cut_41 : decode cX10_cut 41 = .ok (.lreturn, 1) := by decide +kernel
theorem dX10_cut_42 : decode cX10_cut 42 = .ok (.lload_n 1, 1) := by decide +kernel
theorem dX10_cut_43 : decode cX10_cut 43 = .ok (.l2i, 1) := by decide +kernel
theorem dX10_cut_44 : decode cX10_cut 44 = .ok (.i2l, 1) := by decide +kernel
theorem dX10_cut_45 : decode cX10_cut 45 = .ok (.lreturn, 1) := by decide +kernel
theorem dX10_cut_46 : decode cX10_cut 46 = .ok (.lload_n 1, 1) := by decide +kernel
theorem dX10_cut_47 : decode cX10_cut 47 = .ok (.lreturn, 1) := by decide +kernel
def Tray_cut (o0 : Nat) (x1 : Int64) (h : Hp) (Q : Int64 → Hp → Prop) : Prop := ∀ v1 : Int32, v1 = (gI h o0 0) → (v1.toInt < 0 ∨ 2 < v1.toInt → Q x1 h) ∧ (v1 = 0 → Q ((((((x1).toInt32)).toInt8.toInt32)).toInt64) h) ∧ (v1 = 1 → Q ((((((x1).toInt32)).toInt16.toInt32)).toInt64) h) ∧ (v1 = 2 → Q ((((x1).toInt32)).toInt64) h)
set_option maxHeartbeats 4000000 in
set_option maxRecDepth 20000 in
theorem c_Tray_cut {G : Gx} {o0 : Nat} (ho0 : SH o0 = .inl 10) {x1 : Int64} {h : Hp} {Q : Int64 → Hp → Prop} (hw : Tray_cut o0 x1 h Q) : Ct yX10_cut cX10_cut 3 (some .long) 1 G [.ref (gAd G o0), .long x1] h (QJ G Q) := by
  refine ct_go [(0, .ref (gAd G o0)), (1, .long x1)] (plainFor_of_name (by decide)) rfl (Nat.le_of_ble_eq_true rfl) rfl ?_
  refine g_aload_n dX10_cut_0 rfl rfl ?_
  refine g_getI dX10_cut_1 fl_X10_9 ho0 rfl ?_
  refine g_topi (fun v1 ev1 => ?_)
  have hw := hw v1 ev1
  rcases tsw_in v1 (0) (2) 3 (by decide) with hc | ⟨j, hj, hc⟩
  · have hw := hw.1 hc
    refine g_tswD 46 dX10_cut_4 hc rfl ?_
    refine g_lload_n dX10_cut_46 rfl rfl ?_
    exact g_lret dX10_cut_47 hw
  · match j, hj, hc with
    | 0, _, hc =>
      have hc : v1 = 0 := tsw_eq hc (by decide)
      have hw := hw.2.1 hc
      refine g_tswI 0 32 dX10_cut_4 hc (by decide) (by decide) (off := 28) (by decide) rfl ?_
      refine g_lload_n dX10_cut_32 rfl rfl ?_
      refine g_l2i dX10_cut_33 ?_
      refine g_i2b dX10_cut_34 ?_
      refine g_i2l dX10_cut_35 ?_
      exact g_lret dX10_cut_36 hw
    | 1, _, hc =>
      have hc : v1 = 1 := tsw_eq hc (by decide)
      have hw := hw.2.2.1 hc
      refine g_tswI 1 37 dX10_cut_4 hc (by decide) (by decide) (off := 33) (by decide) rfl ?_
      refine g_lload_n dX10_cut_37 rfl rfl ?_
      refine g_l2i dX10_cut_38 ?_
      refine g_i2s dX10_cut_39 ?_
      refine g_i2l dX10_cut_40 ?_
      exact g_lret dX10_cut_41 hw
    | 2, _, hc =>
      have hc : v1 = 2 := tsw_eq hc (by decide)
      have hw := hw.2.2.2 hc
      refine g_tswI 2 42 dX10_cut_4 hc (by decide) (by decide) (off := 38) (by decide) rfl ?_
      refine g_lload_n dX10_cut_42 rfl rfl ?_
      refine g_l2i dX10_cut_43 ?_
      refine g_i2l dX10_cut_44 ?_
      exact g_lret dX10_cut_45 hw
    | k + 3, hj, _ => exact absurd hj (by omega)
theorem dX10_put_0 : decode cX10_put 0 = .ok (.iload_n 1, 1) := by decide +kernel
theorem dX10_put_1 : decode cX10_put 1 = .ok (.ifCond .lt 23, 3) := by decide +kernel
theorem dX10_put_4 : decode cX10_put 4 = .ok (.iload_n 1, 1) := by decide +kernel
theorem dX10_put_5 : decode cX10_put 5 = .ok (.aload_n 0, 1) := by decide +kernel
theorem dX10_put_6 : decode cX10_put 6 = .ok (.getfield 18, 3) := by decide +kernel
theorem dX10_put_9 : decode cX10_put 9 = .ok (.arraylength, 1) := by decide +kernel
theorem dX10_put_10 : decode cX10_put 10 = .ok (.if_icmp .ge 14, 3) := by decide +kernel
theorem dX10_put_13 : decode cX10_put 13 = .ok (.aload_n 0, 1) := by decide +kernel
theorem dX10_put_14 : decode cX10_put 14 = .ok (.getfield 18, 3) := by decide +kernel
theorem dX10_put_17 : decode cX10_put 17 = .ok (.iload_n 1, 1) := by decide +kernel
theorem dX10_put_18 : decode cX10_put 18 = .ok (.aload_n 0, 1) := by decide +kernel
theorem dX10_put_19 : decode cX10_put 19 = .ok (.lload_n 2, 1) := by decide +kernel
theorem dX10_put_20 : decode cX10_put 20 = .ok (.invokevirtual 34, 3) := by decide +kernel
theorem dX10_put_23 : decode cX10_put 23 = .ok (.lastore, 1) := by decide +kernel
theorem dX10_put_24 : decode cX10_put 24 = .ok (.return_, 1) := by decide +kernel
theorem ml_X10_34 : Cond.methodLink RX10 34 yX10_cut ∈ Wd := mW 1340 (by decide +kernel) rfl
theorem mk_X10_cut : MokV yX10_cut cX10_cut 3 (some .long) 1 := ⟨⟨mW 13 (by decide +kernel) rfl, mW 1343 (by decide +kernel) rfl, ⟨by decide, by decide, by decide +kernel⟩, by decide⟩, mW 1342 (by decide +kernel) rfl, mS (q := (yX10_cut, 3)) 48 (by decide +kernel)⟩
def Tray_put (o0 : Nat) (x1 : Int32) (x2 : Int64) (h : Hp) (Q : Hp → Prop) : Prop := (x1 < 0 → Q h) ∧ (¬ x1 < 0 → (40 ≤ x1 → Q h) ∧ (¬ 40 ≤ x1 → Tray_cut o0 x2 h (fun r1 h2 => vp_in x1 40 ∧ ∀ h3 : Hp, h3 = sJ h2 (rf o0 2) (x1).toNatClampNeg r1 → Q h3)))
set_option maxHeartbeats 4000000 in
set_option maxRecDepth 20000 in
theorem c_Tray_put {G : Gx} {o0 : Nat} (ho0 : SH o0 = .inl 10) {x1 : Int32} {x2 : Int64} {h : Hp} {Q : Hp → Prop} (hw : Tray_put o0 x1 x2 h Q) : Ct yX10_put cX10_put 4 none 2 G [.ref (gAd G o0), .int x1, .long x2] h (QV G Q) := by
  refine ct_go [(0, .ref (gAd G o0)), (1, .int x1), (2, .long x2)] (plainFor_of_name (by decide)) rfl (Nat.le_of_ble_eq_true rfl) rfl ?_
  refine g_iload_n dX10_put_0 rfl rfl ?_
  refine g_if_lt 24 dX10_put_1 rfl (fun hc => ?_) (fun hc => ?_)
  · have hw := hw.1 hc
    exact g_vret dX10_put_24 hw
  · have hw := hw.2 hc
    refine g_iload_n dX10_put_4 rfl rfl ?_
    refine g_aload_n dX10_put_5 rfl rfl ?_
    refine g_getA dX10_put_6 fl_X10_18 ho0 rfl ?_
    refine g_alen dX10_put_9 (rf_a ho0 (k := 2) rfl) (by decide) (ln_10_2 ho0) (v := 40) (by decide) ?_
    refine g_icmp_ge 24 dX10_put_10 rfl (fun hc => ?_) (fun hc => ?_)
    · have hw := hw.1 hc
      exact g_vret dX10_put_24 hw
    · have hw := hw.2 hc
      refine g_aload_n dX10_put_13 rfl rfl ?_
      refine g_getA dX10_put_14 fl_X10_18 ho0 rfl ?_
      refine g_iload_n dX10_put_17 rfl rfl ?_
      refine g_aload_n dX10_put_18 rfl rfl ?_
      refine g_lload_n dX10_put_19 rfl rfl ?_
      refine g_callVJ [.long x2] (ci := 10) dX10_put_20 ml_X10_34 mk_X10_cut rfl rfl ho0 (Nat.le_of_ble_eq_true rfl) (Nat.le_of_ble_eq_true rfl) rfl (c_Tray_cut ho0 hw) (fun r1 h2 hw => ?_)
      refine g_last dX10_put_23 (rf_a ho0 (k := 2) rfl) (ln_10_2 ho0) hw.1 ?_
      have hw := hw.2
      refine g_heap (fun h3 eh3 => ?_)
      have hw := hw h3 eh3
      exact g_vret dX10_put_24 hw
theorem dX11_write_0 : decode cX11_write 0 = .ok (.iload_n 1, 1) := by decide +kernel
theorem dX11_write_1 : decode cX11_write 1 = .ok (.invokestatic 224, 3) := by decide +kernel
theorem dX11_write_4 : decode cX11_write 4 = .ok (.ifCond .ne 7, 3) := by decide +kernel
theorem dX11_write_7 : decode cX11_write 7 = .ok (.ldc2_w 394, 3) := by decide +kernel
theorem dX11_write_10 : decode cX11_write 10 = .ok (.lreturn, 1) := by decide +kernel
theorem dX11_write_11 : decode cX11_write 11 = .ok (.aload_n 0, 1) := by decide +kernel
theorem dX11_write_12 : decode cX11_write 12 = .ok (.getfield 50, 3) := by decide +kernel
theorem dX11_write_15 : decode cX11_write 15 = .ok (.iload_n 1, 1) := by decide +kernel
theorem dX11_write_16 : decode cX11_write 16 = .ok (.aaload, 1) := by decide +kernel
theorem dX11_write_17 : decode cX11_write 17 = .ok (.astore 5, 2) := by decide +kernel
theorem dX11_write_19 : decode cX11_write 19 = .ok (.aload 5, 2) := by decide +kernel
theorem dX11_write_21 : decode cX11_write 21 = .ok (.invokevirtual 227, 3) := by decide +kernel
theorem dX11_write_24 : decode cX11_write 24 = .ok (.ifCond .eq 7, 3) := by decide +kernel
theorem dX11_write_27 : decode cX11_write 27 = .ok (.ldc2_w 396, 3) := by decide +kernel
theorem dX11_write_30 : decode cX11_write 30 = .ok (.lreturn, 1) := by decide +kernel
theorem dX11_write_31 : decode cX11_write 31 = .ok (.iload_n 2, 1) := by decide +kernel
theorem dX11_write_32 : decode cX11_write 32 = .ok (.ifCond .lt 12, 3) := by decide +kernel
theorem dX11_write_35 : decode cX11_write 35 = .ok (.iload_n 2, 1) := by decide +kernel
theorem dX11_write_36 : decode cX11_write 36 = .ok (.aload 5, 2) := by decide +kernel
theorem dX11_write_38 : decode cX11_write 38 = .ok (.getfield 243, 3) := by decide +kernel
theorem dX11_write_41 : decode cX11_write 41 = .ok (.if_icmp .lt 7, 3) := by decide +kernel
theorem dX11_write_44 : decode cX11_write 44 = .ok (.ldc2_w 398, 3) := by decide +kernel
theorem dX11_write_47 : decode cX11_write 47 = .ok (.lreturn, 1) := by decide +kernel
theorem dX11_write_48 : decode cX11_write 48 = .ok (.aload 5, 2) := by decide +kernel
theorem dX11_write_50 : decode cX11_write 50 = .ok (.iload_n 2, 1) := by decide +kernel
theorem dX11_write_51 : decode cX11_write 51 = .ok (.lload_n 3, 1) := by decide +kernel
theorem dX11_write_52 : decode cX11_write 52 = .ok (.invokevirtual 400, 3) := by decide +kernel
theorem dX11_write_55 : decode cX11_write 55 = .ok (.aload 5, 2) := by decide +kernel
theorem dX11_write_57 : decode cX11_write 57 = .ok (.iload_n 2, 1) := by decide +kernel
theorem dX11_write_58 : decode cX11_write 58 = .ok (.invokevirtual 244, 3) := by decide +kernel
theorem dX11_write_61 : decode cX11_write 61 = .ok (.lreturn, 1) := by decide +kernel
theorem kl_X11_398 : Cond.constantLong RX11 398 (-7) ∈ Wd := mW 1335 (by decide +kernel) rfl
theorem ml_X11_400 : Cond.methodLink RX11 400 yX10_put ∈ Wd := mW 1336 (by decide +kernel) rfl
theorem mk_X10_put : MokV yX10_put cX10_put 4 none 2 := ⟨⟨mW 13 (by decide +kernel) rfl, mW 1339 (by decide +kernel) rfl, ⟨by decide, by decide, by decide +kernel⟩, by decide⟩, mW 1337 (by decide +kernel) rfl, mW 1338 (by decide +kernel) rfl⟩
theorem kl_X11_396 : Cond.constantLong RX11 396 (-6) ∈ Wd := mW 1334 (by decide +kernel) rfl
theorem kl_X11_394 : Cond.constantLong RX11 394 (-2) ∈ Wd := mW 1333 (by decide +kernel) rfl
def C_write (x1 : Int32) (x2 : Int32) (x3 : Int64) (h : Hp) (Q : Int64 → Hp → Prop) : Prop := C_isTray x1 h (fun r1 h2 => (¬ r1 = 0 → vp_in x1 4 ∧ Tray_isMissing (rf 46 (x1).toNatClampNeg) h2 (fun r4 h5 => (r4 = 0 → (x2 < 0 → Q (-7 : Int64) h5) ∧ (¬ x2 < 0 → (x2 < (gI h5 (rf 46 (x1).toNatClampNeg) 1) → Tray_put (rf 46 (x1).toNatClampNeg) x2 x3 h5 (fun h6 => Tray_number (rf 46 (x1).toNatClampNeg) x2 h6 (fun r7 h8 => Q r7 h8))) ∧ (¬ x2 < (gI h5 (rf 46 (x1).toNatClampNeg) 1) → Q (-7 : Int64) h5))) ∧ (¬ r4 = 0 → Q (-6 : Int64) h5))) ∧ (r1 = 0 → Q (-2 : Int64) h2))
set_option maxHeartbeats 4000000 in
set_option maxRecDepth 20000 in
theorem c_C_write {G : Gx}  {x1 : Int32} {x2 : Int32} {x3 : Int64} {h : Hp} {Q : Int64 → Hp → Prop} (hw : C_write x1 x2 x3 h Q) : Ct yX11_write cX11_write 6 (some .long) 3 G [.ref (gAd G 0), .int x1, .int x2, .long x3] h (QJ G Q) := by
  refine ct_go [(0, .ref (gAd G 0)), (1, .int x1), (2, .int x2), (3, .long x3)] (plainFor_of_name (by decide)) rfl (Nat.le_of_ble_eq_true rfl) rfl ?_
  refine g_iload_n dX11_write_0 rfl rfl ?_
  refine g_callSI [.int x1] dX11_write_1 ml_X11_224 mk_X11_isTray rfl (Nat.le_of_ble_eq_true rfl) (Nat.le_of_ble_eq_true rfl) rfl (c_C_isTray hw) (fun r1 h2 hw => ?_)
  refine g_if_ne 11 dX11_write_4 rfl (fun hc => ?_) (fun hc => ?_)
  · have hw := hw.1 hc
    refine g_aload_n dX11_write_11 rfl rfl ?_
    refine g_getA dX11_write_12 fl_X11_50 sh0 rfl ?_
    refine g_iload_n dX11_write_15 rfl rfl ?_
    refine g_aald dX11_write_16 ia46 (by decide) al46 hw.1 ?_
    have hi3 := hw.1
    have hw := hw.2
    refine g_astore dX11_write_17 (by decide) (lv1 := [(0, .ref (gAd G 0)), (1, .int x1), (2, .int x2), (3, .long x3), (5, .ref (gAd G (rf 46 (x1).toNatClampNeg)))]) rfl ?_
    refine g_aload dX11_write_19 rfl ?_
    refine g_callVI [] (ci := 10) dX11_write_21 ml_X11_227 mk_X10_isMissing rfl rfl (rf_e ia46 (by rw [al46]; exact vp_lt hi3) (by decide)) (Nat.le_of_ble_eq_true rfl) (Nat.le_of_ble_eq_true rfl) rfl (c_Tray_isMissing (rf_e ia46 (by rw [al46]; exact vp_lt hi3) (by decide)) hw) (fun r4 h5 hw => ?_)
    refine g_if_eq 31 dX11_write_24 rfl (fun hc => ?_) (fun hc => ?_)
    · have hw := hw.1 hc
      refine g_iload_n dX11_write_31 rfl rfl ?_
      refine g_if_lt 44 dX11_write_32 rfl (fun hc => ?_) (fun hc => ?_)
      · have hw := hw.1 hc
        refine g_ldc2 dX11_write_44 kl_X11_398 ?_
        exact g_lret dX11_write_47 hw
      · have hw := hw.2 hc
        refine g_iload_n dX11_write_35 rfl rfl ?_
        refine g_aload dX11_write_36 rfl ?_
        refine g_getI dX11_write_38 fl_X11_243 (rf_e ia46 (by rw [al46]; exact vp_lt hi3) (by decide)) rfl ?_
        refine g_icmp_lt 48 dX11_write_41 rfl (fun hc => ?_) (fun hc => ?_)
        · have hw := hw.1 hc
          refine g_aload dX11_write_48 rfl ?_
          refine g_iload_n dX11_write_50 rfl rfl ?_
          refine g_lload_n dX11_write_51 rfl rfl ?_
          refine g_callVV [.int x2, .long x3] (ci := 10) dX11_write_52 ml_X11_400 mk_X10_put rfl rfl (rf_e ia46 (by rw [al46]; exact vp_lt hi3) (by decide)) (Nat.le_of_ble_eq_true rfl) (Nat.le_of_ble_eq_true rfl) rfl (c_Tray_put (rf_e ia46 (by rw [al46]; exact vp_lt hi3) (by decide)) hw) (fun h6 hw => ?_)
          refine g_aload dX11_write_55 rfl ?_
          refine g_iload_n dX11_write_57 rfl rfl ?_
          refine g_callVJ [.int x2] (ci := 10) dX11_write_58 ml_X11_244 mk_X10_number rfl rfl (rf_e ia46 (by rw [al46]; exact vp_lt hi3) (by decide)) (Nat.le_of_ble_eq_true rfl) (Nat.le_of_ble_eq_true rfl) rfl (c_Tray_number (rf_e ia46 (by rw [al46]; exact vp_lt hi3) (by decide)) hw) (fun r7 h8 hw => ?_)
          exact g_lret dX11_write_61 hw
        · have hw := hw.2 hc
          refine g_ldc2 dX11_write_44 kl_X11_398 ?_
          exact g_lret dX11_write_47 hw
    · have hw := hw.2 hc
      refine g_ldc2 dX11_write_27 kl_X11_396 ?_
      exact g_lret dX11_write_30 hw
  · have hw := hw.2 hc
    refine g_ldc2 dX11_write_7 kl_X11_394 ?_
    exact g_lret dX11_write_10 hw
theorem dX1_wayBehind_0 : decode cX1_wayBehind 0 = .ok (.aload_n 0, 1) := by decide +kernel
theorem dX1_wayBehind_1 : decode cX1_wayBehind 1 = .ok (.lload_n 1, 1) := by decide +kernel
theorem dX1_wayBehind_2 : decode cX1_wayBehind 2 = .ok (.invokevirtual 67, 3) := by decide +kernel
theorem dX1_wayBehind_5 : decode cX1_wayBehind 5 = .ok (.istore_n 3, 1) := by decide +kernel
theorem dX1_wayBehind_6 : decode cX1_wayBehind 6 = .ok (.iload_n 3, 1) := by decide +kernel
theorem dX1_wayBehind_7 : decode cX1_wayBehind 7 = .ok (.ifCond .lt 21, 3) := by decide +kernel
theorem dX1_wayBehind_10 : decode cX1_wayBehind 10 = .ok (.iload_n 3, 1) := by decide +kernel
theorem dX1_wayBehind_11 : decode cX1_wayBehind 11 = .ok (.aload_n 0, 1) := by decide +kernel
theorem dX1_wayBehind_12 : decode cX1_wayBehind 12 = .ok (.getfield 15, 3) := by decide +kernel
theorem dX1_wayBehind_15 : decode cX1_wayBehind 15 = .ok (.arraylength, 1) := by decide +kernel
theorem dX1_wayBehind_16 : decode cX1_wayBehind 16 = .ok (.if_icmp .ge 12, 3) := by decide +kernel
theorem dX1_wayBehind_19 : decode cX1_wayBehind 19 = .ok (.aload_n 0, 1) := by decide +kernel
theorem dX1_wayBehind_20 : decode cX1_wayBehind 20 = .ok (.getfield 15, 3) := by decide +kernel
theorem dX1_wayBehind_23 : decode cX1_wayBehind 23 = .ok (.iload_n 3, 1) := by decide +kernel
theorem dX1_wayBehind_24 : decode cX1_wayBehind 24 = .ok (.iaload, 1) := by decide +kernel
theorem dX1_wayBehind_25 : decode cX1_wayBehind 25 = .ok (.goto 5, 3) := by decide +kernel
theorem dX1_wayBehind_28 : decode cX1_wayBehind 28 = .ok (.bipush 16, 2) := by decide +kernel
theorem dX1_wayBehind_30 : decode cX1_wayBehind 30 = .ok (.ireturn, 1) := by decide +kernel
def Going_wayBehind (x1 : Int64) (h : Hp) (Q : Int32 → Hp → Prop) : Prop := Going_index x1 h (fun r1 h2 => (r1 < 0 → Q 16 h2) ∧ (¬ r1 < 0 → (9 ≤ r1 → Q 16 h2) ∧ (¬ 9 ≤ r1 → vp_in r1 9 ∧ Q (gI h2 89 (r1).toNatClampNeg) h2)))
set_option maxHeartbeats 4000000 in
set_option maxRecDepth 20000 in
theorem c_Going_wayBehind {G : Gx}  {x1 : Int64} {h : Hp} {Q : Int32 → Hp → Prop} (hw : Going_wayBehind x1 h Q) : Ct yX1_wayBehind cX1_wayBehind 4 (some .int) 3 G [.ref (gAd G 87), .long x1] h (QI G Q) := by
  refine ct_go [(0, .ref (gAd G 87)), (1, .long x1)] (plainFor_of_name (by decide)) rfl (Nat.le_of_ble_eq_true rfl) rfl ?_
  refine g_aload_n dX1_wayBehind_0 rfl rfl ?_
  refine g_lload_n dX1_wayBehind_1 rfl rfl ?_
  refine g_callVI [.long x1] (ci := 1) dX1_wayBehind_2 ml_X1_67 mk_X1_index rfl rfl sh87 (Nat.le_of_ble_eq_true rfl) (Nat.le_of_ble_eq_true rfl) rfl (c_Going_index hw) (fun r1 h2 hw => ?_)
  refine g_istore_n dX1_wayBehind_5 rfl (by decide) (lv1 := [(0, .ref (gAd G 87)), (1, .long x1), (3, .int r1)]) rfl ?_
  refine g_iload_n dX1_wayBehind_6 rfl rfl ?_
  refine g_if_lt 28 dX1_wayBehind_7 rfl (fun hc => ?_) (fun hc => ?_)
  · have hw := hw.1 hc
    refine g_bipush (v := 16) dX1_wayBehind_28 (by decide) ?_
    exact g_iret dX1_wayBehind_30 hw
  · have hw := hw.2 hc
    refine g_iload_n dX1_wayBehind_10 rfl rfl ?_
    refine g_aload_n dX1_wayBehind_11 rfl rfl ?_
    refine g_getA dX1_wayBehind_12 fl_X1_15 sh87 rfl ?_
    refine g_alen dX1_wayBehind_15 ia89 (by decide) al89 (v := 9) (by decide) ?_
    refine g_icmp_ge 28 dX1_wayBehind_16 rfl (fun hc => ?_) (fun hc => ?_)
    · have hw := hw.1 hc
      refine g_bipush (v := 16) dX1_wayBehind_28 (by decide) ?_
      exact g_iret dX1_wayBehind_30 hw
    · have hw := hw.2 hc
      refine g_aload_n dX1_wayBehind_19 rfl rfl ?_
      refine g_getA dX1_wayBehind_20 fl_X1_15 sh87 rfl ?_
      refine g_iload_n dX1_wayBehind_23 rfl rfl ?_
      refine g_iald dX1_wayBehind_24 ia89 al89 hw.1 ?_
      have hw := hw.2
      refine g_goto 30 dX1_wayBehind_25 rfl ?_
      exact g_iret dX1_wayBehind_30 hw
theorem dX11_lists_0 : decode cX11_lists 0 = .ok (.iload_n 1, 1) := by decide +kernel
theorem dX11_lists_1 : decode cX11_lists 1 = .ok (.invokestatic 224, 3) := by decide +kernel
theorem dX11_lists_4 : decode cX11_lists 4 = .ok (.ifCond .ne 6, 3) := by decide +kernel
theorem dX11_lists_7 : decode cX11_lists 7 = .ok (.bipush (-2), 2) := by decide +kernel
theorem dX11_lists_9 : decode cX11_lists 9 = .ok (.ireturn, 1) := by decide +kernel
theorem dX11_lists_10 : decode cX11_lists 10 = .ok (.aload_n 0, 1) := by decide +kernel
theorem dX11_lists_11 : decode cX11_lists 11 = .ok (.getfield 50, 3) := by decide +kernel
theorem dX11_lists_14 : decode cX11_lists 14 = .ok (.iload_n 1, 1) := by decide +kernel
theorem dX11_lists_15 : decode cX11_lists 15 = .ok (.aaload, 1) := by decide +kernel
theorem dX11_lists_16 : decode cX11_lists 16 = .ok (.astore_n 2, 1) := by decide +kernel
theorem dX11_lists_17 : decode cX11_lists 17 = .ok (.aload_n 2, 1) := by decide +kernel
theorem dX11_lists_18 : decode cX11_lists 18 = .ok (.invokevirtual 227, 3) := by decide +kernel
theorem dX11_lists_21 : decode cX11_lists 21 = .ok (.ifCond .eq 6, 3) := by decide +kernel
theorem dX11_lists_24 : decode cX11_lists 24 = .ok (.bipush (-6), 2) := by decide +kernel
theorem dX11_lists_26 : decode cX11_lists 26 = .ok (.ireturn, 1) := by decide +kernel
theorem dX11_lists_27 : decode cX11_lists 27 = .ok (.aload_n 0, 1) := by decide +kernel
theorem dX11_lists_28 : decode cX11_lists 28 = .ok (.getfield 79, 3) := by decide +kernel
theorem dX11_lists_31 : decode cX11_lists 31 = .ok (.aload_n 0, 1) := by decide +kernel
theorem dX11_lists_32 : decode cX11_lists 32 = .ok (.getfield 27, 3) := by decide +kernel
theorem dX11_lists_35 : decode cX11_lists 35 = .ok (.aload_n 0, 1) := by decide +kernel
theorem dX11_lists_36 : decode cX11_lists 36 = .ok (.getfield 34, 3) := by decide +kernel
theorem dX11_lists_39 : decode cX11_lists 39 = .ok (.invokevirtual 319, 3) := by decide +kernel
theorem dX11_lists_42 : decode cX11_lists 42 = .ok (.iconst 0, 1) := by decide +kernel
theorem dX11_lists_43 : decode cX11_lists 43 = .ok (.istore_n 3, 1) := by decide +kernel
theorem dX11_lists_44 : decode cX11_lists 44 = .ok (.iload_n 3, 1) := by decide +kernel
theorem dX11_lists_45 : decode cX11_lists 45 = .ok (.aload_n 2, 1) := by decide +kernel
theorem dX11_lists_46 : decode cX11_lists 46 = .ok (.getfield 243, 3) := by decide +kernel
theorem dX11_lists_49 : decode cX11_lists 49 = .ok (.if_icmp .ge 24, 3) := by decide +kernel
theorem dX11_lists_52 : decode cX11_lists 52 = .ok (.aload_n 2, 1) := by decide +kernel
theorem dX11_lists_53 : decode cX11_lists 53 = .ok (.iload_n 3, 1) := by decide +kernel
theorem dX11_lists_54 : decode cX11_lists 54 = .ok (.aload_n 0, 1) := by decide +kernel
theorem dX11_lists_55 : decode cX11_lists 55 = .ok (.getfield 79, 3) := by decide +kernel
theorem dX11_lists_58 : decode cX11_lists 58 = .ok (.iload_n 3, 1) := by decide +kernel
theorem dX11_lists_59 : decode cX11_lists 59 = .ok (.i2l, 1) := by decide +kernel
theorem dX11_lists_60 : decode cX11_lists 60 = .ok (.invokevirtual 404, 3) := by decide +kernel
theorem dX11_lists_63 : decode cX11_lists 63 = .ok (.i2l, 1) := by decide +kernel
theorem dX11_lists_64 : decode cX11_lists 64 = .ok (.invokevirtual 400, 3) := by decide +kernel
theorem dX11_lists_67 : decode cX11_lists 67 = .ok (.iinc 3 1, 3) := by decide +kernel
theorem dX11_lists_70 : decode cX11_lists 70 = .ok (.goto (-26), 3) := by decide +kernel
theorem dX11_lists_73 : decode cX11_lists 73 = .ok (.aload_n 2, 1) := by decide +kernel
theorem dX11_lists_74 : decode cX11_lists 74 = .ok (.getfield 243, 3) := by decide +kernel
theorem dX11_lists_77 : decode cX11_lists 77 = .ok (.ireturn, 1) := by decide +kernel
theorem ml_X11_404 : Cond.methodLink RX11 404 yX1_wayBehind ∈ Wd := mW 1348 (by decide +kernel) rfl
theorem mk_X1_wayBehind : MokV yX1_wayBehind cX1_wayBehind 4 (some .int) 1 := ⟨⟨mW 11 (by decide +kernel) rfl, mW 1351 (by decide +kernel) rfl, ⟨by decide, by decide, by decide +kernel⟩, by decide⟩, mW 1349 (by decide +kernel) rfl, mW 1350 (by decide +kernel) rfl⟩
def C_lists_L44 (q2 : Nat) (Q : Int32 → Hp → Prop) : Nat → Int32 → Hp → Prop
  | 0, _, _ => False
  | n + 1, x3, h => ((gI h q2 1) ≤ x3 → Q (gI h q2 1) h) ∧ (¬ (gI h q2 1) ≤ x3 → Going_wayBehind ((x3).toInt64) h (fun r7 h8 => Tray_put q2 x3 ((r7).toInt64) h8 (fun h9 => ∀ v10 : Int32, v10 = (x3 + 1) → C_lists_L44 q2 Q n v10 h9)))
set_option maxHeartbeats 4000000 in
set_option maxRecDepth 20000 in
theorem gl_C_lists_L44 {G : Gx} {q2 : Nat} (hq2 : SH q2 = .inl 10) {Q : Int32 → Hp → Prop} : ∀ (n : Nat) (x3 : Int32) (h : Hp), C_lists_L44 q2 Q n x3 h → Go cX11_lists 4 RX11 (some .int) 6 G (QI G Q) 44 [(0, .ref (gAd G 0)), (2, .ref (gAd G q2)), (3, .int x3)] [] h := by
  intro n
  induction n with
  | zero => intro _ h hw; exact False.elim hw
  | succ n ih =>
    intro x3 h hw
    refine g_iload_n dX11_lists_44 rfl rfl ?_
    refine g_aload_n dX11_lists_45 rfl rfl ?_
    refine g_getI dX11_lists_46 fl_X11_243 hq2 rfl ?_
    refine g_icmp_ge 73 dX11_lists_49 rfl (fun hc => ?_) (fun hc => ?_)
    · have hw := hw.1 hc
      refine g_aload_n dX11_lists_73 rfl rfl ?_
      refine g_getI dX11_lists_74 fl_X11_243 hq2 rfl ?_
      exact g_iret dX11_lists_77 hw
    · have hw := hw.2 hc
      refine g_aload_n dX11_lists_52 rfl rfl ?_
      refine g_iload_n dX11_lists_53 rfl rfl ?_
      refine g_aload_n dX11_lists_54 rfl rfl ?_
      refine g_getO dX11_lists_55 fl_X11_79 sh0 rfl ?_
      refine g_iload_n dX11_lists_58 rfl rfl ?_
      refine g_i2l dX11_lists_59 ?_
      refine g_callVI [.long ((x3).toInt64)] (ci := 1) dX11_lists_60 ml_X11_404 mk_X1_wayBehind rfl rfl sh87 (Nat.le_of_ble_eq_true rfl) (Nat.le_of_ble_eq_true rfl) rfl (c_Going_wayBehind hw) (fun r7 h8 hw => ?_)
      refine g_i2l dX11_lists_63 ?_
      refine g_callVV [.int x3, .long ((r7).toInt64)] (ci := 10) dX11_lists_64 ml_X11_400 mk_X10_put rfl rfl hq2 (Nat.le_of_ble_eq_true rfl) (Nat.le_of_ble_eq_true rfl) rfl (c_Tray_put hq2 hw) (fun h9 hw => ?_)
      obtain ⟨v10, ev10⟩ : ∃ y : Int32, y = (x3 + 1) := ⟨_, rfl⟩
      have hw := hw v10 ev10
      refine g_iinc dX11_lists_67 rfl (by rw [ev10]; rfl) (by decide) (lv1 := [(0, .ref (gAd G 0)), (2, .ref (gAd G q2)), (3, .int v10)]) rfl ?_
      refine g_goto 44 dX11_lists_70 rfl ?_
      exact ih _ _ hw
def C_lists (x1 : Int32) (h : Hp) (Q : Int32 → Hp → Prop) : Prop := C_isTray x1 h (fun r1 h2 => (¬ r1 = 0 → vp_in x1 4 ∧ Tray_isMissing (rf 46 (x1).toNatClampNeg) h2 (fun r4 h5 => (r4 = 0 → Going_follow 20 h5 (fun h6 => ∃ n11, C_lists_L44 (rf 46 (x1).toNatClampNeg) Q n11 0 h6)) ∧ (¬ r4 = 0 → Q (-6) h5))) ∧ (r1 = 0 → Q (-2) h2))
set_option maxHeartbeats 4000000 in
set_option maxRecDepth 20000 in
theorem c_C_lists {G : Gx}  {x1 : Int32} {h : Hp} {Q : Int32 → Hp → Prop} (hw : C_lists x1 h Q) : Ct yX11_lists cX11_lists 4 (some .int) 6 G [.ref (gAd G 0), .int x1] h (QI G Q) := by
  refine ct_go [(0, .ref (gAd G 0)), (1, .int x1)] (plainFor_of_name (by decide)) rfl (Nat.le_of_ble_eq_true rfl) rfl ?_
  refine g_iload_n dX11_lists_0 rfl rfl ?_
  refine g_callSI [.int x1] dX11_lists_1 ml_X11_224 mk_X11_isTray rfl (Nat.le_of_ble_eq_true rfl) (Nat.le_of_ble_eq_true rfl) rfl (c_C_isTray hw) (fun r1 h2 hw => ?_)
  refine g_if_ne 10 dX11_lists_4 rfl (fun hc => ?_) (fun hc => ?_)
  · have hw := hw.1 hc
    refine g_aload_n dX11_lists_10 rfl rfl ?_
    refine g_getA dX11_lists_11 fl_X11_50 sh0 rfl ?_
    refine g_iload_n dX11_lists_14 rfl rfl ?_
    refine g_aald dX11_lists_15 ia46 (by decide) al46 hw.1 ?_
    have hi3 := hw.1
    have hw := hw.2
    refine g_astore_n dX11_lists_16 rfl (by decide) (lv1 := [(0, .ref (gAd G 0)), (1, .int x1), (2, .ref (gAd G (rf 46 (x1).toNatClampNeg)))]) rfl ?_
    refine g_aload_n dX11_lists_17 rfl rfl ?_
    refine g_callVI [] (ci := 10) dX11_lists_18 ml_X11_227 mk_X10_isMissing rfl rfl (rf_e ia46 (by rw [al46]; exact vp_lt hi3) (by decide)) (Nat.le_of_ble_eq_true rfl) (Nat.le_of_ble_eq_true rfl) rfl (c_Tray_isMissing (rf_e ia46 (by rw [al46]; exact vp_lt hi3) (by decide)) hw) (fun r4 h5 hw => ?_)
    refine g_if_eq 27 dX11_lists_21 rfl (fun hc => ?_) (fun hc => ?_)
    · have hw := hw.1 hc
      refine g_aload_n dX11_lists_27 rfl rfl ?_
      refine g_getO dX11_lists_28 fl_X11_79 sh0 rfl ?_
      refine g_aload_n dX11_lists_31 rfl rfl ?_
      refine g_getO dX11_lists_32 fl_X11_27 sh0 rfl ?_
      refine g_aload_n dX11_lists_35 rfl rfl ?_
      refine g_getO dX11_lists_36 fl_X11_34 sh0 rfl ?_
      refine g_callVV [.ref (gAd G 14), .ref (gAd G 20)] (ci := 1) dX11_lists_39 ml_X11_319 mk_X1_follow rfl rfl sh87 (Nat.le_of_ble_eq_true rfl) (Nat.le_of_ble_eq_true rfl) rfl (c_Going_follow sh20 hw) (fun h6 hw => ?_)
      refine g_iconst (v := 0) dX11_lists_42 (by decide) ?_
      refine g_istore_n dX11_lists_43 rfl (by decide) (lv1 := [(0, .ref (gAd G 0)), (1, .int x1), (2, .ref (gAd G (rf 46 (x1).toNatClampNeg))), (3, .int 0)]) rfl ?_
      obtain ⟨n11, hw⟩ := hw
      refine g_lv [0, 2, 3] rfl ?_
      refine gl_C_lists_L44 (rf_e ia46 (by rw [al46]; exact vp_lt hi3) (by decide))  _ _ _ hw
    · have hw := hw.2 hc
      refine g_bipush (v := (-6)) dX11_lists_24 (by decide) ?_
      exact g_iret dX11_lists_26 hw
  · have hw := hw.2 hc
    refine g_bipush (v := (-2)) dX11_lists_7 (by decide) ?_
    exact g_iret dX11_lists_9 hw
theorem dX11_isImage_0 : decode cX11_isImage 0 = .ok (.iload_n 0, 1) := by decide +kernel
theorem dX11_isImage_1 : decode cX11_isImage 1 = .ok (.ifCond .lt 12, 3) := by decide +kernel
theorem dX11_isImage_4 : decode cX11_isImage 4 = .ok (.iload_n 0, 1) := by decide +kernel
theorem dX11_isImage_5 : decode cX11_isImage 5 = .ok (.iconst 2, 1) := by decide +kernel
theorem dX11_isImage_6 : decode cX11_isImage 6 = .ok (.if_icmp .ge 7, 3) := by decide +kernel
theorem dX11_isImage_9 : decode cX11_isImage 9 = .ok (.iconst 1, 1) := by decide +kernel
theorem dX11_isImage_10 : decode cX11_isImage 10 = .ok (.goto 4, 3) := by decide +kernel
theorem dX11_isImage_13 : decode cX11_isImage 13 = .ok (.iconst 0, 1) := by decide +kernel
theorem dX11_isImage_14 : decode cX11_isImage 14 = .ok (.ireturn, 1) := by decide +kernel
def C_isImage (x0 : Int32) (h : Hp) (Q : Int32 → Hp → Prop) : Prop := (x0 < 0 → Q 0 h) ∧ (¬ x0 < 0 → (2 ≤ x0 → Q 0 h) ∧ (¬ 2 ≤ x0 → Q 1 h))
set_option maxHeartbeats 4000000 in
set_option maxRecDepth 20000 in
theorem c_C_isImage {G : Gx}  {x0 : Int32} {h : Hp} {Q : Int32 → Hp → Prop} (hw : C_isImage x0 h Q) : Ct yX11_isImage cX11_isImage 1 (some .boolean) 1 G [.int x0] h (QI G Q) := by
  refine ct_go [(0, .int x0)] (plainFor_of_name (by decide)) rfl (Nat.le_of_ble_eq_true rfl) rfl ?_
  refine g_iload_n dX11_isImage_0 rfl rfl ?_
  refine g_if_lt 13 dX11_isImage_1 rfl (fun hc => ?_) (fun hc => ?_)
  · have hw := hw.1 hc
    refine g_iconst (v := 0) dX11_isImage_13 (by decide) ?_
    exact g_zret dX11_isImage_14 rfl hw
  · have hw := hw.2 hc
    refine g_iload_n dX11_isImage_4 rfl rfl ?_
    refine g_iconst (v := 2) dX11_isImage_5 (by decide) ?_
    refine g_icmp_ge 13 dX11_isImage_6 rfl (fun hc => ?_) (fun hc => ?_)
    · have hw := hw.1 hc
      refine g_iconst (v := 0) dX11_isImage_13 (by decide) ?_
      exact g_zret dX11_isImage_14 rfl hw
    · have hw := hw.2 hc
      refine g_iconst (v := 1) dX11_isImage_9 (by decide) ?_
      refine g_goto 14 dX11_isImage_10 rfl ?_
      exact g_zret dX11_isImage_14 rfl hw
theorem dX2_copy_0 : decode cX2_copy 0 = .ok (.aload_n 0, 1) := by decide +kernel
theorem dX2_copy_1 : decode cX2_copy 1 = .ok (.aload_n 1, 1) := by decide +kernel
theorem dX2_copy_2 : decode cX2_copy 2 = .ok (.getfield 9, 3) := by decide +kernel
theorem dX2_copy_5 : decode cX2_copy 5 = .ok (.putfield 9, 3) := by decide +kernel
theorem dX2_copy_8 : decode cX2_copy 8 = .ok (.aload_n 0, 1) := by decide +kernel
theorem dX2_copy_9 : decode cX2_copy 9 = .ok (.aload_n 1, 1) := by decide +kernel
theorem dX2_copy_10 : decode cX2_copy 10 = .ok (.getfield 15, 3) := by decide +kernel
theorem dX2_copy_13 : decode cX2_copy 13 = .ok (.putfield 15, 3) := by decide +kernel
theorem dX2_copy_16 : decode cX2_copy 16 = .ok (.aload_n 0, 1) := by decide +kernel
theorem dX2_copy_17 : decode cX2_copy 17 = .ok (.aload_n 1, 1) := by decide +kernel
theorem dX2_copy_18 : decode cX2_copy 18 = .ok (.getfield 18, 3) := by decide +kernel
theorem dX2_copy_21 : decode cX2_copy 21 = .ok (.putfield 18, 3) := by decide +kernel
theorem dX2_copy_24 : decode cX2_copy 24 = .ok (.aload_n 0, 1) := by decide +kernel
theorem dX2_copy_25 : decode cX2_copy 25 = .ok (.aload_n 1, 1) := by decide +kernel
theorem dX2_copy_26 : decode cX2_copy 26 = .ok (.getfield 21, 3) := by decide +kernel
theorem dX2_copy_29 : decode cX2_copy 29 = .ok (.putfield 21, 3) := by decide +kernel
theorem dX2_copy_32 : decode cX2_copy 32 = .ok (.aload_n 1, 1) := by decide +kernel
theorem dX2_copy_33 : decode cX2_copy 33 = .ok (.getfield 24, 3) := by decide +kernel
theorem dX2_copy_36 : decode cX2_copy 36 = .ok (.iconst 0, 1) := by decide +kernel
theorem dX2_copy_37 : decode cX2_copy 37 = .ok (.aload_n 0, 1) := by decide +kernel
theorem dX2_copy_38 : decode cX2_copy 38 = .ok (.getfield 24, 3) := by decide +kernel
theorem dX2_copy_41 : decode cX2_copy 41 = .ok (.iconst 0, 1) := by decide +kernel
theorem dX2_copy_42 : decode cX2_copy 42 = .ok (.aload_n 0, 1) := by decide +kernel
theorem dX2_copy_43 : decode cX2_copy 43 = .ok (.getfield 24, 3) := by decide +kernel
theorem dX2_copy_46 : decode cX2_copy 46 = .ok (.arraylength, 1) := by decide +kernel
theorem dX2_copy_47 : decode cX2_copy 47 = .ok (.invokestatic 40, 3) := by decide +kernel
theorem dX2_copy_50 : decode cX2_copy 50 = .ok (.aload_n 1, 1) := by decide +kernel
theorem dX2_copy_51 : decode cX2_copy 51 = .ok (.getfield 28, 3) := by decide +kernel
theorem dX2_copy_54 : decode cX2_copy 54 = .ok (.iconst 0, 1) := by decide +kernel
theorem dX2_copy_55 : decode cX2_copy 55 = .ok (.aload_n 0, 1) := by decide +kernel
theorem dX2_copy_56 : decode cX2_copy 56 = .ok (.getfield 28, 3) := by decide +kernel
theorem dX2_copy_59 : decode cX2_copy 59 = .ok (.iconst 0, 1) := by decide +kernel
theorem dX2_copy_60 : decode cX2_copy 60 = .ok (.aload_n 0, 1) := by decide +kernel
theorem dX2_copy_61 : decode cX2_copy 61 = .ok (.getfield 28, 3) := by decide +kernel
theorem dX2_copy_64 : decode cX2_copy 64 = .ok (.arraylength, 1) := by decide +kernel
theorem dX2_copy_65 : decode cX2_copy 65 = .ok (.invokestatic 40, 3) := by decide +kernel
theorem dX2_copy_68 : decode cX2_copy 68 = .ok (.aload_n 1, 1) := by decide +kernel
theorem dX2_copy_69 : decode cX2_copy 69 = .ok (.getfield 31, 3) := by decide +kernel
theorem dX2_copy_72 : decode cX2_copy 72 = .ok (.iconst 0, 1) := by decide +kernel
theorem dX2_copy_73 : decode cX2_copy 73 = .ok (.aload_n 0, 1) := by decide +kernel
theorem dX2_copy_74 : decode cX2_copy 74 = .ok (.getfield 31, 3) := by decide +kernel
theorem dX2_copy_77 : decode cX2_copy 77 = .ok (.iconst 0, 1) := by decide +kernel
theorem dX2_copy_78 : decode cX2_copy 78 = .ok (.aload_n 0, 1) := by decide +kernel
theorem dX2_copy_79 : decode cX2_copy 79 = .ok (.getfield 31, 3) := by decide +kernel
theorem dX2_copy_82 : decode cX2_copy 82 = .ok (.arraylength, 1) := by decide +kernel
theorem dX2_copy_83 : decode cX2_copy 83 = .ok (.invokestatic 40, 3) := by decide +kernel
theorem dX2_copy_86 : decode cX2_copy 86 = .ok (.aload_n 1, 1) := by decide +kernel
theorem dX2_copy_87 : decode cX2_copy 87 = .ok (.getfield 34, 3) := by decide +kernel
theorem dX2_copy_90 : decode cX2_copy 90 = .ok (.iconst 0, 1) := by decide +kernel
theorem dX2_copy_91 : decode cX2_copy 91 = .ok (.aload_n 0, 1) := by decide +kernel
theorem dX2_copy_92 : decode cX2_copy 92 = .ok (.getfield 34, 3) := by decide +kernel
theorem dX2_copy_95 : decode cX2_copy 95 = .ok (.iconst 0, 1) := by decide +kernel
theorem dX2_copy_96 : decode cX2_copy 96 = .ok (.aload_n 0, 1) := by decide +kernel
theorem dX2_copy_97 : decode cX2_copy 97 = .ok (.getfield 34, 3) := by decide +kernel
theorem dX2_copy_100 : decode cX2_copy 100 = .ok (.arraylength, 1) := by decide +kernel
theorem dX2_copy_101 : decode cX2_copy 101 = .ok (.invokestatic 40, 3) := by decide +kernel
theorem dX2_copy_104 : decode cX2_copy 104 = .ok (.aload_n 1, 1) := by decide +kernel
theorem dX2_copy_105 : decode cX2_copy 105 = .ok (.getfield 37, 3) := by decide +kernel
theorem dX2_copy_108 : decode cX2_copy 108 = .ok (.iconst 0, 1) := by decide +kernel
theorem dX2_copy_109 : decode cX2_copy 109 = .ok (.aload_n 0, 1) := by decide +kernel
theorem dX2_copy_110 : decode cX2_copy 110 = .ok (.getfield 37, 3) := by decide +kernel
theorem dX2_copy_113 : decode cX2_copy 113 = .ok (.iconst 0, 1) := by decide +kernel
theorem dX2_copy_114 : decode cX2_copy 114 = .ok (.aload_n 0, 1) := by decide +kernel
theorem dX2_copy_115 : decode cX2_copy 115 = .ok (.getfield 37, 3) := by decide +kernel
theorem dX2_copy_118 : decode cX2_copy 118 = .ok (.arraylength, 1) := by decide +kernel
theorem dX2_copy_119 : decode cX2_copy 119 = .ok (.invokestatic 40, 3) := by decide +kernel
theorem dX2_copy_122 : decode cX2_copy 122 = .ok (.return_, 1) := by decide +kernel
theorem fl_X2_21 : FLk RX2 21 2 3 := ⟨_, rfl, by decide, mW 152 (by decide +kernel) rfl⟩
theorem fl_X2_24 : FLk RX2 24 2 4 := ⟨_, rfl, by decide, mW 155 (by decide +kernel) rfl⟩
theorem ml_X2_40 : Cond.methodLink RX2 40 arraycopyName ∈ Wd := mW 1363 (by decide +kernel) rfl
def Land_copy (o0 : Nat) (o1 : Nat) (h : Hp) (Q : Hp → Prop) : Prop := ∀ h1 : Hp, h1 = sI h o0 0 (gI h o1 0) → ∀ h2 : Hp, h2 = sI h1 o0 1 (gI h1 o1 1) → ∀ h3 : Hp, h3 = sI h2 o0 2 (gI h2 o1 2) → ∀ h4 : Hp, h4 = sI h3 o0 3 (gI h3 o1 3) → (¬ (0 : Int32) < 0 ∧ ¬ (0 : Int32) < 0 ∧ ¬ (16 : Int32) < 0 ∧ ((0 : Int32)).toNatClampNeg + ((16 : Int32)).toNatClampNeg ≤ 16 ∧ ((0 : Int32)).toNatClampNeg + ((16 : Int32)).toNatClampNeg ≤ 16) ∧ ∀ h5 : Hp, h5 = cI h4 (rf o1 4) ((0 : Int32)).toNatClampNeg (rf o0 4) ((0 : Int32)).toNatClampNeg ((16 : Int32)).toNatClampNeg → (¬ (0 : Int32) < 0 ∧ ¬ (0 : Int32) < 0 ∧ ¬ (16 : Int32) < 0 ∧ ((0 : Int32)).toNatClampNeg + ((16 : Int32)).toNatClampNeg ≤ 16 ∧ ((0 : Int32)).toNatClampNeg + ((16 : Int32)).toNatClampNeg ≤ 16) ∧ ∀ h6 : Hp, h6 = cI h5 (rf o1 5) ((0 : Int32)).toNatClampNeg (rf o0 5) ((0 : Int32)).toNatClampNeg ((16 : Int32)).toNatClampNeg → (¬ (0 : Int32) < 0 ∧ ¬ (0 : Int32) < 0 ∧ ¬ (8 : Int32) < 0 ∧ ((0 : Int32)).toNatClampNeg + ((8 : Int32)).toNatClampNeg ≤ 8 ∧ ((0 : Int32)).toNatClampNeg + ((8 : Int32)).toNatClampNeg ≤ 8) ∧ ∀ h7 : Hp, h7 = cI h6 (rf o1 6) ((0 : Int32)).toNatClampNeg (rf o0 6) ((0 : Int32)).toNatClampNeg ((8 : Int32)).toNatClampNeg → (¬ (0 : Int32) < 0 ∧ ¬ (0 : Int32) < 0 ∧ ¬ (10 : Int32) < 0 ∧ ((0 : Int32)).toNatClampNeg + ((10 : Int32)).toNatClampNeg ≤ 10 ∧ ((0 : Int32)).toNatClampNeg + ((10 : Int32)).toNatClampNeg ≤ 10) ∧ ∀ h8 : Hp, h8 = cI h7 (rf o1 7) ((0 : Int32)).toNatClampNeg (rf o0 7) ((0 : Int32)).toNatClampNeg ((10 : Int32)).toNatClampNeg → (¬ (0 : Int32) < 0 ∧ ¬ (0 : Int32) < 0 ∧ ¬ (160 : Int32) < 0 ∧ ((0 : Int32)).toNatClampNeg + ((160 : Int32)).toNatClampNeg ≤ 160 ∧ ((0 : Int32)).toNatClampNeg + ((160 : Int32)).toNatClampNeg ≤ 160) ∧ ∀ h9 : Hp, h9 = cI h8 (rf o1 8) ((0 : Int32)).toNatClampNeg (rf o0 8) ((0 : Int32)).toNatClampNeg ((160 : Int32)).toNatClampNeg → Q h9
set_option maxHeartbeats 4000000 in
set_option maxRecDepth 20000 in
theorem c_Land_copy {G : Gx} {o0 : Nat} (ho0 : SH o0 = .inl 2) {o1 : Nat} (ho1 : SH o1 = .inl 2)  {h : Hp} {Q : Hp → Prop} (hw : Land_copy o0 o1 h Q) : Ct yX2_copy cX2_copy 2 none 2 G [.ref (gAd G o0), .ref (gAd G o1)] h (QV G Q) := by
  refine ct_go [(0, .ref (gAd G o0)), (1, .ref (gAd G o1))] (plainFor_of_name (by decide)) rfl (Nat.le_of_ble_eq_true rfl) rfl ?_
  refine g_aload_n dX2_copy_0 rfl rfl ?_
  refine g_aload_n dX2_copy_1 rfl rfl ?_
  refine g_getI dX2_copy_2 fl_X2_9 ho1 rfl ?_
  refine g_putI dX2_copy_5 fl_X2_9 ho0 rfl rfl pf_2_0 ?_
  refine g_heap (fun h1 eh1 => ?_)
  have hw := hw h1 eh1
  refine g_aload_n dX2_copy_8 rfl rfl ?_
  refine g_aload_n dX2_copy_9 rfl rfl ?_
  refine g_getI dX2_copy_10 fl_X2_15 ho1 rfl ?_
  refine g_putI dX2_copy_13 fl_X2_15 ho0 rfl rfl pf_2_1 ?_
  refine g_heap (fun h2 eh2 => ?_)
  have hw := hw h2 eh2
  refine g_aload_n dX2_copy_16 rfl rfl ?_
  refine g_aload_n dX2_copy_17 rfl rfl ?_
  refine g_getI dX2_copy_18 fl_X2_18 ho1 rfl ?_
  refine g_putI dX2_copy_21 fl_X2_18 ho0 rfl rfl pf_2_2 ?_
  refine g_heap (fun h3 eh3 => ?_)
  have hw := hw h3 eh3
  refine g_aload_n dX2_copy_24 rfl rfl ?_
  refine g_aload_n dX2_copy_25 rfl rfl ?_
  refine g_getI dX2_copy_26 fl_X2_21 ho1 rfl ?_
  refine g_putI dX2_copy_29 fl_X2_21 ho0 rfl rfl pf_2_3 ?_
  refine g_heap (fun h4 eh4 => ?_)
  have hw := hw h4 eh4
  refine g_aload_n dX2_copy_32 rfl rfl ?_
  refine g_getA dX2_copy_33 fl_X2_24 ho1 rfl ?_
  refine g_iconst (v := 0) dX2_copy_36 (by decide) ?_
  refine g_aload_n dX2_copy_37 rfl rfl ?_
  refine g_getA dX2_copy_38 fl_X2_24 ho0 rfl ?_
  refine g_iconst (v := 0) dX2_copy_41 (by decide) ?_
  refine g_aload_n dX2_copy_42 rfl rfl ?_
  refine g_getA dX2_copy_43 fl_X2_24 ho0 rfl ?_
  refine g_alen dX2_copy_46 (rf_a ho0 (k := 4) rfl) (by decide) (ln_2_4 ho0) (v := 16) (by decide) ?_
  refine g_copyI dX2_copy_47 ml_X2_40 (rf_a ho1 (k := 4) rfl) (rf_a ho0 (k := 4) rfl) (ln_2_4 ho1) (ln_2_4 ho0) hw.1 (by decide) (Nat.le_of_ble_eq_true rfl) ?_
  have hw := hw.2
  refine g_heap (fun h5 eh5 => ?_)
  have hw := hw h5 eh5
  refine g_aload_n dX2_copy_50 rfl rfl ?_
  refine g_getA dX2_copy_51 fl_X2_28 ho1 rfl ?_
  refine g_iconst (v := 0) dX2_copy_54 (by decide) ?_
  refine g_aload_n dX2_copy_55 rfl rfl ?_
  refine g_getA dX2_copy_56 fl_X2_28 ho0 rfl ?_
  refine g_iconst (v := 0) dX2_copy_59 (by decide) ?_
  refine g_aload_n dX2_copy_60 rfl rfl ?_
  refine g_getA dX2_copy_61 fl_X2_28 ho0 rfl ?_
  refine g_alen dX2_copy_64 (rf_a ho0 (k := 5) rfl) (by decide) (ln_2_5 ho0) (v := 16) (by decide) ?_
  refine g_copyI dX2_copy_65 ml_X2_40 (rf_a ho1 (k := 5) rfl) (rf_a ho0 (k := 5) rfl) (ln_2_5 ho1) (ln_2_5 ho0) hw.1 (by decide) (Nat.le_of_ble_eq_true rfl) ?_
  have hw := hw.2
  refine g_heap (fun h6 eh6 => ?_)
  have hw := hw h6 eh6
  refine g_aload_n dX2_copy_68 rfl rfl ?_
  refine g_getA dX2_copy_69 fl_X2_31 ho1 rfl ?_
  refine g_iconst (v := 0) dX2_copy_72 (by decide) ?_
  refine g_aload_n dX2_copy_73 rfl rfl ?_
  refine g_getA dX2_copy_74 fl_X2_31 ho0 rfl ?_
  refine g_iconst (v := 0) dX2_copy_77 (by decide) ?_
  refine g_aload_n dX2_copy_78 rfl rfl ?_
  refine g_getA dX2_copy_79 fl_X2_31 ho0 rfl ?_
  refine g_alen dX2_copy_82 (rf_a ho0 (k := 6) rfl) (by decide) (ln_2_6 ho0) (v := 8) (by decide) ?_
  refine g_copyI dX2_copy_83 ml_X2_40 (rf_a ho1 (k := 6) rfl) (rf_a ho0 (k := 6) rfl) (ln_2_6 ho1) (ln_2_6 ho0) hw.1 (by decide) (Nat.le_of_ble_eq_true rfl) ?_
  have hw := hw.2
  refine g_heap (fun h7 eh7 => ?_)
  have hw := hw h7 eh7
  refine g_aload_n dX2_copy_86 rfl rfl ?_
  refine g_getA dX2_copy_87 fl_X2_34 ho1 rfl ?_
  refine g_iconst (v := 0) dX2_copy_90 (by decide) ?_
  refine g_aload_n dX2_copy_91 rfl rfl ?_
  refine g_getA dX2_copy_92 fl_X2_34 ho0 rfl ?_
  refine g_iconst (v := 0) dX2_copy_95 (by decide) ?_
  refine g_aload_n dX2_copy_96 rfl rfl ?_
  refine g_getA dX2_copy_97 fl_X2_34 ho0 rfl ?_
  refine g_alen dX2_copy_100 (rf_a ho0 (k := 7) rfl) (by decide) (ln_2_7 ho0) (v := 10) (by decide) ?_
  refine g_copyI dX2_copy_101 ml_X2_40 (rf_a ho1 (k := 7) rfl) (rf_a ho0 (k := 7) rfl) (ln_2_7 ho1) (ln_2_7 ho0) hw.1 (by decide) (Nat.le_of_ble_eq_true rfl) ?_
  have hw := hw.2
  refine g_heap (fun h8 eh8 => ?_)
  have hw := hw h8 eh8
  refine g_aload_n dX2_copy_104 rfl rfl ?_
  refine g_getA dX2_copy_105 fl_X2_37 ho1 rfl ?_
  refine g_iconst (v := 0) dX2_copy_108 (by decide) ?_
  refine g_aload_n dX2_copy_109 rfl rfl ?_
  refine g_getA dX2_copy_110 fl_X2_37 ho0 rfl ?_
  refine g_iconst (v := 0) dX2_copy_113 (by decide) ?_
  refine g_aload_n dX2_copy_114 rfl rfl ?_
  refine g_getA dX2_copy_115 fl_X2_37 ho0 rfl ?_
  refine g_alen dX2_copy_118 (rf_a ho0 (k := 8) rfl) (by decide) (ln_2_8 ho0) (v := 160) (by decide) ?_
  refine g_copyI dX2_copy_119 ml_X2_40 (rf_a ho1 (k := 8) rfl) (rf_a ho0 (k := 8) rfl) (ln_2_8 ho1) (ln_2_8 ho0) hw.1 (by decide) (Nat.le_of_ble_eq_true rfl) ?_
  have hw := hw.2
  refine g_heap (fun h9 eh9 => ?_)
  have hw := hw h9 eh9
  exact g_vret dX2_copy_122 hw
theorem dX11_image_0 : decode cX11_image 0 = .ok (.iload_n 1, 1) := by decide +kernel
theorem dX11_image_1 : decode cX11_image 1 = .ok (.invokestatic 407, 3) := by decide +kernel
theorem dX11_image_4 : decode cX11_image 4 = .ok (.ifCond .ne 6, 3) := by decide +kernel
theorem dX11_image_7 : decode cX11_image 7 = .ok (.bipush (-2), 2) := by decide +kernel
theorem dX11_image_9 : decode cX11_image 9 = .ok (.ireturn, 1) := by decide +kernel
theorem dX11_image_10 : decode cX11_image 10 = .ok (.aload_n 0, 1) := by decide +kernel
theorem dX11_image_11 : decode cX11_image 11 = .ok (.getfield 54, 3) := by decide +kernel
theorem dX11_image_14 : decode cX11_image 14 = .ok (.iload_n 1, 1) := by decide +kernel
theorem dX11_image_15 : decode cX11_image 15 = .ok (.aaload, 1) := by decide +kernel
theorem dX11_image_16 : decode cX11_image 16 = .ok (.aload_n 0, 1) := by decide +kernel
theorem dX11_image_17 : decode cX11_image 17 = .ok (.getfield 27, 3) := by decide +kernel
theorem dX11_image_20 : decode cX11_image 20 = .ok (.invokevirtual 410, 3) := by decide +kernel
theorem dX11_image_23 : decode cX11_image 23 = .ok (.aload_n 0, 1) := by decide +kernel
theorem dX11_image_24 : decode cX11_image 24 = .ok (.getfield 58, 3) := by decide +kernel
theorem dX11_image_27 : decode cX11_image 27 = .ok (.iload_n 1, 1) := by decide +kernel
theorem dX11_image_28 : decode cX11_image 28 = .ok (.aaload, 1) := by decide +kernel
theorem dX11_image_29 : decode cX11_image 29 = .ok (.aload_n 0, 1) := by decide +kernel
theorem dX11_image_30 : decode cX11_image 30 = .ok (.getfield 34, 3) := by decide +kernel
theorem dX11_image_33 : decode cX11_image 33 = .ok (.invokevirtual 231, 3) := by decide +kernel
theorem dX11_image_36 : decode cX11_image 36 = .ok (.aload_n 0, 1) := by decide +kernel
theorem dX11_image_37 : decode cX11_image 37 = .ok (.dup, 1) := by decide +kernel
theorem dX11_image_38 : decode cX11_image 38 = .ok (.getfield 94, 3) := by decide +kernel
theorem dX11_image_41 : decode cX11_image 41 = .ok (.iconst 1, 1) := by decide +kernel
theorem dX11_image_42 : decode cX11_image 42 = .ok (.iload_n 1, 1) := by decide +kernel
theorem dX11_image_43 : decode cX11_image 43 = .ok (.ishl, 1) := by decide +kernel
theorem dX11_image_44 : decode cX11_image 44 = .ok (.ior, 1) := by decide +kernel
theorem dX11_image_45 : decode cX11_image 45 = .ok (.putfield 94, 3) := by decide +kernel
theorem dX11_image_48 : decode cX11_image 48 = .ok (.iconst 0, 1) := by decide +kernel
theorem dX11_image_49 : decode cX11_image 49 = .ok (.ireturn, 1) := by decide +kernel
theorem ml_X11_407 : Cond.methodLink RX11 407 yX11_isImage ∈ Wd := mW 1356 (by decide +kernel) rfl
theorem mk_X11_isImage : MokS yX11_isImage cX11_isImage 1 (some .boolean) 1 := ⟨⟨mW 1 (by decide +kernel) rfl, mW 1358 (by decide +kernel) rfl, ⟨by decide, by decide, by decide +kernel⟩, by decide⟩, mW 1357 (by decide +kernel) rfl⟩
theorem fl_X11_54 : FLk RX11 54 11 8 := ⟨_, rfl, by decide, mW 387 (by decide +kernel) rfl⟩
theorem ml_X11_410 : Cond.methodLink RX11 410 yX2_copy ∈ Wd := mW 1359 (by decide +kernel) rfl
theorem mk_X2_copy : MokV yX2_copy cX2_copy 2 none 1 := ⟨⟨mW 5 (by decide +kernel) rfl, mW 1362 (by decide +kernel) rfl, ⟨by decide, by decide, by decide +kernel⟩, by decide⟩, mW 1360 (by decide +kernel) rfl, mW 1361 (by decide +kernel) rfl⟩
theorem fl_X11_58 : FLk RX11 58 11 9 := ⟨_, rfl, by decide, mW 388 (by decide +kernel) rfl⟩
theorem fl_X11_94 : FLk RX11 94 11 15 := ⟨_, rfl, by decide, mW 394 (by decide +kernel) rfl⟩
theorem pf_11_15 : parseFieldDescriptor (uD 11 15) = some .int := by decide +kernel
def C_image (x1 : Int32) (h : Hp) (Q : Int32 → Hp → Prop) : Prop := C_isImage x1 h (fun r1 h2 => (¬ r1 = 0 → vp_in x1 2 ∧ Land_copy (rf 55 (x1).toNatClampNeg) 14 h2 (fun h4 => vp_in x1 2 ∧ Stand_copy (rf 68 (x1).toNatClampNeg) 20 h4 (fun h6 => ∀ h7 : Hp, h7 = sI h6 0 15 ((gI h6 0 15) ||| ((1 : Int32) <<< (x1 &&& 31))) → Q 0 h7))) ∧ (r1 = 0 → Q (-2) h2))
set_option maxHeartbeats 4000000 in
set_option maxRecDepth 20000 in
theorem c_C_image {G : Gx}  {x1 : Int32} {h : Hp} {Q : Int32 → Hp → Prop} (hw : C_image x1 h Q) : Ct yX11_image cX11_image 2 (some .int) 3 G [.ref (gAd G 0), .int x1] h (QI G Q) := by
  refine ct_go [(0, .ref (gAd G 0)), (1, .int x1)] (plainFor_of_name (by decide)) rfl (Nat.le_of_ble_eq_true rfl) rfl ?_
  refine g_iload_n dX11_image_0 rfl rfl ?_
  refine g_callSI [.int x1] dX11_image_1 ml_X11_407 mk_X11_isImage rfl (Nat.le_of_ble_eq_true rfl) (Nat.le_of_ble_eq_true rfl) rfl (c_C_isImage hw) (fun r1 h2 hw => ?_)
  refine g_if_ne 10 dX11_image_4 rfl (fun hc => ?_) (fun hc => ?_)
  · have hw := hw.1 hc
    refine g_aload_n dX11_image_10 rfl rfl ?_
    refine g_getA dX11_image_11 fl_X11_54 sh0 rfl ?_
    refine g_iload_n dX11_image_14 rfl rfl ?_
    refine g_aald dX11_image_15 ia55 (by decide) al55 hw.1 ?_
    have hi3 := hw.1
    have hw := hw.2
    refine g_aload_n dX11_image_16 rfl rfl ?_
    refine g_getO dX11_image_17 fl_X11_27 sh0 rfl ?_
    refine g_callVV [.ref (gAd G 14)] (ci := 2) dX11_image_20 ml_X11_410 mk_X2_copy rfl rfl (rf_e ia55 (by rw [al55]; exact vp_lt hi3) (by decide)) (Nat.le_of_ble_eq_true rfl) (Nat.le_of_ble_eq_true rfl) rfl (c_Land_copy (rf_e ia55 (by rw [al55]; exact vp_lt hi3) (by decide)) sh14 hw) (fun h4 hw => ?_)
    refine g_aload_n dX11_image_23 rfl rfl ?_
    refine g_getA dX11_image_24 fl_X11_58 sh0 rfl ?_
    refine g_iload_n dX11_image_27 rfl rfl ?_
    refine g_aald dX11_image_28 ia68 (by decide) al68 hw.1 ?_
    have hi5 := hw.1
    have hw := hw.2
    refine g_aload_n dX11_image_29 rfl rfl ?_
    refine g_getO dX11_image_30 fl_X11_34 sh0 rfl ?_
    refine g_callVV [.ref (gAd G 20)] (ci := 6) dX11_image_33 ml_X11_231 mk_X6_copy rfl rfl (rf_e ia68 (by rw [al68]; exact vp_lt hi5) (by decide)) (Nat.le_of_ble_eq_true rfl) (Nat.le_of_ble_eq_true rfl) rfl (c_Stand_copy (rf_e ia68 (by rw [al68]; exact vp_lt hi5) (by decide)) sh20 hw) (fun h6 hw => ?_)
    refine g_aload_n dX11_image_36 rfl rfl ?_
    refine g_dup dX11_image_37 rfl ?_
    refine g_getI dX11_image_38 fl_X11_94 sh0 rfl ?_
    refine g_iconst (v := 1) dX11_image_41 (by decide) ?_
    refine g_iload_n dX11_image_42 rfl rfl ?_
    refine g_ishl dX11_image_43 ?_
    refine g_ior dX11_image_44 ?_
    refine g_putI dX11_image_45 fl_X11_94 sh0 rfl rfl pf_11_15 ?_
    refine g_heap (fun h7 eh7 => ?_)
    have hw := hw h7 eh7
    refine g_iconst (v := 0) dX11_image_48 (by decide) ?_
    exact g_iret dX11_image_49 hw
  · have hw := hw.2 hc
    refine g_bipush (v := (-2)) dX11_image_7 (by decide) ?_
    exact g_iret dX11_image_9 hw
theorem dX11_restore_0 : decode cX11_restore 0 = .ok (.iload_n 1, 1) := by decide +kernel
theorem dX11_restore_1 : decode cX11_restore 1 = .ok (.invokestatic 407, 3) := by decide +kernel
theorem dX11_restore_4 : decode cX11_restore 4 = .ok (.ifCond .ne 6, 3) := by decide +kernel
theorem dX11_restore_7 : decode cX11_restore 7 = .ok (.bipush (-2), 2) := by decide +kernel
theorem dX11_restore_9 : decode cX11_restore 9 = .ok (.ireturn, 1) := by decide +kernel
theorem dX11_restore_10 : decode cX11_restore 10 = .ok (.aload_n 0, 1) := by decide +kernel
theorem dX11_restore_11 : decode cX11_restore 11 = .ok (.getfield 94, 3) := by decide +kernel
theorem dX11_restore_14 : decode cX11_restore 14 = .ok (.iload_n 1, 1) := by decide +kernel
theorem dX11_restore_15 : decode cX11_restore 15 = .ok (.ishr, 1) := by decide +kernel
theorem dX11_restore_16 : decode cX11_restore 16 = .ok (.iconst 1, 1) := by decide +kernel
theorem dX11_restore_17 : decode cX11_restore 17 = .ok (.iand, 1) := by decide +kernel
theorem dX11_restore_18 : decode cX11_restore 18 = .ok (.ifCond .ne 6, 3) := by decide +kernel
theorem dX11_restore_21 : decode cX11_restore 21 = .ok (.bipush (-5), 2) := by decide +kernel
theorem dX11_restore_23 : decode cX11_restore 23 = .ok (.ireturn, 1) := by decide +kernel
theorem dX11_restore_24 : decode cX11_restore 24 = .ok (.aload_n 0, 1) := by decide +kernel
theorem dX11_restore_25 : decode cX11_restore 25 = .ok (.getfield 27, 3) := by decide +kernel
theorem dX11_restore_28 : decode cX11_restore 28 = .ok (.aload_n 0, 1) := by decide +kernel
theorem dX11_restore_29 : decode cX11_restore 29 = .ok (.getfield 54, 3) := by decide +kernel
theorem dX11_restore_32 : decode cX11_restore 32 = .ok (.iload_n 1, 1) := by decide +kernel
theorem dX11_restore_33 : decode cX11_restore 33 = .ok (.aaload, 1) := by decide +kernel
theorem dX11_restore_34 : decode cX11_restore 34 = .ok (.invokevirtual 410, 3) := by decide +kernel
theorem dX11_restore_37 : decode cX11_restore 37 = .ok (.aload_n 0, 1) := by decide +kernel
theorem dX11_restore_38 : decode cX11_restore 38 = .ok (.getfield 34, 3) := by decide +kernel
theorem dX11_restore_41 : decode cX11_restore 41 = .ok (.aload_n 0, 1) := by decide +kernel
theorem dX11_restore_42 : decode cX11_restore 42 = .ok (.getfield 58, 3) := by decide +kernel
theorem dX11_restore_45 : decode cX11_restore 45 = .ok (.iload_n 1, 1) := by decide +kernel
theorem dX11_restore_46 : decode cX11_restore 46 = .ok (.aaload, 1) := by decide +kernel
theorem dX11_restore_47 : decode cX11_restore 47 = .ok (.invokevirtual 231, 3) := by decide +kernel
theorem dX11_restore_50 : decode cX11_restore 50 = .ok (.aload_n 0, 1) := by decide +kernel
theorem dX11_restore_51 : decode cX11_restore 51 = .ok (.getfield 44, 3) := by decide +kernel
theorem dX11_restore_54 : decode cX11_restore 54 = .ok (.invokevirtual 119, 3) := by decide +kernel
theorem dX11_restore_57 : decode cX11_restore 57 = .ok (.aload_n 0, 1) := by decide +kernel
theorem dX11_restore_58 : decode cX11_restore 58 = .ok (.getfield 72, 3) := by decide +kernel
theorem dX11_restore_61 : decode cX11_restore 61 = .ok (.invokevirtual 122, 3) := by decide +kernel
theorem dX11_restore_64 : decode cX11_restore 64 = .ok (.iconst 0, 1) := by decide +kernel
theorem dX11_restore_65 : decode cX11_restore 65 = .ok (.ireturn, 1) := by decide +kernel
def C_restore (x1 : Int32) (h : Hp) (Q : Int32 → Hp → Prop) : Prop := C_isImage x1 h (fun r1 h2 => (¬ r1 = 0 → (¬ (((gI h2 0 15) >>> (x1 &&& 31)) &&& 1) = 0 → vp_in x1 2 ∧ Land_copy 14 (rf 55 (x1).toNatClampNeg) h2 (fun h4 => vp_in x1 2 ∧ Stand_copy 20 (rf 68 (x1).toNatClampNeg) h4 (fun h6 => Past_forget  h6 (fun h7 => Game_forget  h7 (fun h8 => Q 0 h8))))) ∧ ((((gI h2 0 15) >>> (x1 &&& 31)) &&& 1) = 0 → Q (-5) h2)) ∧ (r1 = 0 → Q (-2) h2))
set_option maxHeartbeats 4000000 in
set_option maxRecDepth 20000 in
theorem c_C_restore {G : Gx}  {x1 : Int32} {h : Hp} {Q : Int32 → Hp → Prop} (hw : C_restore x1 h Q) : Ct yX11_restore cX11_restore 2 (some .int) 3 G [.ref (gAd G 0), .int x1] h (QI G Q) := by
  refine ct_go [(0, .ref (gAd G 0)), (1, .int x1)] (plainFor_of_name (by decide)) rfl (Nat.le_of_ble_eq_true rfl) rfl ?_
  refine g_iload_n dX11_restore_0 rfl rfl ?_
  refine g_callSI [.int x1] dX11_restore_1 ml_X11_407 mk_X11_isImage rfl (Nat.le_of_ble_eq_true rfl) (Nat.le_of_ble_eq_true rfl) rfl (c_C_isImage hw) (fun r1 h2 hw => ?_)
  refine g_if_ne 10 dX11_restore_4 rfl (fun hc => ?_) (fun hc => ?_)
  · have hw := hw.1 hc
    refine g_aload_n dX11_restore_10 rfl rfl ?_
    refine g_getI dX11_restore_11 fl_X11_94 sh0 rfl ?_
    refine g_iload_n dX11_restore_14 rfl rfl ?_
    refine g_ishr dX11_restore_15 ?_
    refine g_iconst (v := 1) dX11_restore_16 (by decide) ?_
    refine g_iand dX11_restore_17 ?_
    refine g_if_ne 24 dX11_restore_18 rfl (fun hc => ?_) (fun hc => ?_)
    · have hw := hw.1 hc
      refine g_aload_n dX11_restore_24 rfl rfl ?_
      refine g_getO dX11_restore_25 fl_X11_27 sh0 rfl ?_
      refine g_aload_n dX11_restore_28 rfl rfl ?_
      refine g_getA dX11_restore_29 fl_X11_54 sh0 rfl ?_
      refine g_iload_n dX11_restore_32 rfl rfl ?_
      refine g_aald dX11_restore_33 ia55 (by decide) al55 hw.1 ?_
      have hi3 := hw.1
      have hw := hw.2
      refine g_callVV [.ref (gAd G (rf 55 (x1).toNatClampNeg))] (ci := 2) dX11_restore_34 ml_X11_410 mk_X2_copy rfl rfl sh14 (Nat.le_of_ble_eq_true rfl) (Nat.le_of_ble_eq_true rfl) rfl (c_Land_copy sh14 (rf_e ia55 (by rw [al55]; exact vp_lt hi3) (by decide)) hw) (fun h4 hw => ?_)
      refine g_aload_n dX11_restore_37 rfl rfl ?_
      refine g_getO dX11_restore_38 fl_X11_34 sh0 rfl ?_
      refine g_aload_n dX11_restore_41 rfl rfl ?_
      refine g_getA dX11_restore_42 fl_X11_58 sh0 rfl ?_
      refine g_iload_n dX11_restore_45 rfl rfl ?_
      refine g_aald dX11_restore_46 ia68 (by decide) al68 hw.1 ?_
      have hi5 := hw.1
      have hw := hw.2
      refine g_callVV [.ref (gAd G (rf 68 (x1).toNatClampNeg))] (ci := 6) dX11_restore_47 ml_X11_231 mk_X6_copy rfl rfl sh20 (Nat.le_of_ble_eq_true rfl) (Nat.le_of_ble_eq_true rfl) rfl (c_Stand_copy sh20 (rf_e ia68 (by rw [al68]; exact vp_lt hi5) (by decide)) hw) (fun h6 hw => ?_)
      refine g_aload_n dX11_restore_50 rfl rfl ?_
      refine g_getO dX11_restore_51 fl_X11_44 sh0 rfl ?_
      refine g_callVV [] (ci := 4) dX11_restore_54 ml_X11_119 mk_X4_forget rfl rfl sh24 (Nat.le_of_ble_eq_true rfl) (Nat.le_of_ble_eq_true rfl) rfl (c_Past_forget hw) (fun h7 hw => ?_)
      refine g_aload_n dX11_restore_57 rfl rfl ?_
      refine g_getO dX11_restore_58 fl_X11_72 sh0 rfl ?_
      refine g_callVV [] (ci := 0) dX11_restore_61 ml_X11_122 mk_X0_forget rfl rfl sh80 (Nat.le_of_ble_eq_true rfl) (Nat.le_of_ble_eq_true rfl) rfl (c_Game_forget hw) (fun h8 hw => ?_)
      refine g_iconst (v := 0) dX11_restore_64 (by decide) ?_
      exact g_iret dX11_restore_65 hw
    · have hw := hw.2 hc
      refine g_bipush (v := (-5)) dX11_restore_21 (by decide) ?_
      exact g_iret dX11_restore_23 hw
  · have hw := hw.2 hc
    refine g_bipush (v := (-2)) dX11_restore_7 (by decide) ?_
    exact g_iret dX11_restore_9 hw
theorem dX11_count_0 : decode cX11_count 0 = .ok (.iload_n 1, 1) := by decide +kernel
theorem dX11_count_1 : decode cX11_count 1 = .ok (.tableswitch 139 0 9 #[55, 63, 71, 79, 87, 95, 103, 118, 126, 131], 55) := by decide +kernel
theorem dX11_count_56 : decode cX11_count 56 = .ok (.aload_n 0, 1) := by decide +kernel
theorem dX11_count_57 : decode cX11_count 57 = .ok (.getfield 27, 3) := by decide +kernel
theorem dX11_count_60 : decode cX11_count 60 = .ok (.getfield 209, 3) := by decide +kernel
theorem dX11_count_63 : decode cX11_count 63 = .ok (.ireturn, 1) := by decide +kernel
theorem dX11_count_64 : decode cX11_count 64 = .ok (.aload_n 0, 1) := by decide +kernel
theorem dX11_count_65 : decode cX11_count 65 = .ok (.getfield 27, 3) := by decide +kernel
theorem dX11_count_68 : decode cX11_count 68 = .ok (.getfield 364, 3) := by decide +kernel
theorem dX11_count_71 : decode cX11_count 71 = .ok (.ireturn, 1) := by decide +kernel
theorem dX11_count_72 : decode cX11_count 72 = .ok (.aload_n 0, 1) := by decide +kernel
theorem dX11_count_73 : decode cX11_count 73 = .ok (.getfield 34, 3) := by decide +kernel
theorem dX11_count_76 : decode cX11_count 76 = .ok (.getfield 140, 3) := by decide +kernel
theorem dX11_count_79 : decode cX11_count 79 = .ok (.ireturn, 1) := by decide +kernel
theorem dX11_count_80 : decode cX11_count 80 = .ok (.aload_n 0, 1) := by decide +kernel
theorem dX11_count_81 : decode cX11_count 81 = .ok (.getfield 34, 3) := by decide +kernel
theorem dX11_count_84 : decode cX11_count 84 = .ok (.getfield 238, 3) := by decide +kernel
theorem dX11_count_87 : decode cX11_count 87 = .ok (.ireturn, 1) := by decide +kernel
theorem dX11_count_88 : decode cX11_count 88 = .ok (.aload_n 0, 1) := by decide +kernel
theorem dX11_count_89 : decode cX11_count 89 = .ok (.getfield 34, 3) := by decide +kernel
theorem dX11_count_92 : decode cX11_count 92 = .ok (.getfield 412, 3) := by decide +kernel
theorem dX11_count_95 : decode cX11_count 95 = .ok (.ireturn, 1) := by decide +kernel
theorem dX11_count_96 : decode cX11_count 96 = .ok (.aload_n 0, 1) := by decide +kernel
theorem dX11_count_97 : decode cX11_count 97 = .ok (.getfield 27, 3) := by decide +kernel
theorem dX11_count_100 : decode cX11_count 100 = .ok (.getfield 415, 3) := by decide +kernel
theorem dX11_count_103 : decode cX11_count 103 = .ok (.ireturn, 1) := by decide +kernel
theorem dX11_count_104 : decode cX11_count 104 = .ok (.aload_n 0, 1) := by decide +kernel
theorem dX11_count_105 : decode cX11_count 105 = .ok (.getfield 27, 3) := by decide +kernel
theorem dX11_count_108 : decode cX11_count 108 = .ok (.aload_n 0, 1) := by decide +kernel
theorem dX11_count_109 : decode cX11_count 109 = .ok (.getfield 34, 3) := by decide +kernel
theorem dX11_count_112 : decode cX11_count 112 = .ok (.getfield 140, 3) := by decide +kernel
theorem dX11_count_115 : decode cX11_count 115 = .ok (.invokevirtual 418, 3) := by decide +kernel
theorem dX11_count_118 : decode cX11_count 118 = .ok (.ireturn, 1) := by decide +kernel
theorem dX11_count_119 : decode cX11_count 119 = .ok (.aload_n 0, 1) := by decide +kernel
theorem dX11_count_120 : decode cX11_count 120 = .ok (.getfield 44, 3) := by decide +kernel
theorem dX11_count_123 : decode cX11_count 123 = .ok (.getfield 218, 3) := by decide +kernel
theorem dX11_count_126 : decode cX11_count 126 = .ok (.ireturn, 1) := by decide +kernel
theorem dX11_count_127 : decode cX11_count 127 = .ok (.aload_n 0, 1) := by decide +kernel
theorem dX11_count_128 : decode cX11_count 128 = .ok (.getfield 13, 3) := by decide +kernel
theorem dX11_count_131 : decode cX11_count 131 = .ok (.ireturn, 1) := by decide +kernel
theorem dX11_count_132 : decode cX11_count 132 = .ok (.aload_n 0, 1) := by decide +kernel
theorem dX11_count_133 : decode cX11_count 133 = .ok (.getfield 27, 3) := by decide +kernel
theorem dX11_count_136 : decode cX11_count 136 = .ok (.getfield 123, 3) := by decide +kernel
theorem dX11_count_139 : decode cX11_count 139 = .ok (.ireturn, 1) := by decide +kernel
theorem dX11_count_140 : decode cX11_count 140 = .ok (.iconst (-1), 1) := by decide +kernel
theorem dX11_count_141 : decode cX11_count 141 = .ok (.ireturn, 1) := by decide +kernel
theorem fl_X11_412 : FLk RX11 412 6 2 := ⟨_, rfl, by decide, mW 203 (by decide +kernel) rfl⟩
theorem fl_X11_415 : FLk RX11 415 2 1 := ⟨_, rfl, by decide, mW 148 (by decide +kernel) rfl⟩
theorem ml_X11_418 : Cond.methodLink RX11 418 yX2_openRoads ∈ Wd := mW 1372 (by decide +kernel) rfl
def C_count (x1 : Int32) (h : Hp) (Q : Int32 → Hp → Prop) : Prop := (x1.toInt < 0 ∨ 9 < x1.toInt → Q (-1) h) ∧ (x1 = 0 → Q (gI h 14 0) h) ∧ (x1 = 1 → Q (gI h 14 2) h) ∧ (x1 = 2 → Q (gI h 20 3) h) ∧ (x1 = 3 → Q (gI h 20 0) h) ∧ (x1 = 4 → Q (gI h 20 2) h) ∧ (x1 = 5 → Q (gI h 14 1) h) ∧ (x1 = 6 → Land_openRoads (gI h 20 3) h (fun r1 h2 => Q r1 h2)) ∧ (x1 = 7 → Q (gI h 24 2) h) ∧ (x1 = 8 → Q (gI h 0 1) h) ∧ (x1 = 9 → Q (gI h 14 3) h)
set_option maxHeartbeats 4000000 in
set_option maxRecDepth 20000 in
theorem c_C_count {G : Gx}  {x1 : Int32} {h : Hp} {Q : Int32 → Hp → Prop} (hw : C_count x1 h Q) : Ct yX11_count cX11_count 2 (some .int) 2 G [.ref (gAd G 0), .int x1] h (QI G Q) := by
  refine ct_go [(0, .ref (gAd G 0)), (1, .int x1)] (plainFor_of_name (by decide)) rfl (Nat.le_of_ble_eq_true rfl) rfl ?_
  refine g_iload_n dX11_count_0 rfl rfl ?_
  rcases tsw_in x1 (0) (9) 10 (by decide) with hc | ⟨j, hj, hc⟩
  · have hw := hw.1 hc
    refine g_tswD 140 dX11_count_1 hc rfl ?_
    refine g_iconst (v := (-1)) dX11_count_140 (by decide) ?_
    exact g_iret dX11_count_141 hw
  · match j, hj, hc with
    | 0, _, hc =>
      have hc : x1 = 0 := tsw_eq hc (by decide)
      have hw := hw.2.1 hc
      refine g_tswI 0 56 dX11_count_1 hc (by decide) (by decide) (off := 55) (by decide) rfl ?_
      refine g_aload_n dX11_count_56 rfl rfl ?_
      refine g_getO dX11_count_57 fl_X11_27 sh0 rfl ?_
      refine g_getI dX11_count_60 fl_X11_209 sh14 rfl ?_
      exact g_iret dX11_count_63 hw
    | 1, _, hc =>
      have hc : x1 = 1 := tsw_eq hc (by decide)
      have hw := hw.2.2.1 hc
      refine g_tswI 1 64 dX11_count_1 hc (by decide) (by decide) (off := 63) (by decide) rfl ?_
      refine g_aload_n dX11_count_64 rfl rfl ?_
      refine g_getO dX11_count_65 fl_X11_27 sh0 rfl ?_
      refine g_getI dX11_count_68 fl_X11_364 sh14 rfl ?_
      exact g_iret dX11_count_71 hw
    | 2, _, hc =>
      have hc : x1 = 2 := tsw_eq hc (by decide)
      have hw := hw.2.2.2.1 hc
      refine g_tswI 2 72 dX11_count_1 hc (by decide) (by decide) (off := 71) (by decide) rfl ?_
      refine g_aload_n dX11_count_72 rfl rfl ?_
      refine g_getO dX11_count_73 fl_X11_34 sh0 rfl ?_
      refine g_getI dX11_count_76 fl_X11_140 sh20 rfl ?_
      exact g_iret dX11_count_79 hw
    | 3, _, hc =>
      have hc : x1 = 3 := tsw_eq hc (by decide)
      have hw := hw.2.2.2.2.1 hc
      refine g_tswI 3 80 dX11_count_1 hc (by decide) (by decide) (off := 79) (by decide) rfl ?_
      refine g_aload_n dX11_count_80 rfl rfl ?_
      refine g_getO dX11_count_81 fl_X11_34 sh0 rfl ?_
      refine g_getI dX11_count_84 fl_X11_238 sh20 rfl ?_
      exact g_iret dX11_count_87 hw
    | 4, _, hc =>
      have hc : x1 = 4 := tsw_eq hc (by decide)
      have hw := hw.2.2.2.2.2.1 hc
      refine g_tswI 4 88 dX11_count_1 hc (by decide) (by decide) (off := 87) (by decide) rfl ?_
      refine g_aload_n dX11_count_88 rfl rfl ?_
      refine g_getO dX11_count_89 fl_X11_34 sh0 rfl ?_
      refine g_getI dX11_count_92 fl_X11_412 sh20 rfl ?_
      exact g_iret dX11_count_95 hw
    | 5, _, hc =>
      have hc : x1 = 5 := tsw_eq hc (by decide)
      have hw := hw.2.2.2.2.2.2.1 hc
      refine g_tswI 5 96 dX11_count_1 hc (by decide) (by decide) (off := 95) (by decide) rfl ?_
      refine g_aload_n dX11_count_96 rfl rfl ?_
      refine g_getO dX11_count_97 fl_X11_27 sh0 rfl ?_
      refine g_getI dX11_count_100 fl_X11_415 sh14 rfl ?_
      exact g_iret dX11_count_103 hw
    | 6, _, hc =>
      have hc : x1 = 6 := tsw_eq hc (by decide)
      have hw := hw.2.2.2.2.2.2.2.1 hc
      refine g_tswI 6 104 dX11_count_1 hc (by decide) (by decide) (off := 103) (by decide) rfl ?_
      refine g_aload_n dX11_count_104 rfl rfl ?_
      refine g_getO dX11_count_105 fl_X11_27 sh0 rfl ?_
      refine g_aload_n dX11_count_108 rfl rfl ?_
      refine g_getO dX11_count_109 fl_X11_34 sh0 rfl ?_
      refine g_getI dX11_count_112 fl_X11_140 sh20 rfl ?_
      refine g_callVI [.int (gI h 20 3)] (ci := 2) dX11_count_115 ml_X11_418 mk_X2_openRoads rfl rfl sh14 (Nat.le_of_ble_eq_true rfl) (Nat.le_of_ble_eq_true rfl) rfl (c_Land_openRoads hw) (fun r1 h2 hw => ?_)
      exact g_iret dX11_count_118 hw
    | 7, _, hc =>
      have hc : x1 = 7 := tsw_eq hc (by decide)
      have hw := hw.2.2.2.2.2.2.2.2.1 hc
      refine g_tswI 7 119 dX11_count_1 hc (by decide) (by decide) (off := 118) (by decide) rfl ?_
      refine g_aload_n dX11_count_119 rfl rfl ?_
      refine g_getO dX11_count_120 fl_X11_44 sh0 rfl ?_
      refine g_getI dX11_count_123 fl_X11_218 sh24 rfl ?_
      exact g_iret dX11_count_126 hw
    | 8, _, hc =>
      have hc : x1 = 8 := tsw_eq hc (by decide)
      have hw := hw.2.2.2.2.2.2.2.2.2.1 hc
      refine g_tswI 8 127 dX11_count_1 hc (by decide) (by decide) (off := 126) (by decide) rfl ?_
      refine g_aload_n dX11_count_127 rfl rfl ?_
      refine g_getI dX11_count_128 fl_X11_13 sh0 rfl ?_
      exact g_iret dX11_count_131 hw
    | 9, _, hc =>
      have hc : x1 = 9 := tsw_eq hc (by decide)
      have hw := hw.2.2.2.2.2.2.2.2.2.2 hc
      refine g_tswI 9 132 dX11_count_1 hc (by decide) (by decide) (off := 131) (by decide) rfl ?_
      refine g_aload_n dX11_count_132 rfl rfl ?_
      refine g_getO dX11_count_133 fl_X11_27 sh0 rfl ?_
      refine g_getI dX11_count_136 fl_X11_123 sh14 rfl ?_
      exact g_iret dX11_count_139 hw
    | k + 10, hj, _ => exact absurd hj (by omega)
theorem dX12_plain_0 : decode cX12_plain 0 = .ok (.iconst 0, 1) := by decide +kernel
theorem dX12_plain_1 : decode cX12_plain 1 = .ok (.istore_n 1, 1) := by decide +kernel
theorem dX12_plain_2 : decode cX12_plain 2 = .ok (.iload_n 1, 1) := by decide +kernel
theorem dX12_plain_3 : decode cX12_plain 3 = .ok (.sipush 1092, 3) := by decide +kernel
theorem dX12_plain_6 : decode cX12_plain 6 = .ok (.if_icmp .ge 13, 3) := by decide +kernel
theorem dX12_plain_9 : decode cX12_plain 9 = .ok (.aload_n 0, 1) := by decide +kernel
theorem dX12_plain_10 : decode cX12_plain 10 = .ok (.iload_n 1, 1) := by decide +kernel
theorem dX12_plain_11 : decode cX12_plain 11 = .ok (.iconst 0, 1) := by decide +kernel
theorem dX12_plain_12 : decode cX12_plain 12 = .ok (.iastore, 1) := by decide +kernel
theorem dX12_plain_13 : decode cX12_plain 13 = .ok (.iinc 1 1, 3) := by decide +kernel
theorem dX12_plain_16 : decode cX12_plain 16 = .ok (.goto (-14), 3) := by decide +kernel
theorem dX12_plain_19 : decode cX12_plain 19 = .ok (.iconst 0, 1) := by decide +kernel
theorem dX12_plain_20 : decode cX12_plain 20 = .ok (.istore_n 1, 1) := by decide +kernel
theorem dX12_plain_21 : decode cX12_plain 21 = .ok (.iload_n 1, 1) := by decide +kernel
theorem dX12_plain_22 : decode cX12_plain 22 = .ok (.bipush 8, 2) := by decide +kernel
theorem dX12_plain_24 : decode cX12_plain 24 = .ok (.if_icmp .ge 16, 3) := by decide +kernel
theorem dX12_plain_27 : decode cX12_plain 27 = .ok (.aload_n 0, 1) := by decide +kernel
theorem dX12_plain_28 : decode cX12_plain 28 = .ok (.bipush 62, 2) := by decide +kernel
theorem dX12_plain_30 : decode cX12_plain 30 = .ok (.iload_n 1, 1) := by decide +kernel
theorem dX12_plain_31 : decode cX12_plain 31 = .ok (.iadd, 1) := by decide +kernel
theorem dX12_plain_32 : decode cX12_plain 32 = .ok (.iconst (-1), 1) := by decide +kernel
theorem dX12_plain_33 : decode cX12_plain 33 = .ok (.iastore, 1) := by decide +kernel
theorem dX12_plain_34 : decode cX12_plain 34 = .ok (.iinc 1 1, 3) := by decide +kernel
theorem dX12_plain_37 : decode cX12_plain 37 = .ok (.goto (-16), 3) := by decide +kernel
theorem dX12_plain_40 : decode cX12_plain 40 = .ok (.return_, 1) := by decide +kernel
def M_plain_L2 (o0 : Nat) (K19 : Hp → Prop) : Nat → Int32 → Hp → Prop
  | 0, _, _ => False
  | n + 1, x1, h => (1092 ≤ x1 → K19 h) ∧ (¬ 1092 ≤ x1 → vp_in x1 (alen o0) ∧ ∀ h1 : Hp, h1 = sI h o0 (x1).toNatClampNeg 0 → ∀ v2 : Int32, v2 = (x1 + 1) → M_plain_L2 o0 K19 n v2 h1)
set_option maxHeartbeats 4000000 in
set_option maxRecDepth 20000 in
theorem gl_M_plain_L2 {G : Gx} {o0 : Nat} (ho0 : isA o0 0) {Q : Hp → Prop} {K19 : Hp → Prop} (hK19 : ∀  (h1 : Hp), K19  h1 → Go cX12_plain 2 RX12 none 1 G (QV G Q) 19 [(0, .ref (gAd G o0))] [] h1) : ∀ (n : Nat) (x1 : Int32) (h : Hp), M_plain_L2 o0 K19 n x1 h → Go cX12_plain 2 RX12 none 1 G (QV G Q) 2 [(0, .ref (gAd G o0)), (1, .int x1)] [] h := by
  intro n
  induction n with
  | zero => intro _ h hw; exact False.elim hw
  | succ n ih =>
    intro x1 h hw
    refine g_iload_n dX12_plain_2 rfl rfl ?_
    refine g_sipush (v := 1092) dX12_plain_3 (by decide) ?_
    refine g_icmp_ge 19 dX12_plain_6 rfl (fun hc => ?_) (fun hc => ?_)
    · have hw := hw.1 hc
      refine g_lv [0] rfl ?_
      exact hK19 _ hw
    · have hw := hw.2 hc
      refine g_aload_n dX12_plain_9 rfl rfl ?_
      refine g_iload_n dX12_plain_10 rfl rfl ?_
      refine g_iconst (v := 0) dX12_plain_11 (by decide) ?_
      refine g_iast dX12_plain_12 ho0 rfl hw.1 ?_
      have hw := hw.2
      refine g_heap (fun h1 eh1 => ?_)
      have hw := hw h1 eh1
      obtain ⟨v2, ev2⟩ : ∃ y : Int32, y = (x1 + 1) := ⟨_, rfl⟩
      have hw := hw v2 ev2
      refine g_iinc dX12_plain_13 rfl (by rw [ev2]; rfl) (by decide) (lv1 := [(0, .ref (gAd G o0)), (1, .int v2)]) rfl ?_
      refine g_goto 2 dX12_plain_16 rfl ?_
      exact ih _ _ hw
def M_plain_L21 (o0 : Nat) (Q : Hp → Prop) : Nat → Int32 → Hp → Prop
  | 0, _, _ => False
  | n + 1, x1, h => (8 ≤ x1 → Q h) ∧ (¬ 8 ≤ x1 → vp_in ((62 : Int32) + x1) (alen o0) ∧ ∀ h5 : Hp, h5 = sI h o0 (((62 : Int32) + x1)).toNatClampNeg (-1) → ∀ v6 : Int32, v6 = (x1 + 1) → M_plain_L21 o0 Q n v6 h5)
set_option maxHeartbeats 4000000 in
set_option maxRecDepth 20000 in
theorem gl_M_plain_L21 {G : Gx} {o0 : Nat} (ho0 : isA o0 0) {Q : Hp → Prop} : ∀ (n : Nat) (x1 : Int32) (h : Hp), M_plain_L21 o0 Q n x1 h → Go cX12_plain 2 RX12 none 1 G (QV G Q) 21 [(0, .ref (gAd G o0)), (1, .int x1)] [] h := by
  intro n
  induction n with
  | zero => intro _ h hw; exact False.elim hw
  | succ n ih =>
    intro x1 h hw
    refine g_iload_n dX12_plain_21 rfl rfl ?_
    refine g_bipush (v := 8) dX12_plain_22 (by decide) ?_
    refine g_icmp_ge 40 dX12_plain_24 rfl (fun hc => ?_) (fun hc => ?_)
    · have hw := hw.1 hc
      exact g_vret dX12_plain_40 hw
    · have hw := hw.2 hc
      refine g_aload_n dX12_plain_27 rfl rfl ?_
      refine g_bipush (v := 62) dX12_plain_28 (by decide) ?_
      refine g_iload_n dX12_plain_30 rfl rfl ?_
      refine g_iadd dX12_plain_31 ?_
      refine g_iconst (v := (-1)) dX12_plain_32 (by decide) ?_
      refine g_iast dX12_plain_33 ho0 rfl hw.1 ?_
      have hw := hw.2
      refine g_heap (fun h5 eh5 => ?_)
      have hw := hw h5 eh5
      obtain ⟨v6, ev6⟩ : ∃ y : Int32, y = (x1 + 1) := ⟨_, rfl⟩
      have hw := hw v6 ev6
      refine g_iinc dX12_plain_34 rfl (by rw [ev6]; rfl) (by decide) (lv1 := [(0, .ref (gAd G o0)), (1, .int v6)]) rfl ?_
      refine g_goto 21 dX12_plain_37 rfl ?_
      exact ih _ _ hw
def M_plain (o0 : Nat) (h : Hp) (Q : Hp → Prop) : Prop := ∃ n3, M_plain_L2 o0 (fun h4 => ∃ n7, M_plain_L21 o0 Q n7 0 h4) n3 0 h
set_option maxHeartbeats 4000000 in
set_option maxRecDepth 20000 in
theorem c_M_plain {G : Gx} {o0 : Nat} (ho0 : isA o0 0)  {h : Hp} {Q : Hp → Prop} (hw : M_plain o0 h Q) : Ct yX12_plain cX12_plain 2 none 1 G [.ref (gAd G o0)] h (QV G Q) := by
  refine ct_go [(0, .ref (gAd G o0))] (plainFor_of_name (by decide)) rfl (Nat.le_of_ble_eq_true rfl) rfl ?_
  refine g_iconst (v := 0) dX12_plain_0 (by decide) ?_
  refine g_istore_n dX12_plain_1 rfl (by decide) (lv1 := [(0, .ref (gAd G o0)), (1, .int 0)]) rfl ?_
  obtain ⟨n3, hw⟩ := hw
  refine gl_M_plain_L2 ho0 ?_ _ _ _ hw
  · intro h4 hw
    refine g_iconst (v := 0) dX12_plain_19 (by decide) ?_
    refine g_istore_n dX12_plain_20 rfl (by decide) (lv1 := [(0, .ref (gAd G o0)), (1, .int 0)]) rfl ?_
    obtain ⟨n7, hw⟩ := hw
    refine gl_M_plain_L21 ho0  _ _ _ hw
theorem dX12_feed_0 : decode cX12_feed 0 = .ok (.aload_n 0, 1) := by decide +kernel
theorem dX12_feed_1 : decode cX12_feed 1 = .ok (.iconst 0, 1) := by decide +kernel
theorem dX12_feed_2 : decode cX12_feed 2 = .ok (.putfield 1, 3) := by decide +kernel
theorem dX12_feed_5 : decode cX12_feed 5 = .ok (.aload_n 0, 1) := by decide +kernel
theorem dX12_feed_6 : decode cX12_feed 6 = .ok (.getfield 107, 3) := by decide +kernel
theorem dX12_feed_9 : decode cX12_feed 9 = .ok (.bipush 20, 2) := by decide +kernel
theorem dX12_feed_11 : decode cX12_feed 11 = .ok (.iadd, 1) := by decide +kernel
theorem dX12_feed_12 : decode cX12_feed 12 = .ok (.sipush 900, 3) := by decide +kernel
theorem dX12_feed_15 : decode cX12_feed 15 = .ok (.if_icmp .le 6, 3) := by decide +kernel
theorem dX12_feed_18 : decode cX12_feed 18 = .ok (.bipush (-5), 2) := by decide +kernel
theorem dX12_feed_20 : decode cX12_feed 20 = .ok (.ireturn, 1) := by decide +kernel
theorem dX12_feed_21 : decode cX12_feed 21 = .ok (.iconst 0, 1) := by decide +kernel
theorem dX12_feed_22 : decode cX12_feed 22 = .ok (.istore 6, 2) := by decide +kernel
theorem dX12_feed_24 : decode cX12_feed 24 = .ok (.iload 6, 2) := by decide +kernel
theorem dX12_feed_26 : decode cX12_feed 26 = .ok (.bipush 20, 2) := by decide +kernel
theorem dX12_feed_28 : decode cX12_feed 28 = .ok (.if_icmp .ge 93, 3) := by decide +kernel
theorem dX12_feed_31 : decode cX12_feed 31 = .ok (.iload 6, 2) := by decide +kernel
theorem dX12_feed_33 : decode cX12_feed 33 = .ok (.iconst 4, 1) := by decide +kernel
theorem dX12_feed_34 : decode cX12_feed 34 = .ok (.if_icmp .ge 7, 3) := by decide +kernel
theorem dX12_feed_37 : decode cX12_feed 37 = .ok (.iload_n 1, 1) := by decide +kernel
theorem dX12_feed_38 : decode cX12_feed 38 = .ok (.goto 39, 3) := by decide +kernel
theorem dX12_feed_41 : decode cX12_feed 41 = .ok (.iload 6, 2) := by decide +kernel
theorem dX12_feed_43 : decode cX12_feed 43 = .ok (.bipush 8, 2) := by decide +kernel
theorem dX12_feed_45 : decode cX12_feed 45 = .ok (.if_icmp .ge 7, 3) := by decide +kernel
theorem dX12_feed_48 : decode cX12_feed 48 = .ok (.iload_n 2, 1) := by decide +kernel
theorem dX12_feed_49 : decode cX12_feed 49 = .ok (.goto 28, 3) := by decide +kernel
theorem dX12_feed_52 : decode cX12_feed 52 = .ok (.iload 6, 2) := by decide +kernel
theorem dX12_feed_54 : decode cX12_feed 54 = .ok (.bipush 12, 2) := by decide +kernel
theorem dX12_feed_56 : decode cX12_feed 56 = .ok (.if_icmp .ge 7, 3) := by decide +kernel
theorem dX12_feed_59 : decode cX12_feed 59 = .ok (.iload_n 3, 1) := by decide +kernel
theorem dX12_feed_60 : decode cX12_feed 60 = .ok (.goto 17, 3) := by decide +kernel
theorem dX12_feed_63 : decode cX12_feed 63 = .ok (.iload 6, 2) := by decide +kernel
theorem dX12_feed_65 : decode cX12_feed 65 = .ok (.bipush 16, 2) := by decide +kernel
theorem dX12_feed_67 : decode cX12_feed 67 = .ok (.if_icmp .ge 8, 3) := by decide +kernel
theorem dX12_feed_70 : decode cX12_feed 70 = .ok (.iload 4, 2) := by decide +kernel
theorem dX12_feed_72 : decode cX12_feed 72 = .ok (.goto 5, 3) := by decide +kernel
theorem dX12_feed_75 : decode cX12_feed 75 = .ok (.iload 5, 2) := by decide +kernel
theorem dX12_feed_77 : decode cX12_feed 77 = .ok (.istore 7, 2) := by decide +kernel
theorem dX12_feed_79 : decode cX12_feed 79 = .ok (.aload_n 0, 1) := by decide +kernel
theorem dX12_feed_80 : decode cX12_feed 80 = .ok (.getfield 21, 3) := by decide +kernel
theorem dX12_feed_83 : decode cX12_feed 83 = .ok (.aload_n 0, 1) := by decide +kernel
theorem dX12_feed_84 : decode cX12_feed 84 = .ok (.getfield 107, 3) := by decide +kernel
theorem dX12_feed_87 : decode cX12_feed 87 = .ok (.iload 7, 2) := by decide +kernel
theorem dX12_feed_89 : decode cX12_feed 89 = .ok (.bipush 24, 2) := by decide +kernel
theorem dX12_feed_91 : decode cX12_feed 91 = .ok (.bipush 8, 2) := by decide +kernel
theorem dX12_feed_93 : decode cX12_feed 93 = .ok (.iload 6, 2) := by decide +kernel
theorem dX12_feed_95 : decode cX12_feed 95 = .ok (.iconst 4, 1) := by decide +kernel
theorem dX12_feed_96 : decode cX12_feed 96 = .ok (.irem, 1) := by decide +kernel
theorem dX12_feed_97 : decode cX12_feed 97 = .ok (.imul, 1) := by decide +kernel
theorem dX12_feed_98 : decode cX12_feed 98 = .ok (.isub, 1) := by decide +kernel
theorem dX12_feed_99 : decode cX12_feed 99 = .ok (.ishr, 1) := by decide +kernel
theorem dX12_feed_100 : decode cX12_feed 100 = .ok (.sipush 255, 3) := by decide +kernel
theorem dX12_feed_103 : decode cX12_feed 103 = .ok (.iand, 1) := by decide +kernel
theorem dX12_feed_104 : decode cX12_feed 104 = .ok (.iastore, 1) := by decide +kernel
theorem dX12_feed_105 : decode cX12_feed 105 = .ok (.aload_n 0, 1) := by decide +kernel
theorem dX12_feed_106 : decode cX12_feed 106 = .ok (.dup, 1) := by decide +kernel
theorem dX12_feed_107 : decode cX12_feed 107 = .ok (.getfield 107, 3) := by decide +kernel
theorem dX12_feed_110 : decode cX12_feed 110 = .ok (.iconst 1, 1) := by decide +kernel
theorem dX12_feed_111 : decode cX12_feed 111 = .ok (.iadd, 1) := by decide +kernel
theorem dX12_feed_112 : decode cX12_feed 112 = .ok (.putfield 107, 3) := by decide +kernel
theorem dX12_feed_115 : decode cX12_feed 115 = .ok (.iinc 6 1, 3) := by decide +kernel
theorem dX12_feed_118 : decode cX12_feed 118 = .ok (.goto (-94), 3) := by decide +kernel
theorem dX12_feed_121 : decode cX12_feed 121 = .ok (.aload_n 0, 1) := by decide +kernel
theorem dX12_feed_122 : decode cX12_feed 122 = .ok (.getfield 107, 3) := by decide +kernel
theorem dX12_feed_125 : decode cX12_feed 125 = .ok (.ireturn, 1) := by decide +kernel
theorem fl_X12_1 : FLk RX12 1 12 0 := ⟨_, rfl, by decide, mW 1382 (by decide +kernel) rfl⟩
theorem pf_12_0 : parseFieldDescriptor (uD 12 0) = some .int := by decide +kernel
theorem fl_X12_107 : FLk RX12 107 12 5 := ⟨_, rfl, by decide, mW 1387 (by decide +kernel) rfl⟩
theorem fl_X12_21 : FLk RX12 21 12 3 := ⟨_, rfl, by decide, mW 1385 (by decide +kernel) rfl⟩
theorem pf_12_5 : parseFieldDescriptor (uD 12 5) = some .int := by decide +kernel
def M_feed_L24 (x1 : Int32) (x2 : Int32) (x3 : Int32) (x4 : Int32) (x5 : Int32) (Q : Int32 → Hp → Prop) : Nat → Int32 → Hp → Prop
  | 0, _, _ => False
  | n + 1, x6, h => (20 ≤ x6 → Q (gI h 98 5) h) ∧ (¬ 20 ≤ x6 → ∀ J77 : Int32 → Hp → Prop, J77 = (fun s2 h3 => vp_in (gI h3 98 5) 900 ∧ ∀ h4 : Hp, h4 = sI h3 101 ((gI h3 98 5)).toNatClampNeg ((s2 >>> (((24 : Int32) - ((8 : Int32) * (x6 - x6 / 4 * 4))) &&& 31)) &&& 255) → ∀ h5 : Hp, h5 = sI h4 98 5 ((gI h4 98 5) + 1) → ∀ v6 : Int32, v6 = (x6 + 1) → M_feed_L24 x1 x2 x3 x4 x5 Q n v6 h5) → (4 ≤ x6 → (8 ≤ x6 → (12 ≤ x6 → (16 ≤ x6 → J77 x5 h) ∧ (¬ 16 ≤ x6 → J77 x4 h)) ∧ (¬ 12 ≤ x6 → J77 x3 h)) ∧ (¬ 8 ≤ x6 → J77 x2 h)) ∧ (¬ 4 ≤ x6 → J77 x1 h))
set_option maxHeartbeats 4000000 in
set_option maxRecDepth 20000 in
theorem gl_M_feed_L24 {G : Gx}  {x1 : Int32} {x2 : Int32} {x3 : Int32} {x4 : Int32} {x5 : Int32} {Q : Int32 → Hp → Prop} : ∀ (n : Nat) (x6 : Int32) (h : Hp), M_feed_L24 x1 x2 x3 x4 x5 Q n x6 h → Go cX12_feed 8 RX12 (some .int) 1 G (QI G Q) 24 [(0, .ref (gAd G 98)), (1, .int x1), (2, .int x2), (3, .int x3), (4, .int x4), (5, .int x5), (6, .int x6)] [] h := by
  intro n
  induction n with
  | zero => intro _ h hw; exact False.elim hw
  | succ n ih =>
    intro x6 h hw
    refine g_iload dX12_feed_24 rfl ?_
    refine g_bipush (v := 20) dX12_feed_26 (by decide) ?_
    refine g_icmp_ge 121 dX12_feed_28 rfl (fun hc => ?_) (fun hc => ?_)
    · have hw := hw.1 hc
      refine g_aload_n dX12_feed_121 rfl rfl ?_
      refine g_getI dX12_feed_122 fl_X12_107 sh98 rfl ?_
      exact g_iret dX12_feed_125 hw
    · have hw := hw.2 hc
      refine g_iload dX12_feed_31 rfl ?_
      refine g_iconst (v := 4) dX12_feed_33 (by decide) ?_
      refine jn_el hw (fun J77 eJ77 hw => ?_)
      have hJ77 : ∀ (s2 : Int32) (h3 : Hp), J77 s2 h3 → Go cX12_feed 8 RX12 (some .int) 1 G (QI G Q) 77 [(0, .ref (gAd G 98)), (1, .int x1), (2, .int x2), (3, .int x3), (4, .int x4), (5, .int x5), (6, .int x6)] [.int s2] h3 := by
        intro s2 h3 hw
        subst eJ77
        refine g_istore dX12_feed_77 (by decide) (lv1 := [(0, .ref (gAd G 98)), (1, .int x1), (2, .int x2), (3, .int x3), (4, .int x4), (5, .int x5), (6, .int x6), (7, .int s2)]) rfl ?_
        refine g_aload_n dX12_feed_79 rfl rfl ?_
        refine g_getA dX12_feed_80 fl_X12_21 sh98 rfl ?_
        refine g_aload_n dX12_feed_83 rfl rfl ?_
        refine g_getI dX12_feed_84 fl_X12_107 sh98 rfl ?_
        refine g_iload dX12_feed_87 rfl ?_
        refine g_bipush (v := 24) dX12_feed_89 (by decide) ?_
        refine g_bipush (v := 8) dX12_feed_91 (by decide) ?_
        refine g_iload dX12_feed_93 rfl ?_
        refine g_iconst (v := 4) dX12_feed_95 (by decide) ?_
        refine g_irem dX12_feed_96 (by decide) ?_
        refine g_imul dX12_feed_97 ?_
        refine g_isub dX12_feed_98 ?_
        refine g_ishr dX12_feed_99 ?_
        refine g_sipush (v := 255) dX12_feed_100 (by decide) ?_
        refine g_iand dX12_feed_103 ?_
        refine g_iast dX12_feed_104 ia101 al101 hw.1 ?_
        have hw := hw.2
        refine g_heap (fun h4 eh4 => ?_)
        have hw := hw h4 eh4
        refine g_aload_n dX12_feed_105 rfl rfl ?_
        refine g_dup dX12_feed_106 rfl ?_
        refine g_getI dX12_feed_107 fl_X12_107 sh98 rfl ?_
        refine g_iconst (v := 1) dX12_feed_110 (by decide) ?_
        refine g_iadd dX12_feed_111 ?_
        refine g_putI dX12_feed_112 fl_X12_107 sh98 rfl rfl pf_12_5 ?_
        refine g_heap (fun h5 eh5 => ?_)
        have hw := hw h5 eh5
        obtain ⟨v6, ev6⟩ : ∃ y : Int32, y = (x6 + 1) := ⟨_, rfl⟩
        have hw := hw v6 ev6
        refine g_iinc dX12_feed_115 rfl (by rw [ev6]; rfl) (by decide) (lv1 := [(0, .ref (gAd G 98)), (1, .int x1), (2, .int x2), (3, .int x3), (4, .int x4), (5, .int x5), (6, .int v6), (7, .int s2)]) rfl ?_
        refine g_goto 24 dX12_feed_118 rfl ?_
        refine g_lv [0, 1, 2, 3, 4, 5, 6] rfl ?_
        exact ih _ _ hw
      refine g_icmp_ge 41 dX12_feed_34 rfl (fun hc => ?_) (fun hc => ?_)
      · have hw := hw.1 hc
        refine g_iload dX12_feed_41 rfl ?_
        refine g_bipush (v := 8) dX12_feed_43 (by decide) ?_
        refine g_icmp_ge 52 dX12_feed_45 rfl (fun hc => ?_) (fun hc => ?_)
        · have hw := hw.1 hc
          refine g_iload dX12_feed_52 rfl ?_
          refine g_bipush (v := 12) dX12_feed_54 (by decide) ?_
          refine g_icmp_ge 63 dX12_feed_56 rfl (fun hc => ?_) (fun hc => ?_)
          · have hw := hw.1 hc
            refine g_iload dX12_feed_63 rfl ?_
            refine g_bipush (v := 16) dX12_feed_65 (by decide) ?_
            refine g_icmp_ge 75 dX12_feed_67 rfl (fun hc => ?_) (fun hc => ?_)
            · have hw := hw.1 hc
              refine g_iload dX12_feed_75 rfl ?_
              exact hJ77 _ _ hw
            · have hw := hw.2 hc
              refine g_iload dX12_feed_70 rfl ?_
              refine g_goto 77 dX12_feed_72 rfl ?_
              exact hJ77 _ _ hw
          · have hw := hw.2 hc
            refine g_iload_n dX12_feed_59 rfl rfl ?_
            refine g_goto 77 dX12_feed_60 rfl ?_
            exact hJ77 _ _ hw
        · have hw := hw.2 hc
          refine g_iload_n dX12_feed_48 rfl rfl ?_
          refine g_goto 77 dX12_feed_49 rfl ?_
          exact hJ77 _ _ hw
      · have hw := hw.2 hc
        refine g_iload_n dX12_feed_37 rfl rfl ?_
        refine g_goto 77 dX12_feed_38 rfl ?_
        exact hJ77 _ _ hw
def M_feed (x1 : Int32) (x2 : Int32) (x3 : Int32) (x4 : Int32) (x5 : Int32) (h : Hp) (Q : Int32 → Hp → Prop) : Prop := ∀ h1 : Hp, h1 = sI h 98 0 0 → (((gI h1 98 5) + 20) ≤ 900 → ∃ n7, M_feed_L24 x1 x2 x3 x4 x5 Q n7 0 h1) ∧ (¬ ((gI h1 98 5) + 20) ≤ 900 → Q (-5) h1)
set_option maxHeartbeats 4000000 in
set_option maxRecDepth 20000 in
theorem c_M_feed {G : Gx}  {x1 : Int32} {x2 : Int32} {x3 : Int32} {x4 : Int32} {x5 : Int32} {h : Hp} {Q : Int32 → Hp → Prop} (hw : M_feed x1 x2 x3 x4 x5 h Q) : Ct yX12_feed cX12_feed 8 (some .int) 1 G [.ref (gAd G 98), .int x1, .int x2, .int x3, .int x4, .int x5] h (QI G Q) := by
  refine ct_go [(0, .ref (gAd G 98)), (1, .int x1), (2, .int x2), (3, .int x3), (4, .int x4), (5, .int x5)] (plainFor_of_name (by decide)) rfl (Nat.le_of_ble_eq_true rfl) rfl ?_
  refine g_aload_n dX12_feed_0 rfl rfl ?_
  refine g_iconst (v := 0) dX12_feed_1 (by decide) ?_
  refine g_putI dX12_feed_2 fl_X12_1 sh98 rfl rfl pf_12_0 ?_
  refine g_heap (fun h1 eh1 => ?_)
  have hw := hw h1 eh1
  refine g_aload_n dX12_feed_5 rfl rfl ?_
  refine g_getI dX12_feed_6 fl_X12_107 sh98 rfl ?_
  refine g_bipush (v := 20) dX12_feed_9 (by decide) ?_
  refine g_iadd dX12_feed_11 ?_
  refine g_sipush (v := 900) dX12_feed_12 (by decide) ?_
  refine g_icmp_le 21 dX12_feed_15 rfl (fun hc => ?_) (fun hc => ?_)
  · have hw := hw.1 hc
    refine g_iconst (v := 0) dX12_feed_21 (by decide) ?_
    refine g_istore dX12_feed_22 (by decide) (lv1 := [(0, .ref (gAd G 98)), (1, .int x1), (2, .int x2), (3, .int x3), (4, .int x4), (5, .int x5), (6, .int 0)]) rfl ?_
    obtain ⟨n7, hw⟩ := hw
    refine gl_M_feed_L24   _ _ _ hw
  · have hw := hw.2 hc
    refine g_bipush (v := (-5)) dX12_feed_18 (by decide) ?_
    exact g_iret dX12_feed_20 hw
theorem dX12_within_0 : decode cX12_within 0 = .ok (.lload_n 0, 1) := by decide +kernel
theorem dX12_within_1 : decode cX12_within 1 = .ok (.lload_n 2, 1) := by decide +kernel
theorem dX12_within_2 : decode cX12_within 2 = .ok (.lcmp, 1) := by decide +kernel
theorem dX12_within_3 : decode cX12_within 3 = .ok (.ifCond .lt 14, 3) := by decide +kernel
theorem dX12_within_6 : decode cX12_within 6 = .ok (.lload_n 0, 1) := by decide +kernel
theorem dX12_within_7 : decode cX12_within 7 = .ok (.lload 4, 2) := by decide +kernel
theorem dX12_within_9 : decode cX12_within 9 = .ok (.lcmp, 1) := by decide +kernel
theorem dX12_within_10 : decode cX12_within 10 = .ok (.ifCond .gt 7, 3) := by decide +kernel
theorem dX12_within_13 : decode cX12_within 13 = .ok (.iconst 1, 1) := by decide +kernel
theorem dX12_within_14 : decode cX12_within 14 = .ok (.goto 4, 3) := by decide +kernel
theorem dX12_within_17 : decode cX12_within 17 = .ok (.iconst 0, 1) := by decide +kernel
theorem dX12_within_18 : decode cX12_within 18 = .ok (.ireturn, 1) := by decide +kernel
def M_within (x0 : Int64) (x2 : Int64) (x4 : Int64) (h : Hp) (Q : Int32 → Hp → Prop) : Prop := (x0 < x2 → Q 0 h) ∧ (¬ x0 < x2 → (x4 < x0 → Q 0 h) ∧ (¬ x4 < x0 → Q 1 h))
set_option maxHeartbeats 4000000 in
set_option maxRecDepth 20000 in
theorem c_M_within {G : Gx}  {x0 : Int64} {x2 : Int64} {x4 : Int64} {h : Hp} {Q : Int32 → Hp → Prop} (hw : M_within x0 x2 x4 h Q) : Ct yX12_within cX12_within 6 (some .boolean) 1 G [.long x0, .long x2, .long x4] h (QI G Q) := by
  refine ct_go [(0, .long x0), (2, .long x2), (4, .long x4)] (plainFor_of_name (by decide)) rfl (Nat.le_of_ble_eq_true rfl) rfl ?_
  refine g_lload_n dX12_within_0 rfl rfl ?_
  refine g_lload_n dX12_within_1 rfl rfl ?_
  refine g_lc_lt 17 dX12_within_2 dX12_within_3 rfl (fun hc => ?_) (fun hc => ?_)
  · have hw := hw.1 hc
    refine g_iconst (v := 0) dX12_within_17 (by decide) ?_
    exact g_zret dX12_within_18 rfl hw
  · have hw := hw.2 hc
    refine g_lload_n dX12_within_6 rfl rfl ?_
    refine g_lload dX12_within_7 rfl ?_
    refine g_lc_gt 17 dX12_within_9 dX12_within_10 rfl (fun hc => ?_) (fun hc => ?_)
    · have hw := hw.1 hc
      refine g_iconst (v := 0) dX12_within_17 (by decide) ?_
      exact g_zret dX12_within_18 rfl hw
    · have hw := hw.2 hc
      refine g_iconst (v := 1) dX12_within_13 (by decide) ?_
      refine g_goto 18 dX12_within_14 rfl ?_
      exact g_zret dX12_within_18 rfl hw
theorem dX12_see_0 : decode cX12_see 0 = .ok (.iload_n 1, 1) := by decide +kernel
theorem dX12_see_1 : decode cX12_see 1 = .ok (.aload_n 0, 1) := by decide +kernel
theorem dX12_see_2 : decode cX12_see 2 = .ok (.getfield 110, 3) := by decide +kernel
theorem dX12_see_5 : decode cX12_see 5 = .ok (.if_icmp .ge 12, 3) := by decide +kernel
theorem dX12_see_8 : decode cX12_see 8 = .ok (.aload_n 0, 1) := by decide +kernel
theorem dX12_see_9 : decode cX12_see 9 = .ok (.getfield 21, 3) := by decide +kernel
theorem dX12_see_12 : decode cX12_see 12 = .ok (.iload_n 1, 1) := by decide +kernel
theorem dX12_see_13 : decode cX12_see 13 = .ok (.iaload, 1) := by decide +kernel
theorem dX12_see_14 : decode cX12_see 14 = .ok (.goto 4, 3) := by decide +kernel
theorem dX12_see_17 : decode cX12_see 17 = .ok (.iconst (-1), 1) := by decide +kernel
theorem dX12_see_18 : decode cX12_see 18 = .ok (.ireturn, 1) := by decide +kernel
theorem fl_X12_110 : FLk RX12 110 12 8 := ⟨_, rfl, by decide, mW 1390 (by decide +kernel) rfl⟩
def M_see (x1 : Int32) (h : Hp) (Q : Int32 → Hp → Prop) : Prop := ((gI h 98 8) ≤ x1 → Q (-1) h) ∧ (¬ (gI h 98 8) ≤ x1 → vp_in x1 900 ∧ Q (gI h 101 (x1).toNatClampNeg) h)
set_option maxHeartbeats 4000000 in
set_option maxRecDepth 20000 in
theorem c_M_see {G : Gx}  {x1 : Int32} {h : Hp} {Q : Int32 → Hp → Prop} (hw : M_see x1 h Q) : Ct yX12_see cX12_see 2 (some .int) 1 G [.ref (gAd G 98), .int x1] h (QI G Q) := by
  refine ct_go [(0, .ref (gAd G 98)), (1, .int x1)] (plainFor_of_name (by decide)) rfl (Nat.le_of_ble_eq_true rfl) rfl ?_
  refine g_iload_n dX12_see_0 rfl rfl ?_
  refine g_aload_n dX12_see_1 rfl rfl ?_
  refine g_getI dX12_see_2 fl_X12_110 sh98 rfl ?_
  refine g_icmp_ge 17 dX12_see_5 rfl (fun hc => ?_) (fun hc => ?_)
  · have hw := hw.1 hc
    refine g_iconst (v := (-1)) dX12_see_17 (by decide) ?_
    exact g_iret dX12_see_18 hw
  · have hw := hw.2 hc
    refine g_aload_n dX12_see_8 rfl rfl ?_
    refine g_getA dX12_see_9 fl_X12_21 sh98 rfl ?_
    refine g_iload_n dX12_see_12 rfl rfl ?_
    refine g_iald dX12_see_13 ia101 al101 hw.1 ?_
    have hw := hw.2
    refine g_goto 18 dX12_see_14 rfl ?_
    exact g_iret dX12_see_18 hw
theorem dX12_isSmall_0 : decode cX12_isSmall 0 = .ok (.iload_n 0, 1) := by decide +kernel
theorem dX12_isSmall_1 : decode cX12_isSmall 1 = .ok (.bipush 97, 2) := by decide +kernel
theorem dX12_isSmall_3 : decode cX12_isSmall 3 = .ok (.if_icmp .lt 13, 3) := by decide +kernel
theorem dX12_isSmall_6 : decode cX12_isSmall 6 = .ok (.iload_n 0, 1) := by decide +kernel
theorem dX12_isSmall_7 : decode cX12_isSmall 7 = .ok (.bipush 122, 2) := by decide +kernel
theorem dX12_isSmall_9 : decode cX12_isSmall 9 = .ok (.if_icmp .gt 7, 3) := by decide +kernel
theorem dX12_isSmall_12 : decode cX12_isSmall 12 = .ok (.iconst 1, 1) := by decide +kernel
theorem dX12_isSmall_13 : decode cX12_isSmall 13 = .ok (.goto 4, 3) := by decide +kernel
theorem dX12_isSmall_16 : decode cX12_isSmall 16 = .ok (.iconst 0, 1) := by decide +kernel
theorem dX12_isSmall_17 : decode cX12_isSmall 17 = .ok (.ireturn, 1) := by decide +kernel
def M_isSmall (x0 : Int32) (h : Hp) (Q : Int32 → Hp → Prop) : Prop := (x0 < 97 → Q 0 h) ∧ (¬ x0 < 97 → (122 < x0 → Q 0 h) ∧ (¬ 122 < x0 → Q 1 h))
set_option maxHeartbeats 4000000 in
set_option maxRecDepth 20000 in
theorem c_M_isSmall {G : Gx}  {x0 : Int32} {h : Hp} {Q : Int32 → Hp → Prop} (hw : M_isSmall x0 h Q) : Ct yX12_isSmall cX12_isSmall 1 (some .boolean) 1 G [.int x0] h (QI G Q) := by
  refine ct_go [(0, .int x0)] (plainFor_of_name (by decide)) rfl (Nat.le_of_ble_eq_true rfl) rfl ?_
  refine g_iload_n dX12_isSmall_0 rfl rfl ?_
  refine g_bipush (v := 97) dX12_isSmall_1 (by decide) ?_
  refine g_icmp_lt 16 dX12_isSmall_3 rfl (fun hc => ?_) (fun hc => ?_)
  · have hw := hw.1 hc
    refine g_iconst (v := 0) dX12_isSmall_16 (by decide) ?_
    exact g_zret dX12_isSmall_17 rfl hw
  · have hw := hw.2 hc
    refine g_iload_n dX12_isSmall_6 rfl rfl ?_
    refine g_bipush (v := 122) dX12_isSmall_7 (by decide) ?_
    refine g_icmp_gt 16 dX12_isSmall_9 rfl (fun hc => ?_) (fun hc => ?_)
    · have hw := hw.1 hc
      refine g_iconst (v := 0) dX12_isSmall_16 (by decide) ?_
      exact g_zret dX12_isSmall_17 rfl hw
    · have hw := hw.2 hc
      refine g_iconst (v := 1) dX12_isSmall_12 (by decide) ?_
      refine g_goto 17 dX12_isSmall_13 rfl ?_
      exact g_zret dX12_isSmall_17 rfl hw
theorem dX12_keyAt_0 : decode cX12_keyAt 0 = .ok (.iconst 0, 1) := by decide +kernel
theorem dX12_keyAt_1 : decode cX12_keyAt 1 = .ok (.istore_n 1, 1) := by decide +kernel
theorem dX12_keyAt_2 : decode cX12_keyAt 2 = .ok (.iconst 1, 1) := by decide +kernel
theorem dX12_keyAt_3 : decode cX12_keyAt 3 = .ok (.istore_n 2, 1) := by decide +kernel
theorem dX12_keyAt_4 : decode cX12_keyAt 4 = .ok (.iload_n 2, 1) := by decide +kernel
theorem dX12_keyAt_5 : decode cX12_keyAt 5 = .ok (.ldc 113, 2) := by decide +kernel
theorem dX12_keyAt_7 : decode cX12_keyAt 7 = .ok (.invokevirtual 115, 3) := by decide +kernel
theorem dX12_keyAt_10 : decode cX12_keyAt 10 = .ok (.if_icmp .ge 113, 3) := by decide +kernel
theorem dX12_keyAt_13 : decode cX12_keyAt 13 = .ok (.iconst 0, 1) := by decide +kernel
theorem dX12_keyAt_14 : decode cX12_keyAt 14 = .ok (.istore_n 3, 1) := by decide +kernel
theorem dX12_keyAt_15 : decode cX12_keyAt 15 = .ok (.ldc 113, 2) := by decide +kernel
theorem dX12_keyAt_17 : decode cX12_keyAt 17 = .ok (.iload_n 2, 1) := by decide +kernel
theorem dX12_keyAt_18 : decode cX12_keyAt 18 = .ok (.iload_n 3, 1) := by decide +kernel
theorem dX12_keyAt_19 : decode cX12_keyAt 19 = .ok (.iadd, 1) := by decide +kernel
theorem dX12_keyAt_20 : decode cX12_keyAt 20 = .ok (.invokevirtual 121, 3) := by decide +kernel
theorem dX12_keyAt_23 : decode cX12_keyAt 23 = .ok (.bipush 32, 2) := by decide +kernel
theorem dX12_keyAt_25 : decode cX12_keyAt 25 = .ok (.if_icmp .eq 44, 3) := by decide +kernel
theorem dX12_keyAt_28 : decode cX12_keyAt 28 = .ok (.aload_n 0, 1) := by decide +kernel
theorem dX12_keyAt_29 : decode cX12_keyAt 29 = .ok (.getfield 125, 3) := by decide +kernel
theorem dX12_keyAt_32 : decode cX12_keyAt 32 = .ok (.iload_n 3, 1) := by decide +kernel
theorem dX12_keyAt_33 : decode cX12_keyAt 33 = .ok (.iadd, 1) := by decide +kernel
theorem dX12_keyAt_34 : decode cX12_keyAt 34 = .ok (.aload_n 0, 1) := by decide +kernel
theorem dX12_keyAt_35 : decode cX12_keyAt 35 = .ok (.getfield 128, 3) := by decide +kernel
theorem dX12_keyAt_38 : decode cX12_keyAt 38 = .ok (.if_icmp .ge 31, 3) := by decide +kernel
theorem dX12_keyAt_41 : decode cX12_keyAt 41 = .ok (.aload_n 0, 1) := by decide +kernel
theorem dX12_keyAt_42 : decode cX12_keyAt 42 = .ok (.getfield 21, 3) := by decide +kernel
theorem dX12_keyAt_45 : decode cX12_keyAt 45 = .ok (.aload_n 0, 1) := by decide +kernel
theorem dX12_keyAt_46 : decode cX12_keyAt 46 = .ok (.getfield 125, 3) := by decide +kernel
theorem dX12_keyAt_49 : decode cX12_keyAt 49 = .ok (.iload_n 3, 1) := by decide +kernel
theorem dX12_keyAt_50 : decode cX12_keyAt 50 = .ok (.iadd, 1) := by decide +kernel
theorem dX12_keyAt_51 : decode cX12_keyAt 51 = .ok (.iaload, 1) := by decide +kernel
theorem dX12_keyAt_52 : decode cX12_keyAt 52 = .ok (.ldc 113, 2) := by decide +kernel
theorem dX12_keyAt_54 : decode cX12_keyAt 54 = .ok (.iload_n 2, 1) := by decide +kernel
theorem dX12_keyAt_55 : decode cX12_keyAt 55 = .ok (.iload_n 3, 1) := by decide +kernel
theorem dX12_keyAt_56 : decode cX12_keyAt 56 = .ok (.iadd, 1) := by decide +kernel
theorem dX12_keyAt_57 : decode cX12_keyAt 57 = .ok (.invokevirtual 121, 3) := by decide +kernel
theorem dX12_keyAt_60 : decode cX12_keyAt 60 = .ok (.if_icmp .ne 9, 3) := by decide +kernel
theorem dX12_keyAt_63 : decode cX12_keyAt 63 = .ok (.iinc 3 1, 3) := by decide +kernel
theorem dX12_keyAt_66 : decode cX12_keyAt 66 = .ok (.goto (-51), 3) := by decide +kernel
theorem dX12_keyAt_69 : decode cX12_keyAt 69 = .ok (.ldc 113, 2) := by decide +kernel
theorem dX12_keyAt_71 : decode cX12_keyAt 71 = .ok (.iload_n 2, 1) := by decide +kernel
theorem dX12_keyAt_72 : decode cX12_keyAt 72 = .ok (.iload_n 3, 1) := by decide +kernel
theorem dX12_keyAt_73 : decode cX12_keyAt 73 = .ok (.iadd, 1) := by decide +kernel
theorem dX12_keyAt_74 : decode cX12_keyAt 74 = .ok (.invokevirtual 121, 3) := by decide +kernel
theorem dX12_keyAt_77 : decode cX12_keyAt 77 = .ok (.bipush 32, 2) := by decide +kernel
theorem dX12_keyAt_79 : decode cX12_keyAt 79 = .ok (.if_icmp .ne 18, 3) := by decide +kernel
theorem dX12_keyAt_82 : decode cX12_keyAt 82 = .ok (.aload_n 0, 1) := by decide +kernel
theorem dX12_keyAt_83 : decode cX12_keyAt 83 = .ok (.getfield 125, 3) := by decide +kernel
theorem dX12_keyAt_86 : decode cX12_keyAt 86 = .ok (.iload_n 3, 1) := by decide +kernel
theorem dX12_keyAt_87 : decode cX12_keyAt 87 = .ok (.iadd, 1) := by decide +kernel
theorem dX12_keyAt_88 : decode cX12_keyAt 88 = .ok (.aload_n 0, 1) := by decide +kernel
theorem dX12_keyAt_89 : decode cX12_keyAt 89 = .ok (.getfield 128, 3) := by decide +kernel
theorem dX12_keyAt_92 : decode cX12_keyAt 92 = .ok (.if_icmp .ne 5, 3) := by decide +kernel
theorem dX12_keyAt_95 : decode cX12_keyAt 95 = .ok (.iload_n 1, 1) := by decide +kernel
theorem dX12_keyAt_96 : decode cX12_keyAt 96 = .ok (.ireturn, 1) := by decide +kernel
theorem dX12_keyAt_97 : decode cX12_keyAt 97 = .ok (.ldc 113, 2) := by decide +kernel
theorem dX12_keyAt_99 : decode cX12_keyAt 99 = .ok (.iload_n 2, 1) := by decide +kernel
theorem dX12_keyAt_100 : decode cX12_keyAt 100 = .ok (.invokevirtual 121, 3) := by decide +kernel
theorem dX12_keyAt_103 : decode cX12_keyAt 103 = .ok (.bipush 32, 2) := by decide +kernel
theorem dX12_keyAt_105 : decode cX12_keyAt 105 = .ok (.if_icmp .eq 9, 3) := by decide +kernel
theorem dX12_keyAt_108 : decode cX12_keyAt 108 = .ok (.iinc 2 1, 3) := by decide +kernel
theorem dX12_keyAt_111 : decode cX12_keyAt 111 = .ok (.goto (-14), 3) := by decide +kernel
theorem dX12_keyAt_114 : decode cX12_keyAt 114 = .ok (.iinc 2 1, 3) := by decide +kernel
theorem dX12_keyAt_117 : decode cX12_keyAt 117 = .ok (.iinc 1 1, 3) := by decide +kernel
theorem dX12_keyAt_120 : decode cX12_keyAt 120 = .ok (.goto (-116), 3) := by decide +kernel
theorem dX12_keyAt_123 : decode cX12_keyAt 123 = .ok (.bipush 22, 2) := by decide +kernel
theorem dX12_keyAt_125 : decode cX12_keyAt 125 = .ok (.ireturn, 1) := by decide +kernel
theorem ml_X12_115 : Cond.methodLink RX12 115 yJ0_length_8abf5 ∈ Wd := mW 1549 (by decide +kernel) rfl
theorem ml_X12_121 : Cond.methodLink RX12 121 yJ0_charAt_5068e ∈ Wd := mW 1550 (by decide +kernel) rfl
theorem fl_X12_125 : FLk RX12 125 12 6 := ⟨_, rfl, by decide, mW 1388 (by decide +kernel) rfl⟩
theorem fl_X12_128 : FLk RX12 128 12 7 := ⟨_, rfl, by decide, mW 1389 (by decide +kernel) rfl⟩
def M_keyAt_L15 (x1 : Int32) (x2 : Int32) (K69 : Int32 → Hp → Prop) : Nat → Int32 → Hp → Prop
  | 0, _, _ => False
  | n + 1, x3, h => J0_charAt_5068e 33 (x2 + x3) h (fun r3 h4 => (r3 = 32 → K69 x3 h4) ∧ (¬ r3 = 32 → ((gI h4 98 7) ≤ ((gI h4 98 6) + x3) → K69 x3 h4) ∧ (¬ (gI h4 98 7) ≤ ((gI h4 98 6) + x3) → vp_in ((gI h4 98 6) + x3) 900 ∧ J0_charAt_5068e 33 (x2 + x3) h4 (fun r5 h6 => (¬ (gI h4 101 (((gI h4 98 6) + x3)).toNatClampNeg) = r5 → K69 x3 h6) ∧ ((gI h4 101 (((gI h4 98 6) + x3)).toNatClampNeg) = r5 → ∀ v7 : Int32, v7 = (x3 + 1) → M_keyAt_L15 x1 x2 K69 n v7 h6)))))
set_option maxHeartbeats 4000000 in
set_option maxRecDepth 20000 in
theorem gl_M_keyAt_L15 {G : Gx}  {x1 : Int32} {x2 : Int32} {Q : Int32 → Hp → Prop} {K69 : Int32 → Hp → Prop} (hK69 : ∀ (y3 : Int32) (h1 : Hp), K69 y3 h1 → Go cX12_keyAt 4 RX12 (some .int) 6 G (QI G Q) 69 [(0, .ref (gAd G 98)), (1, .int x1), (2, .int x2), (3, .int y3)] [] h1) : ∀ (n : Nat) (x3 : Int32) (h : Hp), M_keyAt_L15 x1 x2 K69 n x3 h → Go cX12_keyAt 4 RX12 (some .int) 6 G (QI G Q) 15 [(0, .ref (gAd G 98)), (1, .int x1), (2, .int x2), (3, .int x3)] [] h := by
  intro n
  induction n with
  | zero => intro _ h hw; exact False.elim hw
  | succ n ih =>
    intro x3 h hw
    refine g_ldcS (i := 33) dX12_keyAt_15 (by decide) rfl ?_
    refine g_iload_n dX12_keyAt_17 rfl rfl ?_
    refine g_iload_n dX12_keyAt_18 rfl rfl ?_
    refine g_iadd dX12_keyAt_19 ?_
    refine g_callTI [.int (x2 + x3)] dX12_keyAt_20 ml_X12_121 mk_J0_charAt_5068e rfl rfl (by decide) (Nat.le_of_ble_eq_true rfl) (Nat.le_of_ble_eq_true rfl) rfl (c_J0_charAt_5068e (by decide) hw) (fun r3 h4 hw => ?_)
    refine g_bipush (v := 32) dX12_keyAt_23 (by decide) ?_
    refine g_icmp_eq 69 dX12_keyAt_25 rfl (fun hc => ?_) (fun hc => ?_)
    · have hw := hw.1 hc
      exact hK69 _ _ hw
    · have hw := hw.2 hc
      refine g_aload_n dX12_keyAt_28 rfl rfl ?_
      refine g_getI dX12_keyAt_29 fl_X12_125 sh98 rfl ?_
      refine g_iload_n dX12_keyAt_32 rfl rfl ?_
      refine g_iadd dX12_keyAt_33 ?_
      refine g_aload_n dX12_keyAt_34 rfl rfl ?_
      refine g_getI dX12_keyAt_35 fl_X12_128 sh98 rfl ?_
      refine g_icmp_ge 69 dX12_keyAt_38 rfl (fun hc => ?_) (fun hc => ?_)
      · have hw := hw.1 hc
        exact hK69 _ _ hw
      · have hw := hw.2 hc
        refine g_aload_n dX12_keyAt_41 rfl rfl ?_
        refine g_getA dX12_keyAt_42 fl_X12_21 sh98 rfl ?_
        refine g_aload_n dX12_keyAt_45 rfl rfl ?_
        refine g_getI dX12_keyAt_46 fl_X12_125 sh98 rfl ?_
        refine g_iload_n dX12_keyAt_49 rfl rfl ?_
        refine g_iadd dX12_keyAt_50 ?_
        refine g_iald dX12_keyAt_51 ia101 al101 hw.1 ?_
        have hw := hw.2
        refine g_ldcS (i := 33) dX12_keyAt_52 (by decide) rfl ?_
        refine g_iload_n dX12_keyAt_54 rfl rfl ?_
        refine g_iload_n dX12_keyAt_55 rfl rfl ?_
        refine g_iadd dX12_keyAt_56 ?_
        refine g_callTI [.int (x2 + x3)] dX12_keyAt_57 ml_X12_121 mk_J0_charAt_5068e rfl rfl (by decide) (Nat.le_of_ble_eq_true rfl) (Nat.le_of_ble_eq_true rfl) rfl (c_J0_charAt_5068e (by decide) hw) (fun r5 h6 hw => ?_)
        refine g_icmp_ne 69 dX12_keyAt_60 rfl (fun hc => ?_) (fun hc => ?_)
        · have hw := hw.1 hc
          exact hK69 _ _ hw
        · have hw := hw.2 hc
          obtain ⟨v7, ev7⟩ : ∃ y : Int32, y = (x3 + 1) := ⟨_, rfl⟩
          have hw := hw v7 ev7
          refine g_iinc dX12_keyAt_63 rfl (by rw [ev7]; rfl) (by decide) (lv1 := [(0, .ref (gAd G 98)), (1, .int x1), (2, .int x2), (3, .int v7)]) rfl ?_
          refine g_goto 15 dX12_keyAt_66 rfl ?_
          exact ih _ _ hw
def M_keyAt_L97 (x1 : Int32) (K114 : Int32 → Hp → Prop) : Nat → Int32 → Hp → Prop
  | 0, _, _ => False
  | n + 1, x2, h => J0_charAt_5068e 33 x2 h (fun r14 h15 => (r14 = 32 → K114 x2 h15) ∧ (¬ r14 = 32 → ∀ v16 : Int32, v16 = (x2 + 1) → M_keyAt_L97 x1 K114 n v16 h15))
set_option maxHeartbeats 4000000 in
set_option maxRecDepth 20000 in
theorem gl_M_keyAt_L97 {G : Gx}  {x1 : Int32} {Q : Int32 → Hp → Prop} {K114 : Int32 → Hp → Prop} (hK114 : ∀ (y2 : Int32) (h1 : Hp), K114 y2 h1 → Go cX12_keyAt 4 RX12 (some .int) 6 G (QI G Q) 114 [(0, .ref (gAd G 98)), (1, .int x1), (2, .int y2)] [] h1) : ∀ (n : Nat) (x2 : Int32) (h : Hp), M_keyAt_L97 x1 K114 n x2 h → Go cX12_keyAt 4 RX12 (some .int) 6 G (QI G Q) 97 [(0, .ref (gAd G 98)), (1, .int x1), (2, .int x2)] [] h := by
  intro n
  induction n with
  | zero => intro _ h hw; exact False.elim hw
  | succ n ih =>
    intro x2 h hw
    refine g_ldcS (i := 33) dX12_keyAt_97 (by decide) rfl ?_
    refine g_iload_n dX12_keyAt_99 rfl rfl ?_
    refine g_callTI [.int x2] dX12_keyAt_100 ml_X12_121 mk_J0_charAt_5068e rfl rfl (by decide) (Nat.le_of_ble_eq_true rfl) (Nat.le_of_ble_eq_true rfl) rfl (c_J0_charAt_5068e (by decide) hw) (fun r14 h15 hw => ?_)
    refine g_bipush (v := 32) dX12_keyAt_103 (by decide) ?_
    refine g_icmp_eq 114 dX12_keyAt_105 rfl (fun hc => ?_) (fun hc => ?_)
    · have hw := hw.1 hc
      exact hK114 _ _ hw
    · have hw := hw.2 hc
      obtain ⟨v16, ev16⟩ : ∃ y : Int32, y = (x2 + 1) := ⟨_, rfl⟩
      have hw := hw v16 ev16
      refine g_iinc dX12_keyAt_108 rfl (by rw [ev16]; rfl) (by decide) (lv1 := [(0, .ref (gAd G 98)), (1, .int x1), (2, .int v16)]) rfl ?_
      refine g_goto 97 dX12_keyAt_111 rfl ?_
      exact ih _ _ hw
def M_keyAt_L4 (Q : Int32 → Hp → Prop) : Nat → Int32 → Int32 → Hp → Prop
  | 0, _, _, _ => False
  | n + 1, x1, x2, h => J0_length_8abf5 33 h (fun r1 h2 => (r1 ≤ x2 → Q 22 h2) ∧ (¬ r1 ≤ x2 → ∃ n8, M_keyAt_L15 x1 x2 (fun x3_9 h10 => J0_charAt_5068e 33 (x2 + x3_9) h10 (fun r11 h12 => ∀ J97 : Hp → Prop, J97 = (fun h13 => ∃ n17, M_keyAt_L97 x1 (fun x2_18 h19 => ∀ v20 : Int32, v20 = (x2_18 + 1) → ∀ v21 : Int32, v21 = (x1 + 1) → M_keyAt_L4 Q n v21 v20 h19) n17 x2 h13) → (¬ r11 = 32 → J97 h12) ∧ (r11 = 32 → (¬ ((gI h12 98 6) + x3_9) = (gI h12 98 7) → J97 h12) ∧ (((gI h12 98 6) + x3_9) = (gI h12 98 7) → Q x1 h12)))) n8 0 h2))
set_option maxHeartbeats 4000000 in
set_option maxRecDepth 20000 in
theorem gl_M_keyAt_L4 {G : Gx}  {Q : Int32 → Hp → Prop} : ∀ (n : Nat) (x1 : Int32) (x2 : Int32) (h : Hp), M_keyAt_L4 Q n x1 x2 h → Go cX12_keyAt 4 RX12 (some .int) 6 G (QI G Q) 4 [(0, .ref (gAd G 98)), (1, .int x1), (2, .int x2)] [] h := by
  intro n
  induction n with
  | zero => intro _ _ h hw; exact False.elim hw
  | succ n ih =>
    intro x1 x2 h hw
    refine g_iload_n dX12_keyAt_4 rfl rfl ?_
    refine g_ldcS (i := 33) dX12_keyAt_5 (by decide) rfl ?_
    refine g_callTI [] dX12_keyAt_7 ml_X12_115 mk_J0_length_8abf5 rfl rfl (by decide) (Nat.le_of_ble_eq_true rfl) (Nat.le_of_ble_eq_true rfl) rfl (c_J0_length_8abf5 (by decide) hw) (fun r1 h2 hw => ?_)
    refine g_icmp_ge 123 dX12_keyAt_10 rfl (fun hc => ?_) (fun hc => ?_)
    · have hw := hw.1 hc
      refine g_bipush (v := 22) dX12_keyAt_123 (by decide) ?_
      exact g_iret dX12_keyAt_125 hw
    · have hw := hw.2 hc
      refine g_iconst (v := 0) dX12_keyAt_13 (by decide) ?_
      refine g_istore_n dX12_keyAt_14 rfl (by decide) (lv1 := [(0, .ref (gAd G 98)), (1, .int x1), (2, .int x2), (3, .int 0)]) rfl ?_
      obtain ⟨n8, hw⟩ := hw
      refine gl_M_keyAt_L15  ?_ _ _ _ hw
      · intro x3_9 h10 hw
        refine g_ldcS (i := 33) dX12_keyAt_69 (by decide) rfl ?_
        refine g_iload_n dX12_keyAt_71 rfl rfl ?_
        refine g_iload_n dX12_keyAt_72 rfl rfl ?_
        refine g_iadd dX12_keyAt_73 ?_
        refine g_callTI [.int (x2 + x3_9)] dX12_keyAt_74 ml_X12_121 mk_J0_charAt_5068e rfl rfl (by decide) (Nat.le_of_ble_eq_true rfl) (Nat.le_of_ble_eq_true rfl) rfl (c_J0_charAt_5068e (by decide) hw) (fun r11 h12 hw => ?_)
        refine g_bipush (v := 32) dX12_keyAt_77 (by decide) ?_
        refine jn_el hw (fun J97 eJ97 hw => ?_)
        have hJ97 : ∀ (h13 : Hp), J97 h13 → Go cX12_keyAt 4 RX12 (some .int) 6 G (QI G Q) 97 [(0, .ref (gAd G 98)), (1, .int x1), (2, .int x2)] [] h13 := by
          intro h13 hw
          subst eJ97
          obtain ⟨n17, hw⟩ := hw
          refine gl_M_keyAt_L97  ?_ _ _ _ hw
          · intro x2_18 h19 hw
            obtain ⟨v20, ev20⟩ : ∃ y : Int32, y = (x2_18 + 1) := ⟨_, rfl⟩
            have hw := hw v20 ev20
            refine g_iinc dX12_keyAt_114 rfl (by rw [ev20]; rfl) (by decide) (lv1 := [(0, .ref (gAd G 98)), (1, .int x1), (2, .int v20)]) rfl ?_
            obtain ⟨v21, ev21⟩ : ∃ y : Int32, y = (x1 + 1) := ⟨_, rfl⟩
            have hw := hw v21 ev21
            refine g_iinc dX12_keyAt_117 rfl (by rw [ev21]; rfl) (by decide) (lv1 := [(0, .ref (gAd G 98)), (1, .int v21), (2, .int v20)]) rfl ?_
            refine g_goto 4 dX12_keyAt_120 rfl ?_
            exact ih _ _ _ hw
        refine g_icmp_ne 97 dX12_keyAt_79 rfl (fun hc => ?_) (fun hc => ?_)
        · have hw := hw.1 hc
          refine g_lv [0, 1, 2] rfl ?_
          exact hJ97 _ hw
        · have hw := hw.2 hc
          refine g_aload_n dX12_keyAt_82 rfl rfl ?_
          refine g_getI dX12_keyAt_83 fl_X12_125 sh98 rfl ?_
          refine g_iload_n dX12_keyAt_86 rfl rfl ?_
          refine g_iadd dX12_keyAt_87 ?_
          refine g_aload_n dX12_keyAt_88 rfl rfl ?_
          refine g_getI dX12_keyAt_89 fl_X12_128 sh98 rfl ?_
          refine g_icmp_ne 97 dX12_keyAt_92 rfl (fun hc => ?_) (fun hc => ?_)
          · have hw := hw.1 hc
            refine g_lv [0, 1, 2] rfl ?_
            exact hJ97 _ hw
          · have hw := hw.2 hc
            refine g_iload_n dX12_keyAt_95 rfl rfl ?_
            exact g_iret dX12_keyAt_96 hw
def M_keyAt  (h : Hp) (Q : Int32 → Hp → Prop) : Prop := ∃ n22, M_keyAt_L4 Q n22 0 1 h
set_option maxHeartbeats 4000000 in
set_option maxRecDepth 20000 in
theorem c_M_keyAt {G : Gx}   {h : Hp} {Q : Int32 → Hp → Prop} (hw : M_keyAt  h Q) : Ct yX12_keyAt cX12_keyAt 4 (some .int) 6 G [.ref (gAd G 98)] h (QI G Q) := by
  refine ct_go [(0, .ref (gAd G 98))] (plainFor_of_name (by decide)) rfl (Nat.le_of_ble_eq_true rfl) rfl ?_
  refine g_iconst (v := 0) dX12_keyAt_0 (by decide) ?_
  refine g_istore_n dX12_keyAt_1 rfl (by decide) (lv1 := [(0, .ref (gAd G 98)), (1, .int 0)]) rfl ?_
  refine g_iconst (v := 1) dX12_keyAt_2 (by decide) ?_
  refine g_istore_n dX12_keyAt_3 rfl (by decide) (lv1 := [(0, .ref (gAd G 98)), (1, .int 0), (2, .int 1)]) rfl ?_
  obtain ⟨n22, hw⟩ := hw
  refine gl_M_keyAt_L4   _ _ _ _ hw
theorem dX12_isDigit_0 : decode cX12_isDigit 0 = .ok (.iload_n 0, 1) := by decide +kernel
theorem dX12_isDigit_1 : decode cX12_isDigit 1 = .ok (.bipush 48, 2) := by decide +kernel
theorem dX12_isDigit_3 : decode cX12_isDigit 3 = .ok (.if_icmp .lt 13, 3) := by decide +kernel
theorem dX12_isDigit_6 : decode cX12_isDigit 6 = .ok (.iload_n 0, 1) := by decide +kernel
theorem dX12_isDigit_7 : decode cX12_isDigit 7 = .ok (.bipush 57, 2) := by decide +kernel
theorem dX12_isDigit_9 : decode cX12_isDigit 9 = .ok (.if_icmp .gt 7, 3) := by decide +kernel
theorem dX12_isDigit_12 : decode cX12_isDigit 12 = .ok (.iconst 1, 1) := by decide +kernel
theorem dX12_isDigit_13 : decode cX12_isDigit 13 = .ok (.goto 4, 3) := by decide +kernel
theorem dX12_isDigit_16 : decode cX12_isDigit 16 = .ok (.iconst 0, 1) := by decide +kernel
theorem dX12_isDigit_17 : decode cX12_isDigit 17 = .ok (.ireturn, 1) := by decide +kernel
def M_isDigit (x0 : Int32) (h : Hp) (Q : Int32 → Hp → Prop) : Prop := (x0 < 48 → Q 0 h) ∧ (¬ x0 < 48 → (57 < x0 → Q 0 h) ∧ (¬ 57 < x0 → Q 1 h))
set_option maxHeartbeats 4000000 in
set_option maxRecDepth 20000 in
theorem c_M_isDigit {G : Gx}  {x0 : Int32} {h : Hp} {Q : Int32 → Hp → Prop} (hw : M_isDigit x0 h Q) : Ct yX12_isDigit cX12_isDigit 1 (some .boolean) 1 G [.int x0] h (QI G Q) := by
  refine ct_go [(0, .int x0)] (plainFor_of_name (by decide)) rfl (Nat.le_of_ble_eq_true rfl) rfl ?_
  refine g_iload_n dX12_isDigit_0 rfl rfl ?_
  refine g_bipush (v := 48) dX12_isDigit_1 (by decide) ?_
  refine g_icmp_lt 16 dX12_isDigit_3 rfl (fun hc => ?_) (fun hc => ?_)
  · have hw := hw.1 hc
    refine g_iconst (v := 0) dX12_isDigit_16 (by decide) ?_
    exact g_zret dX12_isDigit_17 rfl hw
  · have hw := hw.2 hc
    refine g_iload_n dX12_isDigit_6 rfl rfl ?_
    refine g_bipush (v := 57) dX12_isDigit_7 (by decide) ?_
    refine g_icmp_gt 16 dX12_isDigit_9 rfl (fun hc => ?_) (fun hc => ?_)
    · have hw := hw.1 hc
      refine g_iconst (v := 0) dX12_isDigit_16 (by decide) ?_
      exact g_zret dX12_isDigit_17 rfl hw
    · have hw := hw.2 hc
      refine g_iconst (v := 1) dX12_isDigit_12 (by decide) ?_
      refine g_goto 17 dX12_isDigit_13 rfl ?_
      exact g_zret dX12_isDigit_17 rfl hw
theorem dX12_next_0 : decode cX12_next 0 = .ok (.aload_n 0, 1) := by decide +kernel
theorem dX12_next_1 : decode cX12_next 1 = .ok (.aload_n 0, 1) := by decide +kernel
theorem dX12_next_2 : decode cX12_next 2 = .ok (.getfield 128, 3) := by decide +kernel
theorem dX12_next_5 : decode cX12_next 5 = .ok (.putfield 125, 3) := by decide +kernel
theorem dX12_next_8 : decode cX12_next 8 = .ok (.aload_n 0, 1) := by decide +kernel
theorem dX12_next_9 : decode cX12_next 9 = .ok (.aload_n 0, 1) := by decide +kernel
theorem dX12_next_10 : decode cX12_next 10 = .ok (.getfield 125, 3) := by decide +kernel
theorem dX12_next_13 : decode cX12_next 13 = .ok (.invokevirtual 131, 3) := by decide +kernel
theorem dX12_next_16 : decode cX12_next 16 = .ok (.bipush 10, 2) := by decide +kernel
theorem dX12_next_18 : decode cX12_next 18 = .ok (.if_icmp .eq 16, 3) := by decide +kernel
theorem dX12_next_21 : decode cX12_next 21 = .ok (.aload_n 0, 1) := by decide +kernel
theorem dX12_next_22 : decode cX12_next 22 = .ok (.aload_n 0, 1) := by decide +kernel
theorem dX12_next_23 : decode cX12_next 23 = .ok (.getfield 125, 3) := by decide +kernel
theorem dX12_next_26 : decode cX12_next 26 = .ok (.invokevirtual 131, 3) := by decide +kernel
theorem dX12_next_29 : decode cX12_next 29 = .ok (.bipush 32, 2) := by decide +kernel
theorem dX12_next_31 : decode cX12_next 31 = .ok (.if_icmp .ne 16, 3) := by decide +kernel
theorem dX12_next_34 : decode cX12_next 34 = .ok (.aload_n 0, 1) := by decide +kernel
theorem dX12_next_35 : decode cX12_next 35 = .ok (.dup, 1) := by decide +kernel
theorem dX12_next_36 : decode cX12_next 36 = .ok (.getfield 125, 3) := by decide +kernel
theorem dX12_next_39 : decode cX12_next 39 = .ok (.iconst 1, 1) := by decide +kernel
theorem dX12_next_40 : decode cX12_next 40 = .ok (.iadd, 1) := by decide +kernel
theorem dX12_next_41 : decode cX12_next 41 = .ok (.putfield 125, 3) := by decide +kernel
theorem dX12_next_44 : decode cX12_next 44 = .ok (.goto (-36), 3) := by decide +kernel
theorem dX12_next_47 : decode cX12_next 47 = .ok (.aload_n 0, 1) := by decide +kernel
theorem dX12_next_48 : decode cX12_next 48 = .ok (.aload_n 0, 1) := by decide +kernel
theorem dX12_next_49 : decode cX12_next 49 = .ok (.getfield 125, 3) := by decide +kernel
theorem dX12_next_52 : decode cX12_next 52 = .ok (.putfield 128, 3) := by decide +kernel
theorem dX12_next_55 : decode cX12_next 55 = .ok (.aload_n 0, 1) := by decide +kernel
theorem dX12_next_56 : decode cX12_next 56 = .ok (.getfield 125, 3) := by decide +kernel
theorem dX12_next_59 : decode cX12_next 59 = .ok (.aload_n 0, 1) := by decide +kernel
theorem dX12_next_60 : decode cX12_next 60 = .ok (.getfield 110, 3) := by decide +kernel
theorem dX12_next_63 : decode cX12_next 63 = .ok (.if_icmp .lt 12, 3) := by decide +kernel
theorem dX12_next_66 : decode cX12_next 66 = .ok (.aload_n 0, 1) := by decide +kernel
theorem dX12_next_67 : decode cX12_next 67 = .ok (.bipush 24, 2) := by decide +kernel
theorem dX12_next_69 : decode cX12_next 69 = .ok (.putfield 135, 3) := by decide +kernel
theorem dX12_next_72 : decode cX12_next 72 = .ok (.goto 222, 3) := by decide +kernel
theorem dX12_next_75 : decode cX12_next 75 = .ok (.aload_n 0, 1) := by decide +kernel
theorem dX12_next_76 : decode cX12_next 76 = .ok (.aload_n 0, 1) := by decide +kernel
theorem dX12_next_77 : decode cX12_next 77 = .ok (.getfield 125, 3) := by decide +kernel
theorem dX12_next_80 : decode cX12_next 80 = .ok (.invokevirtual 131, 3) := by decide +kernel
theorem dX12_next_83 : decode cX12_next 83 = .ok (.invokestatic 138, 3) := by decide +kernel
theorem dX12_next_86 : decode cX12_next 86 = .ok (.ifCond .eq 41, 3) := by decide +kernel
theorem dX12_next_89 : decode cX12_next 89 = .ok (.aload_n 0, 1) := by decide +kernel
theorem dX12_next_90 : decode cX12_next 90 = .ok (.aload_n 0, 1) := by decide +kernel
theorem dX12_next_91 : decode cX12_next 91 = .ok (.getfield 128, 3) := by decide +kernel
theorem dX12_next_94 : decode cX12_next 94 = .ok (.invokevirtual 131, 3) := by decide +kernel
theorem dX12_next_97 : decode cX12_next 97 = .ok (.invokestatic 138, 3) := by decide +kernel
theorem dX12_next_100 : decode cX12_next 100 = .ok (.ifCond .eq 16, 3) := by decide +kernel
theorem dX12_next_103 : decode cX12_next 103 = .ok (.aload_n 0, 1) := by decide +kernel
theorem dX12_next_104 : decode cX12_next 104 = .ok (.dup, 1) := by decide +kernel
theorem dX12_next_105 : decode cX12_next 105 = .ok (.getfield 128, 3) := by decide +kernel
theorem dX12_next_108 : decode cX12_next 108 = .ok (.iconst 1, 1) := by decide +kernel
theorem dX12_next_109 : decode cX12_next 109 = .ok (.iadd, 1) := by decide +kernel
theorem dX12_next_110 : decode cX12_next 110 = .ok (.putfield 128, 3) := by decide +kernel
theorem dX12_next_113 : decode cX12_next 113 = .ok (.goto (-24), 3) := by decide +kernel
theorem dX12_next_116 : decode cX12_next 116 = .ok (.aload_n 0, 1) := by decide +kernel
theorem dX12_next_117 : decode cX12_next 117 = .ok (.aload_n 0, 1) := by decide +kernel
theorem dX12_next_118 : decode cX12_next 118 = .ok (.invokevirtual 142, 3) := by decide +kernel
theorem dX12_next_121 : decode cX12_next 121 = .ok (.putfield 135, 3) := by decide +kernel
theorem dX12_next_124 : decode cX12_next 124 = .ok (.goto 170, 3) := by decide +kernel
theorem dX12_next_127 : decode cX12_next 127 = .ok (.aload_n 0, 1) := by decide +kernel
theorem dX12_next_128 : decode cX12_next 128 = .ok (.aload_n 0, 1) := by decide +kernel
theorem dX12_next_129 : decode cX12_next 129 = .ok (.getfield 125, 3) := by decide +kernel
theorem dX12_next_132 : decode cX12_next 132 = .ok (.invokevirtual 131, 3) := by decide +kernel
theorem dX12_next_135 : decode cX12_next 135 = .ok (.invokestatic 145, 3) := by decide +kernel
theorem dX12_next_138 : decode cX12_next 138 = .ok (.ifCond .eq 98, 3) := by decide +kernel
theorem dX12_next_141 : decode cX12_next 141 = .ok (.aload_n 0, 1) := by decide +kernel
theorem dX12_next_142 : decode cX12_next 142 = .ok (.iconst 0, 1) := by decide +kernel
theorem dX12_next_143 : decode cX12_next 143 = .ok (.putfield 148, 3) := by decide +kernel
theorem dX12_next_146 : decode cX12_next 146 = .ok (.aload_n 0, 1) := by decide +kernel
theorem dX12_next_147 : decode cX12_next 147 = .ok (.aload_n 0, 1) := by decide +kernel
theorem dX12_next_148 : decode cX12_next 148 = .ok (.getfield 128, 3) := by decide +kernel
theorem dX12_next_151 : decode cX12_next 151 = .ok (.invokevirtual 131, 3) := by decide +kernel
theorem dX12_next_154 : decode cX12_next 154 = .ok (.invokestatic 145, 3) := by decide +kernel
theorem dX12_next_157 : decode cX12_next 157 = .ok (.ifCond .eq 52, 3) := by decide +kernel
theorem dX12_next_160 : decode cX12_next 160 = .ok (.aload_n 0, 1) := by decide +kernel
theorem dX12_next_161 : decode cX12_next 161 = .ok (.getfield 128, 3) := by decide +kernel
theorem dX12_next_164 : decode cX12_next 164 = .ok (.aload_n 0, 1) := by decide +kernel
theorem dX12_next_165 : decode cX12_next 165 = .ok (.getfield 125, 3) := by decide +kernel
theorem dX12_next_168 : decode cX12_next 168 = .ok (.isub, 1) := by decide +kernel
theorem dX12_next_169 : decode cX12_next 169 = .ok (.iconst 3, 1) := by decide +kernel
theorem dX12_next_170 : decode cX12_next 170 = .ok (.if_icmp .ge 26, 3) := by decide +kernel
theorem dX12_next_173 : decode cX12_next 173 = .ok (.aload_n 0, 1) := by decide +kernel
theorem dX12_next_174 : decode cX12_next 174 = .ok (.bipush 10, 2) := by decide +kernel
theorem dX12_next_176 : decode cX12_next 176 = .ok (.aload_n 0, 1) := by decide +kernel
theorem dX12_next_177 : decode cX12_next 177 = .ok (.getfield 148, 3) := by decide +kernel
theorem dX12_next_180 : decode cX12_next 180 = .ok (.imul, 1) := by decide +kernel
theorem dX12_next_181 : decode cX12_next 181 = .ok (.aload_n 0, 1) := by decide +kernel
theorem dX12_next_182 : decode cX12_next 182 = .ok (.aload_n 0, 1) := by decide +kernel
theorem dX12_next_183 : decode cX12_next 183 = .ok (.getfield 128, 3) := by decide +kernel
theorem dX12_next_186 : decode cX12_next 186 = .ok (.invokevirtual 131, 3) := by decide +kernel
theorem dX12_next_189 : decode cX12_next 189 = .ok (.iadd, 1) := by decide +kernel
theorem dX12_next_190 : decode cX12_next 190 = .ok (.bipush 48, 2) := by decide +kernel
theorem dX12_next_192 : decode cX12_next 192 = .ok (.isub, 1) := by decide +kernel
theorem dX12_next_193 : decode cX12_next 193 = .ok (.putfield 148, 3) := by decide +kernel
theorem dX12_next_196 : decode cX12_next 196 = .ok (.aload_n 0, 1) := by decide +kernel
theorem dX12_next_197 : decode cX12_next 197 = .ok (.dup, 1) := by decide +kernel
theorem dX12_next_198 : decode cX12_next 198 = .ok (.getfield 128, 3) := by decide +kernel
theorem dX12_next_201 : decode cX12_next 201 = .ok (.iconst 1, 1) := by decide +kernel
theorem dX12_next_202 : decode cX12_next 202 = .ok (.iadd, 1) := by decide +kernel
theorem dX12_next_203 : decode cX12_next 203 = .ok (.putfield 128, 3) := by decide +kernel
theorem dX12_next_206 : decode cX12_next 206 = .ok (.goto (-60), 3) := by decide +kernel
theorem dX12_next_209 : decode cX12_next 209 = .ok (.aload_n 0, 1) := by decide +kernel
theorem dX12_next_210 : decode cX12_next 210 = .ok (.aload_n 0, 1) := by decide +kernel
theorem dX12_next_211 : decode cX12_next 211 = .ok (.getfield 128, 3) := by decide +kernel
theorem dX12_next_214 : decode cX12_next 214 = .ok (.aload_n 0, 1) := by decide +kernel
theorem dX12_next_215 : decode cX12_next 215 = .ok (.getfield 125, 3) := by decide +kernel
theorem dX12_next_218 : decode cX12_next 218 = .ok (.isub, 1) := by decide +kernel
theorem dX12_next_219 : decode cX12_next 219 = .ok (.iconst 3, 1) := by decide +kernel
theorem dX12_next_220 : decode cX12_next 220 = .ok (.if_icmp .le 8, 3) := by decide +kernel
theorem dX12_next_223 : decode cX12_next 223 = .ok (.bipush 25, 2) := by decide +kernel
theorem dX12_next_225 : decode cX12_next 225 = .ok (.goto 5, 3) := by decide +kernel
theorem dX12_next_228 : decode cX12_next 228 = .ok (.bipush 23, 2) := by decide +kernel
theorem dX12_next_230 : decode cX12_next 230 = .ok (.putfield 135, 3) := by decide +kernel
theorem dX12_next_233 : decode cX12_next 233 = .ok (.goto 61, 3) := by decide +kernel
theorem dX12_next_236 : decode cX12_next 236 = .ok (.aload_n 0, 1) := by decide +kernel
theorem dX12_next_237 : decode cX12_next 237 = .ok (.dup, 1) := by decide +kernel
theorem dX12_next_238 : decode cX12_next 238 = .ok (.getfield 128, 3) := by decide +kernel
theorem dX12_next_241 : decode cX12_next 241 = .ok (.iconst 1, 1) := by decide +kernel
theorem dX12_next_242 : decode cX12_next 242 = .ok (.iadd, 1) := by decide +kernel
theorem dX12_next_243 : decode cX12_next 243 = .ok (.putfield 128, 3) := by decide +kernel
theorem dX12_next_246 : decode cX12_next 246 = .ok (.aload_n 0, 1) := by decide +kernel
theorem dX12_next_247 : decode cX12_next 247 = .ok (.bipush 25, 2) := by decide +kernel
theorem dX12_next_249 : decode cX12_next 249 = .ok (.putfield 135, 3) := by decide +kernel
theorem dX12_next_252 : decode cX12_next 252 = .ok (.iconst 0, 1) := by decide +kernel
theorem dX12_next_253 : decode cX12_next 253 = .ok (.istore_n 1, 1) := by decide +kernel
theorem dX12_next_254 : decode cX12_next 254 = .ok (.iload_n 1, 1) := by decide +kernel
theorem dX12_next_255 : decode cX12_next 255 = .ok (.ldc 151, 2) := by decide +kernel
theorem dX12_next_257 : decode cX12_next 257 = .ok (.invokevirtual 115, 3) := by decide +kernel
theorem dX12_next_260 : decode cX12_next 260 = .ok (.if_icmp .ge 34, 3) := by decide +kernel
theorem dX12_next_263 : decode cX12_next 263 = .ok (.aload_n 0, 1) := by decide +kernel
theorem dX12_next_264 : decode cX12_next 264 = .ok (.aload_n 0, 1) := by decide +kernel
theorem dX12_next_265 : decode cX12_next 265 = .ok (.getfield 125, 3) := by decide +kernel
theorem dX12_next_268 : decode cX12_next 268 = .ok (.invokevirtual 131, 3) := by decide +kernel
theorem dX12_next_271 : decode cX12_next 271 = .ok (.ldc 151, 2) := by decide +kernel
theorem dX12_next_273 : decode cX12_next 273 = .ok (.iload_n 1, 1) := by decide +kernel
theorem dX12_next_274 : decode cX12_next 274 = .ok (.invokevirtual 121, 3) := by decide +kernel
theorem dX12_next_277 : decode cX12_next 277 = .ok (.if_icmp .ne 11, 3) := by decide +kernel
theorem dX12_next_280 : decode cX12_next 280 = .ok (.aload_n 0, 1) := by decide +kernel
theorem dX12_next_281 : decode cX12_next 281 = .ok (.bipush 30, 2) := by decide +kernel
theorem dX12_next_283 : decode cX12_next 283 = .ok (.iload_n 1, 1) := by decide +kernel
theorem dX12_next_284 : decode cX12_next 284 = .ok (.iadd, 1) := by decide +kernel
theorem dX12_next_285 : decode cX12_next 285 = .ok (.putfield 135, 3) := by decide +kernel
theorem dX12_next_288 : decode cX12_next 288 = .ok (.iinc 1 1, 3) := by decide +kernel
theorem dX12_next_291 : decode cX12_next 291 = .ok (.goto (-37), 3) := by decide +kernel
theorem dX12_next_294 : decode cX12_next 294 = .ok (.return_, 1) := by decide +kernel
theorem pf_12_6 : parseFieldDescriptor (uD 12 6) = some .int := by decide +kernel
theorem ml_X12_131 : Cond.methodLink RX12 131 yX12_see ∈ Wd := mW 1537 (by decide +kernel) rfl
theorem mk_X12_see : MokV yX12_see cX12_see 2 (some .int) 1 := ⟨⟨mW 14 (by decide +kernel) rfl, mW 1540 (by decide +kernel) rfl, ⟨by decide, by decide, by decide +kernel⟩, by decide⟩, mW 1539 (by decide +kernel) rfl, mS (q := (yX12_see, 46)) 50 (by decide +kernel)⟩
theorem pf_12_7 : parseFieldDescriptor (uD 12 7) = some .int := by decide +kernel
theorem ml_X12_138 : Cond.methodLink RX12 138 yX12_isSmall ∈ Wd := mW 1541 (by decide +kernel) rfl
theorem mk_X12_isSmall : MokS yX12_isSmall cX12_isSmall 1 (some .boolean) 1 := ⟨⟨mW 14 (by decide +kernel) rfl, mW 1543 (by decide +kernel) rfl, ⟨by decide, by decide, by decide +kernel⟩, by decide⟩, mW 1542 (by decide +kernel) rfl⟩
theorem ml_X12_145 : Cond.methodLink RX12 145 yX12_isDigit ∈ Wd := mW 1551 (by decide +kernel) rfl
theorem mk_X12_isDigit : MokS yX12_isDigit cX12_isDigit 1 (some .boolean) 1 := ⟨⟨mW 14 (by decide +kernel) rfl, mW 1553 (by decide +kernel) rfl, ⟨by decide, by decide, by decide +kernel⟩, by decide⟩, mW 1552 (by decide +kernel) rfl⟩
theorem fl_X12_135 : FLk RX12 135 12 9 := ⟨_, rfl, by decide, mW 1391 (by decide +kernel) rfl⟩
theorem pf_12_9 : parseFieldDescriptor (uD 12 9) = some .int := by decide +kernel
theorem fl_X12_148 : FLk RX12 148 12 10 := ⟨_, rfl, by decide, mW 1392 (by decide +kernel) rfl⟩
theorem pf_12_10 : parseFieldDescriptor (uD 12 10) = some .int := by decide +kernel
theorem ml_X12_142 : Cond.methodLink RX12 142 yX12_keyAt ∈ Wd := mW 1544 (by decide +kernel) rfl
theorem mk_X12_keyAt : MokV yX12_keyAt cX12_keyAt 4 (some .int) 0 := ⟨⟨mW 14 (by decide +kernel) rfl, mW 1547 (by decide +kernel) rfl, ⟨by decide, by decide, by decide +kernel⟩, by decide⟩, mW 1546 (by decide +kernel) rfl, mS (q := (yX12_keyAt, 46)) 51 (by decide +kernel)⟩
def M_next_L8 (K47 : Hp → Prop) : Nat → Hp → Prop
  | 0, _ => False
  | n + 1, h => M_see (gI h 98 6) h (fun r2 h3 => ∀ J34 : Hp → Prop, J34 = (fun h4 => ∀ h5 : Hp, h5 = sI h4 98 6 ((gI h4 98 6) + 1) → M_next_L8 K47 n  h5) → (r2 = 10 → J34 h3) ∧ (¬ r2 = 10 → M_see (gI h3 98 6) h3 (fun r6 h7 => (¬ r6 = 32 → K47 h7) ∧ (r6 = 32 → J34 h7))))
set_option maxHeartbeats 4000000 in
set_option maxRecDepth 20000 in
theorem gl_M_next_L8 {G : Gx}  {Q : Hp → Prop} {K47 : Hp → Prop} (hK47 : ∀  (h1 : Hp), K47  h1 → Go cX12_next 2 RX12 none 7 G (QV G Q) 47 [(0, .ref (gAd G 98))] [] h1) : ∀ (n : Nat)  (h : Hp), M_next_L8 K47 n  h → Go cX12_next 2 RX12 none 7 G (QV G Q) 8 [(0, .ref (gAd G 98))] [] h := by
  intro n
  induction n with
  | zero => intro  h hw; exact False.elim hw
  | succ n ih =>
    intro  h hw
    refine g_aload_n dX12_next_8 rfl rfl ?_
    refine g_aload_n dX12_next_9 rfl rfl ?_
    refine g_getI dX12_next_10 fl_X12_125 sh98 rfl ?_
    refine g_callVI [.int (gI h 98 6)] (ci := 12) dX12_next_13 ml_X12_131 mk_X12_see rfl rfl sh98 (Nat.le_of_ble_eq_true rfl) (Nat.le_of_ble_eq_true rfl) rfl (c_M_see hw) (fun r2 h3 hw => ?_)
    refine g_bipush (v := 10) dX12_next_16 (by decide) ?_
    refine jn_el hw (fun J34 eJ34 hw => ?_)
    have hJ34 : ∀ (h4 : Hp), J34 h4 → Go cX12_next 2 RX12 none 7 G (QV G Q) 34 [(0, .ref (gAd G 98))] [] h4 := by
      intro h4 hw
      subst eJ34
      refine g_aload_n dX12_next_34 rfl rfl ?_
      refine g_dup dX12_next_35 rfl ?_
      refine g_getI dX12_next_36 fl_X12_125 sh98 rfl ?_
      refine g_iconst (v := 1) dX12_next_39 (by decide) ?_
      refine g_iadd dX12_next_40 ?_
      refine g_putI dX12_next_41 fl_X12_125 sh98 rfl rfl pf_12_6 ?_
      refine g_heap (fun h5 eh5 => ?_)
      have hw := hw h5 eh5
      refine g_goto 8 dX12_next_44 rfl ?_
      exact ih _ hw
    refine g_icmp_eq 34 dX12_next_18 rfl (fun hc => ?_) (fun hc => ?_)
    · have hw := hw.1 hc
      exact hJ34 _ hw
    · have hw := hw.2 hc
      refine g_aload_n dX12_next_21 rfl rfl ?_
      refine g_aload_n dX12_next_22 rfl rfl ?_
      refine g_getI dX12_next_23 fl_X12_125 sh98 rfl ?_
      refine g_callVI [.int (gI h3 98 6)] (ci := 12) dX12_next_26 ml_X12_131 mk_X12_see rfl rfl sh98 (Nat.le_of_ble_eq_true rfl) (Nat.le_of_ble_eq_true rfl) rfl (c_M_see hw) (fun r6 h7 hw => ?_)
      refine g_bipush (v := 32) dX12_next_29 (by decide) ?_
      refine g_icmp_ne 47 dX12_next_31 rfl (fun hc => ?_) (fun hc => ?_)
      · have hw := hw.1 hc
        exact hK47 _ hw
      · have hw := hw.2 hc
        exact hJ34 _ hw
def M_next_L254 (Q : Hp → Prop) : Nat → Int32 → Hp → Prop
  | 0, _, _ => False
  | n + 1, x1, h => J0_length_8abf5 34 h (fun r21 h22 => (r21 ≤ x1 → Q h22) ∧ (¬ r21 ≤ x1 → M_see (gI h22 98 6) h22 (fun r23 h24 => J0_charAt_5068e 34 x1 h24 (fun r25 h26 => ∀ J288 : Hp → Prop, J288 = (fun h27 => ∀ v28 : Int32, v28 = (x1 + 1) → M_next_L254 Q n v28 h27) → (¬ r23 = r25 → J288 h26) ∧ (r23 = r25 → ∀ h29 : Hp, h29 = sI h26 98 9 ((30 : Int32) + x1) → J288 h29)))))
set_option maxHeartbeats 4000000 in
set_option maxRecDepth 20000 in
theorem gl_M_next_L254 {G : Gx}  {Q : Hp → Prop} : ∀ (n : Nat) (x1 : Int32) (h : Hp), M_next_L254 Q n x1 h → Go cX12_next 2 RX12 none 7 G (QV G Q) 254 [(0, .ref (gAd G 98)), (1, .int x1)] [] h := by
  intro n
  induction n with
  | zero => intro _ h hw; exact False.elim hw
  | succ n ih =>
    intro x1 h hw
    refine g_iload_n dX12_next_254 rfl rfl ?_
    refine g_ldcS (i := 34) dX12_next_255 (by decide) rfl ?_
    refine g_callTI [] dX12_next_257 ml_X12_115 mk_J0_length_8abf5 rfl rfl (by decide) (Nat.le_of_ble_eq_true rfl) (Nat.le_of_ble_eq_true rfl) rfl (c_J0_length_8abf5 (by decide) hw) (fun r21 h22 hw => ?_)
    refine g_icmp_ge 294 dX12_next_260 rfl (fun hc => ?_) (fun hc => ?_)
    · have hw := hw.1 hc
      exact g_vret dX12_next_294 hw
    · have hw := hw.2 hc
      refine g_aload_n dX12_next_263 rfl rfl ?_
      refine g_aload_n dX12_next_264 rfl rfl ?_
      refine g_getI dX12_next_265 fl_X12_125 sh98 rfl ?_
      refine g_callVI [.int (gI h22 98 6)] (ci := 12) dX12_next_268 ml_X12_131 mk_X12_see rfl rfl sh98 (Nat.le_of_ble_eq_true rfl) (Nat.le_of_ble_eq_true rfl) rfl (c_M_see hw) (fun r23 h24 hw => ?_)
      refine g_ldcS (i := 34) dX12_next_271 (by decide) rfl ?_
      refine g_iload_n dX12_next_273 rfl rfl ?_
      refine g_callTI [.int x1] dX12_next_274 ml_X12_121 mk_J0_charAt_5068e rfl rfl (by decide) (Nat.le_of_ble_eq_true rfl) (Nat.le_of_ble_eq_true rfl) rfl (c_J0_charAt_5068e (by decide) hw) (fun r25 h26 hw => ?_)
      refine jn_el hw (fun J288 eJ288 hw => ?_)
      have hJ288 : ∀ (h27 : Hp), J288 h27 → Go cX12_next 2 RX12 none 7 G (QV G Q) 288 [(0, .ref (gAd G 98)), (1, .int x1)] [] h27 := by
        intro h27 hw
        subst eJ288
        obtain ⟨v28, ev28⟩ : ∃ y : Int32, y = (x1 + 1) := ⟨_, rfl⟩
        have hw := hw v28 ev28
        refine g_iinc dX12_next_288 rfl (by rw [ev28]; rfl) (by decide) (lv1 := [(0, .ref (gAd G 98)), (1, .int v28)]) rfl ?_
        refine g_goto 254 dX12_next_291 rfl ?_
        exact ih _ _ hw
      refine g_icmp_ne 288 dX12_next_277 rfl (fun hc => ?_) (fun hc => ?_)
      · have hw := hw.1 hc
        exact hJ288 _ hw
      · have hw := hw.2 hc
        refine g_aload_n dX12_next_280 rfl rfl ?_
        refine g_bipush (v := 30) dX12_next_281 (by decide) ?_
        refine g_iload_n dX12_next_283 rfl rfl ?_
        refine g_iadd dX12_next_284 ?_
        refine g_putI dX12_next_285 fl_X12_135 sh98 rfl rfl pf_12_9 ?_
        refine g_heap (fun h29 eh29 => ?_)
        have hw := hw h29 eh29
        exact hJ288 _ hw
def M_next_L146 (K209 : Hp → Prop) : Nat → Hp → Prop
  | 0, _ => False
  | n + 1, h => M_see (gI h 98 7) h (fun r32 h33 => M_isDigit r32 h33 (fun r34 h35 => (r34 = 0 → K209 h35) ∧ (¬ r34 = 0 → ∀ J196 : Hp → Prop, J196 = (fun h36 => ∀ h37 : Hp, h37 = sI h36 98 7 ((gI h36 98 7) + 1) → M_next_L146 K209 n  h37) → (3 ≤ ((gI h35 98 7) - (gI h35 98 6)) → J196 h35) ∧ (¬ 3 ≤ ((gI h35 98 7) - (gI h35 98 6)) → M_see (gI h35 98 7) h35 (fun r38 h39 => ∀ h40 : Hp, h40 = sI h39 98 10 ((((10 : Int32) * (gI h35 98 10)) + r38) - 48) → J196 h40)))))
set_option maxHeartbeats 4000000 in
set_option maxRecDepth 20000 in
theorem gl_M_next_L146 {G : Gx}  {Q : Hp → Prop} {K209 : Hp → Prop} (hK209 : ∀  (h1 : Hp), K209  h1 → Go cX12_next 2 RX12 none 7 G (QV G Q) 209 [(0, .ref (gAd G 98))] [] h1) : ∀ (n : Nat)  (h : Hp), M_next_L146 K209 n  h → Go cX12_next 2 RX12 none 7 G (QV G Q) 146 [(0, .ref (gAd G 98))] [] h := by
  intro n
  induction n with
  | zero => intro  h hw; exact False.elim hw
  | succ n ih =>
    intro  h hw
    refine g_aload_n dX12_next_146 rfl rfl ?_
    refine g_aload_n dX12_next_147 rfl rfl ?_
    refine g_getI dX12_next_148 fl_X12_128 sh98 rfl ?_
    refine g_callVI [.int (gI h 98 7)] (ci := 12) dX12_next_151 ml_X12_131 mk_X12_see rfl rfl sh98 (Nat.le_of_ble_eq_true rfl) (Nat.le_of_ble_eq_true rfl) rfl (c_M_see hw) (fun r32 h33 hw => ?_)
    refine g_callSI [.int r32] dX12_next_154 ml_X12_145 mk_X12_isDigit rfl (Nat.le_of_ble_eq_true rfl) (Nat.le_of_ble_eq_true rfl) rfl (c_M_isDigit hw) (fun r34 h35 hw => ?_)
    refine g_if_eq 209 dX12_next_157 rfl (fun hc => ?_) (fun hc => ?_)
    · have hw := hw.1 hc
      exact hK209 _ hw
    · have hw := hw.2 hc
      refine g_aload_n dX12_next_160 rfl rfl ?_
      refine g_getI dX12_next_161 fl_X12_128 sh98 rfl ?_
      refine g_aload_n dX12_next_164 rfl rfl ?_
      refine g_getI dX12_next_165 fl_X12_125 sh98 rfl ?_
      refine g_isub dX12_next_168 ?_
      refine g_iconst (v := 3) dX12_next_169 (by decide) ?_
      refine jn_el hw (fun J196 eJ196 hw => ?_)
      have hJ196 : ∀ (h36 : Hp), J196 h36 → Go cX12_next 2 RX12 none 7 G (QV G Q) 196 [(0, .ref (gAd G 98))] [] h36 := by
        intro h36 hw
        subst eJ196
        refine g_aload_n dX12_next_196 rfl rfl ?_
        refine g_dup dX12_next_197 rfl ?_
        refine g_getI dX12_next_198 fl_X12_128 sh98 rfl ?_
        refine g_iconst (v := 1) dX12_next_201 (by decide) ?_
        refine g_iadd dX12_next_202 ?_
        refine g_putI dX12_next_203 fl_X12_128 sh98 rfl rfl pf_12_7 ?_
        refine g_heap (fun h37 eh37 => ?_)
        have hw := hw h37 eh37
        refine g_goto 146 dX12_next_206 rfl ?_
        exact ih _ hw
      refine g_icmp_ge 196 dX12_next_170 rfl (fun hc => ?_) (fun hc => ?_)
      · have hw := hw.1 hc
        exact hJ196 _ hw
      · have hw := hw.2 hc
        refine g_aload_n dX12_next_173 rfl rfl ?_
        refine g_bipush (v := 10) dX12_next_174 (by decide) ?_
        refine g_aload_n dX12_next_176 rfl rfl ?_
        refine g_getI dX12_next_177 fl_X12_148 sh98 rfl ?_
        refine g_imul dX12_next_180 ?_
        refine g_aload_n dX12_next_181 rfl rfl ?_
        refine g_aload_n dX12_next_182 rfl rfl ?_
        refine g_getI dX12_next_183 fl_X12_128 sh98 rfl ?_
        refine g_callVI [.int (gI h35 98 7)] (ci := 12) dX12_next_186 ml_X12_131 mk_X12_see rfl rfl sh98 (Nat.le_of_ble_eq_true rfl) (Nat.le_of_ble_eq_true rfl) rfl (c_M_see hw) (fun r38 h39 hw => ?_)
        refine g_iadd dX12_next_189 ?_
        refine g_bipush (v := 48) dX12_next_190 (by decide) ?_
        refine g_isub dX12_next_192 ?_
        refine g_putI dX12_next_193 fl_X12_148 sh98 rfl rfl pf_12_10 ?_
        refine g_heap (fun h40 eh40 => ?_)
        have hw := hw h40 eh40
        exact hJ196 _ hw
def M_next_L89 (Q : Hp → Prop) : Nat → Hp → Prop
  | 0, _ => False
  | n + 1, h => M_see (gI h 98 7) h (fun r46 h47 => M_isSmall r46 h47 (fun r48 h49 => (r48 = 0 → M_keyAt  h49 (fun r50 h51 => ∀ h52 : Hp, h52 = sI h51 98 9 r50 → Q h52)) ∧ (¬ r48 = 0 → ∀ h53 : Hp, h53 = sI h49 98 7 ((gI h49 98 7) + 1) → M_next_L89 Q n  h53)))
set_option maxHeartbeats 4000000 in
set_option maxRecDepth 20000 in
theorem gl_M_next_L89 {G : Gx}  {Q : Hp → Prop} : ∀ (n : Nat)  (h : Hp), M_next_L89 Q n  h → Go cX12_next 2 RX12 none 7 G (QV G Q) 89 [(0, .ref (gAd G 98))] [] h := by
  intro n
  induction n with
  | zero => intro  h hw; exact False.elim hw
  | succ n ih =>
    intro  h hw
    refine g_aload_n dX12_next_89 rfl rfl ?_
    refine g_aload_n dX12_next_90 rfl rfl ?_
    refine g_getI dX12_next_91 fl_X12_128 sh98 rfl ?_
    refine g_callVI [.int (gI h 98 7)] (ci := 12) dX12_next_94 ml_X12_131 mk_X12_see rfl rfl sh98 (Nat.le_of_ble_eq_true rfl) (Nat.le_of_ble_eq_true rfl) rfl (c_M_see hw) (fun r46 h47 hw => ?_)
    refine g_callSI [.int r46] dX12_next_97 ml_X12_138 mk_X12_isSmall rfl (Nat.le_of_ble_eq_true rfl) (Nat.le_of_ble_eq_true rfl) rfl (c_M_isSmall hw) (fun r48 h49 hw => ?_)
    refine g_if_eq 116 dX12_next_100 rfl (fun hc => ?_) (fun hc => ?_)
    · have hw := hw.1 hc
      refine g_aload_n dX12_next_116 rfl rfl ?_
      refine g_aload_n dX12_next_117 rfl rfl ?_
      refine g_callVI [] (ci := 12) dX12_next_118 ml_X12_142 mk_X12_keyAt rfl rfl sh98 (Nat.le_of_ble_eq_true rfl) (Nat.le_of_ble_eq_true rfl) rfl (c_M_keyAt hw) (fun r50 h51 hw => ?_)
      refine g_putI dX12_next_121 fl_X12_135 sh98 rfl rfl pf_12_9 ?_
      refine g_heap (fun h52 eh52 => ?_)
      have hw := hw h52 eh52
      refine g_goto 294 dX12_next_124 rfl ?_
      exact g_vret dX12_next_294 hw
    · have hw := hw.2 hc
      refine g_aload_n dX12_next_103 rfl rfl ?_
      refine g_dup dX12_next_104 rfl ?_
      refine g_getI dX12_next_105 fl_X12_128 sh98 rfl ?_
      refine g_iconst (v := 1) dX12_next_108 (by decide) ?_
      refine g_iadd dX12_next_109 ?_
      refine g_putI dX12_next_110 fl_X12_128 sh98 rfl rfl pf_12_7 ?_
      refine g_heap (fun h53 eh53 => ?_)
      have hw := hw h53 eh53
      refine g_goto 89 dX12_next_113 rfl ?_
      exact ih _ hw
def M_next  (h : Hp) (Q : Hp → Prop) : Prop := ∀ h1 : Hp, h1 = sI h 98 6 (gI h 98 7) → ∃ n8, M_next_L8 (fun h9 => ∀ h10 : Hp, h10 = sI h9 98 7 (gI h9 98 6) → ((gI h10 98 6) < (gI h10 98 8) → M_see (gI h10 98 6) h10 (fun r11 h12 => M_isSmall r11 h12 (fun r13 h14 => (r13 = 0 → M_see (gI h14 98 6) h14 (fun r15 h16 => M_isDigit r15 h16 (fun r17 h18 => (r17 = 0 → ∀ h19 : Hp, h19 = sI h18 98 7 ((gI h18 98 7) + 1) → ∀ h20 : Hp, h20 = sI h19 98 9 25 → ∃ n30, M_next_L254 Q n30 0 h20) ∧ (¬ r17 = 0 → ∀ h31 : Hp, h31 = sI h18 98 10 0 → ∃ n41, M_next_L146 (fun h42 => ∀ J230 : Int32 → Hp → Prop, J230 = (fun s43 h44 => ∀ h45 : Hp, h45 = sI h44 98 9 s43 → Q h45) → (((gI h42 98 7) - (gI h42 98 6)) ≤ 3 → J230 23 h42) ∧ (¬ ((gI h42 98 7) - (gI h42 98 6)) ≤ 3 → J230 25 h42)) n41  h31)))) ∧ (¬ r13 = 0 → ∃ n54, M_next_L89 Q n54  h14)))) ∧ (¬ (gI h10 98 6) < (gI h10 98 8) → ∀ h55 : Hp, h55 = sI h10 98 9 24 → Q h55)) n8  h1
set_option maxHeartbeats 4000000 in
set_option maxRecDepth 20000 in
theorem c_M_next {G : Gx}   {h : Hp} {Q : Hp → Prop} (hw : M_next  h Q) : Ct yX12_next cX12_next 2 none 7 G [.ref (gAd G 98)] h (QV G Q) := by
  refine ct_go [(0, .ref (gAd G 98))] (plainFor_of_name (by decide)) rfl (Nat.le_of_ble_eq_true rfl) rfl ?_
  refine g_aload_n dX12_next_0 rfl rfl ?_
  refine g_aload_n dX12_next_1 rfl rfl ?_
  refine g_getI dX12_next_2 fl_X12_128 sh98 rfl ?_
  refine g_putI dX12_next_5 fl_X12_125 sh98 rfl rfl pf_12_6 ?_
  refine g_heap (fun h1 eh1 => ?_)
  have hw := hw h1 eh1
  obtain ⟨n8, hw⟩ := hw
  refine gl_M_next_L8  ?_ _ _ hw
  · intro h9 hw
    refine g_aload_n dX12_next_47 rfl rfl ?_
    refine g_aload_n dX12_next_48 rfl rfl ?_
    refine g_getI dX12_next_49 fl_X12_125 sh98 rfl ?_
    refine g_putI dX12_next_52 fl_X12_128 sh98 rfl rfl pf_12_7 ?_
    refine g_heap (fun h10 eh10 => ?_)
    have hw := hw h10 eh10
    refine g_aload_n dX12_next_55 rfl rfl ?_
    refine g_getI dX12_next_56 fl_X12_125 sh98 rfl ?_
    refine g_aload_n dX12_next_59 rfl rfl ?_
    refine g_getI dX12_next_60 fl_X12_110 sh98 rfl ?_
    refine g_icmp_lt 75 dX12_next_63 rfl (fun hc => ?_) (fun hc => ?_)
    · have hw := hw.1 hc
      refine g_aload_n dX12_next_75 rfl rfl ?_
      refine g_aload_n dX12_next_76 rfl rfl ?_
      refine g_getI dX12_next_77 fl_X12_125 sh98 rfl ?_
      refine g_callVI [.int (gI h10 98 6)] (ci := 12) dX12_next_80 ml_X12_131 mk_X12_see rfl rfl sh98 (Nat.le_of_ble_eq_true rfl) (Nat.le_of_ble_eq_true rfl) rfl (c_M_see hw) (fun r11 h12 hw => ?_)
      refine g_callSI [.int r11] dX12_next_83 ml_X12_138 mk_X12_isSmall rfl (Nat.le_of_ble_eq_true rfl) (Nat.le_of_ble_eq_true rfl) rfl (c_M_isSmall hw) (fun r13 h14 hw => ?_)
      refine g_if_eq 127 dX12_next_86 rfl (fun hc => ?_) (fun hc => ?_)
      · have hw := hw.1 hc
        refine g_aload_n dX12_next_127 rfl rfl ?_
        refine g_aload_n dX12_next_128 rfl rfl ?_
        refine g_getI dX12_next_129 fl_X12_125 sh98 rfl ?_
        refine g_callVI [.int (gI h14 98 6)] (ci := 12) dX12_next_132 ml_X12_131 mk_X12_see rfl rfl sh98 (Nat.le_of_ble_eq_true rfl) (Nat.le_of_ble_eq_true rfl) rfl (c_M_see hw) (fun r15 h16 hw => ?_)
        refine g_callSI [.int r15] dX12_next_135 ml_X12_145 mk_X12_isDigit rfl (Nat.le_of_ble_eq_true rfl) (Nat.le_of_ble_eq_true rfl) rfl (c_M_isDigit hw) (fun r17 h18 hw => ?_)
        refine g_if_eq 236 dX12_next_138 rfl (fun hc => ?_) (fun hc => ?_)
        · have hw := hw.1 hc
          refine g_aload_n dX12_next_236 rfl rfl ?_
          refine g_dup dX12_next_237 rfl ?_
          refine g_getI dX12_next_238 fl_X12_128 sh98 rfl ?_
          refine g_iconst (v := 1) dX12_next_241 (by decide) ?_
          refine g_iadd dX12_next_242 ?_
          refine g_putI dX12_next_243 fl_X12_128 sh98 rfl rfl pf_12_7 ?_
          refine g_heap (fun h19 eh19 => ?_)
          have hw := hw h19 eh19
          refine g_aload_n dX12_next_246 rfl rfl ?_
          refine g_bipush (v := 25) dX12_next_247 (by decide) ?_
          refine g_putI dX12_next_249 fl_X12_135 sh98 rfl rfl pf_12_9 ?_
          refine g_heap (fun h20 eh20 => ?_)
          have hw := hw h20 eh20
          refine g_iconst (v := 0) dX12_next_252 (by decide) ?_
          refine g_istore_n dX12_next_253 rfl (by decide) (lv1 := [(0, .ref (gAd G 98)), (1, .int 0)]) rfl ?_
          obtain ⟨n30, hw⟩ := hw
          refine gl_M_next_L254   _ _ _ hw
        · have hw := hw.2 hc
          refine g_aload_n dX12_next_141 rfl rfl ?_
          refine g_iconst (v := 0) dX12_next_142 (by decide) ?_
          refine g_putI dX12_next_143 fl_X12_148 sh98 rfl rfl pf_12_10 ?_
          refine g_heap (fun h31 eh31 => ?_)
          have hw := hw h31 eh31
          obtain ⟨n41, hw⟩ := hw
          refine gl_M_next_L146  ?_ _ _ hw
          · intro h42 hw
            refine g_aload_n dX12_next_209 rfl rfl ?_
            refine g_aload_n dX12_next_210 rfl rfl ?_
            refine g_getI dX12_next_211 fl_X12_128 sh98 rfl ?_
            refine g_aload_n dX12_next_214 rfl rfl ?_
            refine g_getI dX12_next_215 fl_X12_125 sh98 rfl ?_
            refine g_isub dX12_next_218 ?_
            refine g_iconst (v := 3) dX12_next_219 (by decide) ?_
            refine jn_el hw (fun J230 eJ230 hw => ?_)
            have hJ230 : ∀ (s43 : Int32) (h44 : Hp), J230 s43 h44 → Go cX12_next 2 RX12 none 7 G (QV G Q) 230 [] [.int s43, .ref (gAd G 98)] h44 := by
              intro s43 h44 hw
              subst eJ230
              refine g_putI dX12_next_230 fl_X12_135 sh98 rfl rfl pf_12_9 ?_
              refine g_heap (fun h45 eh45 => ?_)
              have hw := hw h45 eh45
              refine g_goto 294 dX12_next_233 rfl ?_
              exact g_vret dX12_next_294 hw
            refine g_icmp_le 228 dX12_next_220 rfl (fun hc => ?_) (fun hc => ?_)
            · have hw := hw.1 hc
              refine g_bipush (v := 23) dX12_next_228 (by decide) ?_
              refine g_lv [] rfl ?_
              exact hJ230 _ _ hw
            · have hw := hw.2 hc
              refine g_bipush (v := 25) dX12_next_223 (by decide) ?_
              refine g_goto 230 dX12_next_225 rfl ?_
              refine g_lv [] rfl ?_
              exact hJ230 _ _ hw
      · have hw := hw.2 hc
        obtain ⟨n54, hw⟩ := hw
        refine gl_M_next_L89   _ _ hw
    · have hw := hw.2 hc
      refine g_aload_n dX12_next_66 rfl rfl ?_
      refine g_bipush (v := 24) dX12_next_67 (by decide) ?_
      refine g_putI dX12_next_69 fl_X12_135 sh98 rfl rfl pf_12_9 ?_
      refine g_heap (fun h55 eh55 => ?_)
      have hw := hw h55 eh55
      refine g_goto 294 dX12_next_72 rfl ?_
      exact g_vret dX12_next_294 hw
theorem dX12_is_0 : decode cX12_is 0 = .ok (.aload_n 0, 1) := by decide +kernel
theorem dX12_is_1 : decode cX12_is 1 = .ok (.getfield 153, 3) := by decide +kernel
theorem dX12_is_4 : decode cX12_is 4 = .ok (.ifCond .ne 15, 3) := by decide +kernel
theorem dX12_is_7 : decode cX12_is 7 = .ok (.aload_n 0, 1) := by decide +kernel
theorem dX12_is_8 : decode cX12_is 8 = .ok (.getfield 135, 3) := by decide +kernel
theorem dX12_is_11 : decode cX12_is 11 = .ok (.iload_n 1, 1) := by decide +kernel
theorem dX12_is_12 : decode cX12_is 12 = .ok (.if_icmp .ne 7, 3) := by decide +kernel
theorem dX12_is_15 : decode cX12_is 15 = .ok (.iconst 1, 1) := by decide +kernel
theorem dX12_is_16 : decode cX12_is 16 = .ok (.goto 4, 3) := by decide +kernel
theorem dX12_is_19 : decode cX12_is 19 = .ok (.iconst 0, 1) := by decide +kernel
theorem dX12_is_20 : decode cX12_is 20 = .ok (.ireturn, 1) := by decide +kernel
theorem fl_X12_153 : FLk RX12 153 12 11 := ⟨_, rfl, by decide, mW 1393 (by decide +kernel) rfl⟩
def M_is (x1 : Int32) (h : Hp) (Q : Int32 → Hp → Prop) : Prop := (¬ (gI h 98 11) = 0 → Q 0 h) ∧ ((gI h 98 11) = 0 → (¬ (gI h 98 9) = x1 → Q 0 h) ∧ ((gI h 98 9) = x1 → Q 1 h))
set_option maxHeartbeats 4000000 in
set_option maxRecDepth 20000 in
theorem c_M_is {G : Gx}  {x1 : Int32} {h : Hp} {Q : Int32 → Hp → Prop} (hw : M_is x1 h Q) : Ct yX12_is cX12_is 2 (some .boolean) 1 G [.ref (gAd G 98), .int x1] h (QI G Q) := by
  refine ct_go [(0, .ref (gAd G 98)), (1, .int x1)] (plainFor_of_name (by decide)) rfl (Nat.le_of_ble_eq_true rfl) rfl ?_
  refine g_aload_n dX12_is_0 rfl rfl ?_
  refine g_getI dX12_is_1 fl_X12_153 sh98 rfl ?_
  refine g_if_ne 19 dX12_is_4 rfl (fun hc => ?_) (fun hc => ?_)
  · have hw := hw.1 hc
    refine g_iconst (v := 0) dX12_is_19 (by decide) ?_
    exact g_zret dX12_is_20 rfl hw
  · have hw := hw.2 hc
    refine g_aload_n dX12_is_7 rfl rfl ?_
    refine g_getI dX12_is_8 fl_X12_135 sh98 rfl ?_
    refine g_iload_n dX12_is_11 rfl rfl ?_
    refine g_icmp_ne 19 dX12_is_12 rfl (fun hc => ?_) (fun hc => ?_)
    · have hw := hw.1 hc
      refine g_iconst (v := 0) dX12_is_19 (by decide) ?_
      exact g_zret dX12_is_20 rfl hw
    · have hw := hw.2 hc
      refine g_iconst (v := 1) dX12_is_15 (by decide) ?_
      refine g_goto 20 dX12_is_16 rfl ?_
      exact g_zret dX12_is_20 rfl hw
theorem dX12_eats_0 : decode cX12_eats 0 = .ok (.aload_n 0, 1) := by decide +kernel
theorem dX12_eats_1 : decode cX12_eats 1 = .ok (.iload_n 1, 1) := by decide +kernel
theorem dX12_eats_2 : decode cX12_eats 2 = .ok (.invokevirtual 159, 3) := by decide +kernel
theorem dX12_eats_5 : decode cX12_eats 5 = .ok (.ifCond .ne 5, 3) := by decide +kernel
theorem dX12_eats_8 : decode cX12_eats 8 = .ok (.iconst 0, 1) := by decide +kernel
theorem dX12_eats_9 : decode cX12_eats 9 = .ok (.ireturn, 1) := by decide +kernel
theorem dX12_eats_10 : decode cX12_eats 10 = .ok (.aload_n 0, 1) := by decide +kernel
theorem dX12_eats_11 : decode cX12_eats 11 = .ok (.invokevirtual 162, 3) := by decide +kernel
theorem dX12_eats_14 : decode cX12_eats 14 = .ok (.iconst 1, 1) := by decide +kernel
theorem dX12_eats_15 : decode cX12_eats 15 = .ok (.ireturn, 1) := by decide +kernel
theorem ml_X12_159 : Cond.methodLink RX12 159 yX12_is ∈ Wd := mW 1559 (by decide +kernel) rfl
theorem mk_X12_is : MokV yX12_is cX12_is 2 (some .boolean) 1 := ⟨⟨mW 14 (by decide +kernel) rfl, mW 1562 (by decide +kernel) rfl, ⟨by decide, by decide, by decide +kernel⟩, by decide⟩, mW 1561 (by decide +kernel) rfl, mS (q := (yX12_is, 46)) 53 (by decide +kernel)⟩
theorem ml_X12_162 : Cond.methodLink RX12 162 yX12_next ∈ Wd := mW 1533 (by decide +kernel) rfl
theorem mk_X12_next : MokV yX12_next cX12_next 2 none 0 := ⟨⟨mW 14 (by decide +kernel) rfl, mW 1536 (by decide +kernel) rfl, ⟨by decide, by decide, by decide +kernel⟩, by decide⟩, mW 1535 (by decide +kernel) rfl, mS (q := (yX12_next, 46)) 49 (by decide +kernel)⟩
def M_eats (x1 : Int32) (h : Hp) (Q : Int32 → Hp → Prop) : Prop := M_is x1 h (fun r1 h2 => (¬ r1 = 0 → M_next  h2 (fun h3 => Q 1 h3)) ∧ (r1 = 0 → Q 0 h2))
set_option maxHeartbeats 4000000 in
set_option maxRecDepth 20000 in
theorem c_M_eats {G : Gx}  {x1 : Int32} {h : Hp} {Q : Int32 → Hp → Prop} (hw : M_eats x1 h Q) : Ct yX12_eats cX12_eats 2 (some .boolean) 8 G [.ref (gAd G 98), .int x1] h (QI G Q) := by
  refine ct_go [(0, .ref (gAd G 98)), (1, .int x1)] (plainFor_of_name (by decide)) rfl (Nat.le_of_ble_eq_true rfl) rfl ?_
  refine g_aload_n dX12_eats_0 rfl rfl ?_
  refine g_iload_n dX12_eats_1 rfl rfl ?_
  refine g_callVI [.int x1] (ci := 12) dX12_eats_2 ml_X12_159 mk_X12_is rfl rfl sh98 (Nat.le_of_ble_eq_true rfl) (Nat.le_of_ble_eq_true rfl) rfl (c_M_is hw) (fun r1 h2 hw => ?_)
  refine g_if_ne 10 dX12_eats_5 rfl (fun hc => ?_) (fun hc => ?_)
  · have hw := hw.1 hc
    refine g_aload_n dX12_eats_10 rfl rfl ?_
    refine g_callVV [] (ci := 12) dX12_eats_11 ml_X12_162 mk_X12_next rfl rfl sh98 (Nat.le_of_ble_eq_true rfl) (Nat.le_of_ble_eq_true rfl) rfl (c_M_next hw) (fun h3 hw => ?_)
    refine g_iconst (v := 1) dX12_eats_14 (by decide) ?_
    exact g_zret dX12_eats_15 rfl hw
  · have hw := hw.2 hc
    refine g_iconst (v := 0) dX12_eats_8 (by decide) ?_
    exact g_zret dX12_eats_9 rfl hw
theorem dX12_fails_0 : decode cX12_fails 0 = .ok (.aload_n 0, 1) := by decide +kernel
theorem dX12_fails_1 : decode cX12_fails 1 = .ok (.getfield 153, 3) := by decide +kernel
theorem dX12_fails_4 : decode cX12_fails 4 = .ok (.ifCond .eq 4, 3) := by decide +kernel
theorem dX12_fails_7 : decode cX12_fails 7 = .ok (.return_, 1) := by decide +kernel
theorem dX12_fails_8 : decode cX12_fails 8 = .ok (.aload_n 0, 1) := by decide +kernel
theorem dX12_fails_9 : decode cX12_fails 9 = .ok (.aload_n 0, 1) := by decide +kernel
theorem dX12_fails_10 : decode cX12_fails 10 = .ok (.getfield 135, 3) := by decide +kernel
theorem dX12_fails_13 : decode cX12_fails 13 = .ok (.bipush 25, 2) := by decide +kernel
theorem dX12_fails_15 : decode cX12_fails 15 = .ok (.if_icmp .ne 7, 3) := by decide +kernel
theorem dX12_fails_18 : decode cX12_fails 18 = .ok (.iconst 1, 1) := by decide +kernel
theorem dX12_fails_19 : decode cX12_fails 19 = .ok (.goto 4, 3) := by decide +kernel
theorem dX12_fails_22 : decode cX12_fails 22 = .ok (.iload_n 1, 1) := by decide +kernel
theorem dX12_fails_23 : decode cX12_fails 23 = .ok (.putfield 153, 3) := by decide +kernel
theorem dX12_fails_26 : decode cX12_fails 26 = .ok (.aload_n 0, 1) := by decide +kernel
theorem dX12_fails_27 : decode cX12_fails 27 = .ok (.aload_n 0, 1) := by decide +kernel
theorem dX12_fails_28 : decode cX12_fails 28 = .ok (.getfield 125, 3) := by decide +kernel
theorem dX12_fails_31 : decode cX12_fails 31 = .ok (.putfield 156, 3) := by decide +kernel
theorem dX12_fails_34 : decode cX12_fails 34 = .ok (.return_, 1) := by decide +kernel
theorem pf_12_11 : parseFieldDescriptor (uD 12 11) = some .int := by decide +kernel
theorem fl_X12_156 : FLk RX12 156 12 12 := ⟨_, rfl, by decide, mW 1394 (by decide +kernel) rfl⟩
theorem pf_12_12 : parseFieldDescriptor (uD 12 12) = some .int := by decide +kernel
def M_fails (x1 : Int32) (h : Hp) (Q : Hp → Prop) : Prop := ((gI h 98 11) = 0 → ∀ J23 : Int32 → Hp → Prop, J23 = (fun s1 h2 => ∀ h3 : Hp, h3 = sI h2 98 11 s1 → ∀ h4 : Hp, h4 = sI h3 98 12 (gI h3 98 6) → Q h4) → (¬ (gI h 98 9) = 25 → J23 x1 h) ∧ ((gI h 98 9) = 25 → J23 1 h)) ∧ (¬ (gI h 98 11) = 0 → Q h)
set_option maxHeartbeats 4000000 in
set_option maxRecDepth 20000 in
theorem c_M_fails {G : Gx}  {x1 : Int32} {h : Hp} {Q : Hp → Prop} (hw : M_fails x1 h Q) : Ct yX12_fails cX12_fails 2 none 1 G [.ref (gAd G 98), .int x1] h (QV G Q) := by
  refine ct_go [(0, .ref (gAd G 98)), (1, .int x1)] (plainFor_of_name (by decide)) rfl (Nat.le_of_ble_eq_true rfl) rfl ?_
  refine g_aload_n dX12_fails_0 rfl rfl ?_
  refine g_getI dX12_fails_1 fl_X12_153 sh98 rfl ?_
  refine g_if_eq 8 dX12_fails_4 rfl (fun hc => ?_) (fun hc => ?_)
  · have hw := hw.1 hc
    refine g_aload_n dX12_fails_8 rfl rfl ?_
    refine g_aload_n dX12_fails_9 rfl rfl ?_
    refine g_getI dX12_fails_10 fl_X12_135 sh98 rfl ?_
    refine g_bipush (v := 25) dX12_fails_13 (by decide) ?_
    refine jn_el hw (fun J23 eJ23 hw => ?_)
    have hJ23 : ∀ (s1 : Int32) (h2 : Hp), J23 s1 h2 → Go cX12_fails 2 RX12 none 1 G (QV G Q) 23 [(0, .ref (gAd G 98))] [.int s1, .ref (gAd G 98)] h2 := by
      intro s1 h2 hw
      subst eJ23
      refine g_putI dX12_fails_23 fl_X12_153 sh98 rfl rfl pf_12_11 ?_
      refine g_heap (fun h3 eh3 => ?_)
      have hw := hw h3 eh3
      refine g_aload_n dX12_fails_26 rfl rfl ?_
      refine g_aload_n dX12_fails_27 rfl rfl ?_
      refine g_getI dX12_fails_28 fl_X12_125 sh98 rfl ?_
      refine g_putI dX12_fails_31 fl_X12_156 sh98 rfl rfl pf_12_12 ?_
      refine g_heap (fun h4 eh4 => ?_)
      have hw := hw h4 eh4
      exact g_vret dX12_fails_34 hw
    refine g_icmp_ne 22 dX12_fails_15 rfl (fun hc => ?_) (fun hc => ?_)
    · have hw := hw.1 hc
      refine g_iload_n dX12_fails_22 rfl rfl ?_
      refine g_lv [0] rfl ?_
      exact hJ23 _ _ hw
    · have hw := hw.2 hc
      refine g_iconst (v := 1) dX12_fails_18 (by decide) ?_
      refine g_goto 23 dX12_fails_19 rfl ?_
      refine g_lv [0] rfl ?_
      exact hJ23 _ _ hw
  · have hw := hw.2 hc
    exact g_vret dX12_fails_7 hw
theorem dX12_takes_0 : decode cX12_takes 0 = .ok (.aload_n 0, 1) := by decide +kernel
theorem dX12_takes_1 : decode cX12_takes 1 = .ok (.bipush 23, 2) := by decide +kernel
theorem dX12_takes_3 : decode cX12_takes 3 = .ok (.invokevirtual 159, 3) := by decide +kernel
theorem dX12_takes_6 : decode cX12_takes 6 = .ok (.ifCond .ne 11, 3) := by decide +kernel
theorem dX12_takes_9 : decode cX12_takes 9 = .ok (.aload_n 0, 1) := by decide +kernel
theorem dX12_takes_10 : decode cX12_takes 10 = .ok (.iconst 2, 1) := by decide +kernel
theorem dX12_takes_11 : decode cX12_takes 11 = .ok (.invokevirtual 165, 3) := by decide +kernel
theorem dX12_takes_14 : decode cX12_takes 14 = .ok (.goto 23, 3) := by decide +kernel
theorem dX12_takes_17 : decode cX12_takes 17 = .ok (.aload_n 0, 1) := by decide +kernel
theorem dX12_takes_18 : decode cX12_takes 18 = .ok (.getfield 148, 3) := by decide +kernel
theorem dX12_takes_21 : decode cX12_takes 21 = .ok (.i2l, 1) := by decide +kernel
theorem dX12_takes_22 : decode cX12_takes 22 = .ok (.iload_n 1, 1) := by decide +kernel
theorem dX12_takes_23 : decode cX12_takes 23 = .ok (.i2l, 1) := by decide +kernel
theorem dX12_takes_24 : decode cX12_takes 24 = .ok (.iload_n 2, 1) := by decide +kernel
theorem dX12_takes_25 : decode cX12_takes 25 = .ok (.i2l, 1) := by decide +kernel
theorem dX12_takes_26 : decode cX12_takes 26 = .ok (.invokestatic 169, 3) := by decide +kernel
theorem dX12_takes_29 : decode cX12_takes 29 = .ok (.ifCond .ne 8, 3) := by decide +kernel
theorem dX12_takes_32 : decode cX12_takes 32 = .ok (.aload_n 0, 1) := by decide +kernel
theorem dX12_takes_33 : decode cX12_takes 33 = .ok (.iconst 3, 1) := by decide +kernel
theorem dX12_takes_34 : decode cX12_takes 34 = .ok (.invokevirtual 165, 3) := by decide +kernel
theorem dX12_takes_37 : decode cX12_takes 37 = .ok (.aload_n 0, 1) := by decide +kernel
theorem dX12_takes_38 : decode cX12_takes 38 = .ok (.getfield 148, 3) := by decide +kernel
theorem dX12_takes_41 : decode cX12_takes 41 = .ok (.istore_n 3, 1) := by decide +kernel
theorem dX12_takes_42 : decode cX12_takes 42 = .ok (.aload_n 0, 1) := by decide +kernel
theorem dX12_takes_43 : decode cX12_takes 43 = .ok (.getfield 153, 3) := by decide +kernel
theorem dX12_takes_46 : decode cX12_takes 46 = .ok (.ifCond .ne 7, 3) := by decide +kernel
theorem dX12_takes_49 : decode cX12_takes 49 = .ok (.aload_n 0, 1) := by decide +kernel
theorem dX12_takes_50 : decode cX12_takes 50 = .ok (.invokevirtual 162, 3) := by decide +kernel
theorem dX12_takes_53 : decode cX12_takes 53 = .ok (.iload_n 3, 1) := by decide +kernel
theorem dX12_takes_54 : decode cX12_takes 54 = .ok (.ireturn, 1) := by decide +kernel
theorem ml_X12_169 : Cond.methodLink RX12 169 yX12_within ∈ Wd := mW 1530 (by decide +kernel) rfl
theorem mk_X12_within : MokS yX12_within cX12_within 6 (some .boolean) 3 := ⟨⟨mW 14 (by decide +kernel) rfl, mW 1532 (by decide +kernel) rfl, ⟨by decide, by decide, by decide +kernel⟩, by decide⟩, mW 1531 (by decide +kernel) rfl⟩
theorem ml_X12_165 : Cond.methodLink RX12 165 yX12_fails ∈ Wd := mW 1563 (by decide +kernel) rfl
theorem mk_X12_fails : MokV yX12_fails cX12_fails 2 none 1 := ⟨⟨mW 14 (by decide +kernel) rfl, mW 1566 (by decide +kernel) rfl, ⟨by decide, by decide, by decide +kernel⟩, by decide⟩, mW 1565 (by decide +kernel) rfl, mS (q := (yX12_fails, 46)) 54 (by decide +kernel)⟩
def M_takes (x1 : Int32) (x2 : Int32) (h : Hp) (Q : Int32 → Hp → Prop) : Prop := M_is 23 h (fun r1 h2 => ∀ J37 : Hp → Prop, J37 = (fun h3 => ∀ v4 : Int32, v4 = (gI h3 98 10) → (¬ (gI h3 98 11) = 0 → Q v4 h3) ∧ ((gI h3 98 11) = 0 → M_next  h3 (fun h5 => Q v4 h5))) → (¬ r1 = 0 → M_within (((gI h2 98 10)).toInt64) ((x1).toInt64) ((x2).toInt64) h2 (fun r6 h7 => (¬ r6 = 0 → J37 h7) ∧ (r6 = 0 → M_fails 3 h7 (fun h8 => J37 h8)))) ∧ (r1 = 0 → M_fails 2 h2 (fun h9 => J37 h9)))
set_option maxHeartbeats 4000000 in
set_option maxRecDepth 20000 in
theorem c_M_takes {G : Gx}  {x1 : Int32} {x2 : Int32} {h : Hp} {Q : Int32 → Hp → Prop} (hw : M_takes x1 x2 h Q) : Ct yX12_takes cX12_takes 4 (some .int) 8 G [.ref (gAd G 98), .int x1, .int x2] h (QI G Q) := by
  refine ct_go [(0, .ref (gAd G 98)), (1, .int x1), (2, .int x2)] (plainFor_of_name (by decide)) rfl (Nat.le_of_ble_eq_true rfl) rfl ?_
  refine g_aload_n dX12_takes_0 rfl rfl ?_
  refine g_bipush (v := 23) dX12_takes_1 (by decide) ?_
  refine g_callVI [.int 23] (ci := 12) dX12_takes_3 ml_X12_159 mk_X12_is rfl rfl sh98 (Nat.le_of_ble_eq_true rfl) (Nat.le_of_ble_eq_true rfl) rfl (c_M_is hw) (fun r1 h2 hw => ?_)
  refine jn_el hw (fun J37 eJ37 hw => ?_)
  have hJ37 : ∀ (h3 : Hp), J37 h3 → Go cX12_takes 4 RX12 (some .int) 8 G (QI G Q) 37 [(0, .ref (gAd G 98))] [] h3 := by
    intro h3 hw
    subst eJ37
    refine g_aload_n dX12_takes_37 rfl rfl ?_
    refine g_getI dX12_takes_38 fl_X12_148 sh98 rfl ?_
    refine g_topi (fun v4 ev4 => ?_)
    have hw := hw v4 ev4
    refine g_istore_n dX12_takes_41 rfl (by decide) (lv1 := [(0, .ref (gAd G 98)), (3, .int v4)]) rfl ?_
    refine g_aload_n dX12_takes_42 rfl rfl ?_
    refine g_getI dX12_takes_43 fl_X12_153 sh98 rfl ?_
    refine g_if_ne 53 dX12_takes_46 rfl (fun hc => ?_) (fun hc => ?_)
    · have hw := hw.1 hc
      refine g_iload_n dX12_takes_53 rfl rfl ?_
      exact g_iret dX12_takes_54 hw
    · have hw := hw.2 hc
      refine g_aload_n dX12_takes_49 rfl rfl ?_
      refine g_callVV [] (ci := 12) dX12_takes_50 ml_X12_162 mk_X12_next rfl rfl sh98 (Nat.le_of_ble_eq_true rfl) (Nat.le_of_ble_eq_true rfl) rfl (c_M_next hw) (fun h5 hw => ?_)
      refine g_iload_n dX12_takes_53 rfl rfl ?_
      exact g_iret dX12_takes_54 hw
  refine g_if_ne 17 dX12_takes_6 rfl (fun hc => ?_) (fun hc => ?_)
  · have hw := hw.1 hc
    refine g_aload_n dX12_takes_17 rfl rfl ?_
    refine g_getI dX12_takes_18 fl_X12_148 sh98 rfl ?_
    refine g_i2l dX12_takes_21 ?_
    refine g_iload_n dX12_takes_22 rfl rfl ?_
    refine g_i2l dX12_takes_23 ?_
    refine g_iload_n dX12_takes_24 rfl rfl ?_
    refine g_i2l dX12_takes_25 ?_
    refine g_callSI [.long (((gI h2 98 10)).toInt64), .long ((x1).toInt64), .long ((x2).toInt64)] dX12_takes_26 ml_X12_169 mk_X12_within rfl (Nat.le_of_ble_eq_true rfl) (Nat.le_of_ble_eq_true rfl) rfl (c_M_within hw) (fun r6 h7 hw => ?_)
    refine g_if_ne 37 dX12_takes_29 rfl (fun hc => ?_) (fun hc => ?_)
    · have hw := hw.1 hc
      refine g_lv [0] rfl ?_
      exact hJ37 _ hw
    · have hw := hw.2 hc
      refine g_aload_n dX12_takes_32 rfl rfl ?_
      refine g_iconst (v := 3) dX12_takes_33 (by decide) ?_
      refine g_callVV [.int 3] (ci := 12) dX12_takes_34 ml_X12_165 mk_X12_fails rfl rfl sh98 (Nat.le_of_ble_eq_true rfl) (Nat.le_of_ble_eq_true rfl) rfl (c_M_fails hw) (fun h8 hw => ?_)
      refine g_lv [0] rfl ?_
      exact hJ37 _ hw
  · have hw := hw.2 hc
    refine g_aload_n dX12_takes_9 rfl rfl ?_
    refine g_iconst (v := 2) dX12_takes_10 (by decide) ?_
    refine g_callVV [.int 2] (ci := 12) dX12_takes_11 ml_X12_165 mk_X12_fails rfl rfl sh98 (Nat.le_of_ble_eq_true rfl) (Nat.le_of_ble_eq_true rfl) rfl (c_M_fails hw) (fun h9 hw => ?_)
    refine g_goto 37 dX12_takes_14 rfl ?_
    refine g_lv [0] rfl ?_
    exact hJ37 _ hw
theorem dX12_closes_0 : decode cX12_closes 0 = .ok (.aload_n 0, 1) := by decide +kernel
theorem dX12_closes_1 : decode cX12_closes 1 = .ok (.bipush 30, 2) := by decide +kernel
theorem dX12_closes_3 : decode cX12_closes 3 = .ok (.invokevirtual 185, 3) := by decide +kernel
theorem dX12_closes_6 : decode cX12_closes 6 = .ok (.ifCond .ne 8, 3) := by decide +kernel
theorem dX12_closes_9 : decode cX12_closes 9 = .ok (.aload_n 0, 1) := by decide +kernel
theorem dX12_closes_10 : decode cX12_closes 10 = .ok (.iconst 2, 1) := by decide +kernel
theorem dX12_closes_11 : decode cX12_closes 11 = .ok (.invokevirtual 165, 3) := by decide +kernel
theorem dX12_closes_14 : decode cX12_closes 14 = .ok (.aload_n 0, 1) := by decide +kernel
theorem dX12_closes_15 : decode cX12_closes 15 = .ok (.getfield 24, 3) := by decide +kernel
theorem dX12_closes_18 : decode cX12_closes 18 = .ok (.iconst 0, 1) := by decide +kernel
theorem dX12_closes_19 : decode cX12_closes 19 = .ok (.dup2, 1) := by decide +kernel
theorem dX12_closes_20 : decode cX12_closes 20 = .ok (.iaload, 1) := by decide +kernel
theorem dX12_closes_21 : decode cX12_closes 21 = .ok (.iconst 1, 1) := by decide +kernel
theorem dX12_closes_22 : decode cX12_closes 22 = .ok (.iadd, 1) := by decide +kernel
theorem dX12_closes_23 : decode cX12_closes 23 = .ok (.iastore, 1) := by decide +kernel
theorem dX12_closes_24 : decode cX12_closes 24 = .ok (.return_, 1) := by decide +kernel
theorem ml_X12_185 : Cond.methodLink RX12 185 yX12_eats ∈ Wd := mW 1555 (by decide +kernel) rfl
theorem mk_X12_eats : MokV yX12_eats cX12_eats 2 (some .boolean) 1 := ⟨⟨mW 14 (by decide +kernel) rfl, mW 1558 (by decide +kernel) rfl, ⟨by decide, by decide, by decide +kernel⟩, by decide⟩, mW 1557 (by decide +kernel) rfl, mS (q := (yX12_eats, 46)) 52 (by decide +kernel)⟩
theorem fl_X12_24 : FLk RX12 24 12 4 := ⟨_, rfl, by decide, mW 1386 (by decide +kernel) rfl⟩
def M_closes  (h : Hp) (Q : Hp → Prop) : Prop := M_eats 30 h (fun r1 h2 => ∀ J14 : Hp → Prop, J14 = (fun h3 => ∀ h4 : Hp, h4 = sI h3 102 0 ((gI h3 102 0) + 1) → Q h4) → (¬ r1 = 0 → J14 h2) ∧ (r1 = 0 → M_fails 2 h2 (fun h5 => J14 h5)))
set_option maxHeartbeats 4000000 in
set_option maxRecDepth 20000 in
theorem c_M_closes {G : Gx}   {h : Hp} {Q : Hp → Prop} (hw : M_closes  h Q) : Ct yX12_closes cX12_closes 1 none 9 G [.ref (gAd G 98)] h (QV G Q) := by
  refine ct_go [(0, .ref (gAd G 98))] (plainFor_of_name (by decide)) rfl (Nat.le_of_ble_eq_true rfl) rfl ?_
  refine g_aload_n dX12_closes_0 rfl rfl ?_
  refine g_bipush (v := 30) dX12_closes_1 (by decide) ?_
  refine g_callVI [.int 30] (ci := 12) dX12_closes_3 ml_X12_185 mk_X12_eats rfl rfl sh98 (Nat.le_of_ble_eq_true rfl) (Nat.le_of_ble_eq_true rfl) rfl (c_M_eats hw) (fun r1 h2 hw => ?_)
  refine jn_el hw (fun J14 eJ14 hw => ?_)
  have hJ14 : ∀ (h3 : Hp), J14 h3 → Go cX12_closes 1 RX12 none 9 G (QV G Q) 14 [(0, .ref (gAd G 98))] [] h3 := by
    intro h3 hw
    subst eJ14
    refine g_aload_n dX12_closes_14 rfl rfl ?_
    refine g_getA dX12_closes_15 fl_X12_24 sh98 rfl ?_
    refine g_iconst (v := 0) dX12_closes_18 (by decide) ?_
    refine g_dup2_11 dX12_closes_19 rfl rfl ?_
    refine g_ialdK dX12_closes_20 ia102 al102 (by unfold vp_in; decide) (k := 0) (by decide) ?_
    refine g_iconst (v := 1) dX12_closes_21 (by decide) ?_
    refine g_iadd dX12_closes_22 ?_
    refine g_iastK dX12_closes_23 ia102 al102 (by unfold vp_in; decide) (k := 0) (by decide) ?_
    refine g_heap (fun h4 eh4 => ?_)
    have hw := hw h4 eh4
    exact g_vret dX12_closes_24 hw
  refine g_if_ne 14 dX12_closes_6 rfl (fun hc => ?_) (fun hc => ?_)
  · have hw := hw.1 hc
    exact hJ14 _ hw
  · have hw := hw.2 hc
    refine g_aload_n dX12_closes_9 rfl rfl ?_
    refine g_iconst (v := 2) dX12_closes_10 (by decide) ?_
    refine g_callVV [.int 2] (ci := 12) dX12_closes_11 ml_X12_165 mk_X12_fails rfl rfl sh98 (Nat.le_of_ble_eq_true rfl) (Nat.le_of_ble_eq_true rfl) rfl (c_M_fails hw) (fun h5 hw => ?_)
    exact hJ14 _ hw
theorem dX12_readPlace_0 : decode cX12_readPlace 0 = .ok (.aload_n 0, 1) := by decide +kernel
theorem dX12_readPlace_1 : decode cX12_readPlace 1 = .ok (.getfield 24, 3) := by decide +kernel
theorem dX12_readPlace_4 : decode cX12_readPlace 4 = .ok (.iconst 1, 1) := by decide +kernel
theorem dX12_readPlace_5 : decode cX12_readPlace 5 = .ok (.iaload, 1) := by decide +kernel
theorem dX12_readPlace_6 : decode cX12_readPlace 6 = .ok (.istore_n 1, 1) := by decide +kernel
theorem dX12_readPlace_7 : decode cX12_readPlace 7 = .ok (.iload_n 1, 1) := by decide +kernel
theorem dX12_readPlace_8 : decode cX12_readPlace 8 = .ok (.bipush 8, 2) := by decide +kernel
theorem dX12_readPlace_10 : decode cX12_readPlace 10 = .ok (.if_icmp .ne 8, 3) := by decide +kernel
theorem dX12_readPlace_13 : decode cX12_readPlace 13 = .ok (.aload_n 0, 1) := by decide +kernel
theorem dX12_readPlace_14 : decode cX12_readPlace 14 = .ok (.iconst 4, 1) := by decide +kernel
theorem dX12_readPlace_15 : decode cX12_readPlace 15 = .ok (.invokevirtual 165, 3) := by decide +kernel
theorem dX12_readPlace_18 : decode cX12_readPlace 18 = .ok (.aload_n 0, 1) := by decide +kernel
theorem dX12_readPlace_19 : decode cX12_readPlace 19 = .ok (.getfield 153, 3) := by decide +kernel
theorem dX12_readPlace_22 : decode cX12_readPlace 22 = .ok (.ifCond .eq 4, 3) := by decide +kernel
theorem dX12_readPlace_25 : decode cX12_readPlace 25 = .ok (.return_, 1) := by decide +kernel
theorem dX12_readPlace_26 : decode cX12_readPlace 26 = .ok (.aload_n 0, 1) := by decide +kernel
theorem dX12_readPlace_27 : decode cX12_readPlace 27 = .ok (.invokevirtual 162, 3) := by decide +kernel
theorem dX12_readPlace_30 : decode cX12_readPlace 30 = .ok (.aload_n 0, 1) := by decide +kernel
theorem dX12_readPlace_31 : decode cX12_readPlace 31 = .ok (.iconst 3, 1) := by decide +kernel
theorem dX12_readPlace_32 : decode cX12_readPlace 32 = .ok (.invokevirtual 159, 3) := by decide +kernel
theorem dX12_readPlace_35 : decode cX12_readPlace 35 = .ok (.istore_n 2, 1) := by decide +kernel
theorem dX12_readPlace_36 : decode cX12_readPlace 36 = .ok (.aload_n 0, 1) := by decide +kernel
theorem dX12_readPlace_37 : decode cX12_readPlace 37 = .ok (.iconst 3, 1) := by decide +kernel
theorem dX12_readPlace_38 : decode cX12_readPlace 38 = .ok (.invokevirtual 185, 3) := by decide +kernel
theorem dX12_readPlace_41 : decode cX12_readPlace 41 = .ok (.ifCond .ne 16, 3) := by decide +kernel
theorem dX12_readPlace_44 : decode cX12_readPlace 44 = .ok (.aload_n 0, 1) := by decide +kernel
theorem dX12_readPlace_45 : decode cX12_readPlace 45 = .ok (.iconst 4, 1) := by decide +kernel
theorem dX12_readPlace_46 : decode cX12_readPlace 46 = .ok (.invokevirtual 185, 3) := by decide +kernel
theorem dX12_readPlace_49 : decode cX12_readPlace 49 = .ok (.ifCond .ne 8, 3) := by decide +kernel
theorem dX12_readPlace_52 : decode cX12_readPlace 52 = .ok (.aload_n 0, 1) := by decide +kernel
theorem dX12_readPlace_53 : decode cX12_readPlace 53 = .ok (.iconst 2, 1) := by decide +kernel
theorem dX12_readPlace_54 : decode cX12_readPlace 54 = .ok (.invokevirtual 165, 3) := by decide +kernel
theorem dX12_readPlace_57 : decode cX12_readPlace 57 = .ok (.aload_n 0, 1) := by decide +kernel
theorem dX12_readPlace_58 : decode cX12_readPlace 58 = .ok (.getfield 153, 3) := by decide +kernel
theorem dX12_readPlace_61 : decode cX12_readPlace 61 = .ok (.ifCond .eq 4, 3) := by decide +kernel
theorem dX12_readPlace_64 : decode cX12_readPlace 64 = .ok (.return_, 1) := by decide +kernel
theorem dX12_readPlace_65 : decode cX12_readPlace 65 = .ok (.aload_n 0, 1) := by decide +kernel
theorem dX12_readPlace_66 : decode cX12_readPlace 66 = .ok (.getfield 24, 3) := by decide +kernel
theorem dX12_readPlace_69 : decode cX12_readPlace 69 = .ok (.iconst 3, 1) := by decide +kernel
theorem dX12_readPlace_70 : decode cX12_readPlace 70 = .ok (.dup2, 1) := by decide +kernel
theorem dX12_readPlace_71 : decode cX12_readPlace 71 = .ok (.iaload, 1) := by decide +kernel
theorem dX12_readPlace_72 : decode cX12_readPlace 72 = .ok (.iload_n 2, 1) := by decide +kernel
theorem dX12_readPlace_73 : decode cX12_readPlace 73 = .ok (.ifCond .eq 9, 3) := by decide +kernel
theorem dX12_readPlace_76 : decode cX12_readPlace 76 = .ok (.iconst 1, 1) := by decide +kernel
theorem dX12_readPlace_77 : decode cX12_readPlace 77 = .ok (.iload_n 1, 1) := by decide +kernel
theorem dX12_readPlace_78 : decode cX12_readPlace 78 = .ok (.ishl, 1) := by decide +kernel
theorem dX12_readPlace_79 : decode cX12_readPlace 79 = .ok (.goto 4, 3) := by decide +kernel
theorem dX12_readPlace_82 : decode cX12_readPlace 82 = .ok (.iconst 0, 1) := by decide +kernel
theorem dX12_readPlace_83 : decode cX12_readPlace 83 = .ok (.ior, 1) := by decide +kernel
theorem dX12_readPlace_84 : decode cX12_readPlace 84 = .ok (.iastore, 1) := by decide +kernel
theorem dX12_readPlace_85 : decode cX12_readPlace 85 = .ok (.aload_n 0, 1) := by decide +kernel
theorem dX12_readPlace_86 : decode cX12_readPlace 86 = .ok (.getfield 24, 3) := by decide +kernel
theorem dX12_readPlace_89 : decode cX12_readPlace 89 = .ok (.iconst 1, 1) := by decide +kernel
theorem dX12_readPlace_90 : decode cX12_readPlace 90 = .ok (.dup2, 1) := by decide +kernel
theorem dX12_readPlace_91 : decode cX12_readPlace 91 = .ok (.iaload, 1) := by decide +kernel
theorem dX12_readPlace_92 : decode cX12_readPlace 92 = .ok (.iconst 1, 1) := by decide +kernel
theorem dX12_readPlace_93 : decode cX12_readPlace 93 = .ok (.iadd, 1) := by decide +kernel
theorem dX12_readPlace_94 : decode cX12_readPlace 94 = .ok (.iastore, 1) := by decide +kernel
theorem dX12_readPlace_95 : decode cX12_readPlace 95 = .ok (.return_, 1) := by decide +kernel
def M_readPlace  (h : Hp) (Q : Hp → Prop) : Prop := ∀ v1 : Int32, v1 = (gI h 102 1) → ∀ J18 : Hp → Prop, J18 = (fun h2 => ((gI h2 98 11) = 0 → M_next  h2 (fun h3 => M_is 3 h3 (fun r4 h5 => M_eats 3 h5 (fun r6 h7 => ∀ J57 : Hp → Prop, J57 = (fun h8 => ((gI h8 98 11) = 0 → ∀ J83 : Int32 → Hp → Prop, J83 = (fun s9 h10 => ∀ h11 : Hp, h11 = sI h10 102 3 ((gI h8 102 3) ||| s9) → ∀ h12 : Hp, h12 = sI h11 102 1 ((gI h11 102 1) + 1) → Q h12) → (r4 = 0 → J83 0 h8) ∧ (¬ r4 = 0 → J83 ((1 : Int32) <<< (v1 &&& 31)) h8)) ∧ (¬ (gI h8 98 11) = 0 → Q h8)) → (¬ r6 = 0 → J57 h7) ∧ (r6 = 0 → M_eats 4 h7 (fun r13 h14 => (¬ r13 = 0 → J57 h14) ∧ (r13 = 0 → M_fails 2 h14 (fun h15 => J57 h15)))))))) ∧ (¬ (gI h2 98 11) = 0 → Q h2)) → (¬ v1 = 8 → J18 h) ∧ (v1 = 8 → M_fails 4 h (fun h16 => J18 h16))
set_option maxHeartbeats 4000000 in
set_option maxRecDepth 20000 in
theorem c_M_readPlace {G : Gx}   {h : Hp} {Q : Hp → Prop} (hw : M_readPlace  h Q) : Ct yX12_readPlace cX12_readPlace 3 none 9 G [.ref (gAd G 98)] h (QV G Q) := by
  refine ct_go [(0, .ref (gAd G 98))] (plainFor_of_name (by decide)) rfl (Nat.le_of_ble_eq_true rfl) rfl ?_
  refine g_aload_n dX12_readPlace_0 rfl rfl ?_
  refine g_getA dX12_readPlace_1 fl_X12_24 sh98 rfl ?_
  refine g_iconst (v := 1) dX12_readPlace_4 (by decide) ?_
  refine g_ialdK dX12_readPlace_5 ia102 al102 (by unfold vp_in; decide) (k := 1) (by decide) ?_
  refine g_topi (fun v1 ev1 => ?_)
  have hw := hw v1 ev1
  refine g_istore_n dX12_readPlace_6 rfl (by decide) (lv1 := [(0, .ref (gAd G 98)), (1, .int v1)]) rfl ?_
  refine g_iload_n dX12_readPlace_7 rfl rfl ?_
  refine g_bipush (v := 8) dX12_readPlace_8 (by decide) ?_
  refine jn_el hw (fun J18 eJ18 hw => ?_)
  have hJ18 : ∀ (h2 : Hp), J18 h2 → Go cX12_readPlace 3 RX12 none 9 G (QV G Q) 18 [(0, .ref (gAd G 98)), (1, .int v1)] [] h2 := by
    intro h2 hw
    subst eJ18
    refine g_aload_n dX12_readPlace_18 rfl rfl ?_
    refine g_getI dX12_readPlace_19 fl_X12_153 sh98 rfl ?_
    refine g_if_eq 26 dX12_readPlace_22 rfl (fun hc => ?_) (fun hc => ?_)
    · have hw := hw.1 hc
      refine g_aload_n dX12_readPlace_26 rfl rfl ?_
      refine g_callVV [] (ci := 12) dX12_readPlace_27 ml_X12_162 mk_X12_next rfl rfl sh98 (Nat.le_of_ble_eq_true rfl) (Nat.le_of_ble_eq_true rfl) rfl (c_M_next hw) (fun h3 hw => ?_)
      refine g_aload_n dX12_readPlace_30 rfl rfl ?_
      refine g_iconst (v := 3) dX12_readPlace_31 (by decide) ?_
      refine g_callVI [.int 3] (ci := 12) dX12_readPlace_32 ml_X12_159 mk_X12_is rfl rfl sh98 (Nat.le_of_ble_eq_true rfl) (Nat.le_of_ble_eq_true rfl) rfl (c_M_is hw) (fun r4 h5 hw => ?_)
      refine g_istore_n dX12_readPlace_35 rfl (by decide) (lv1 := [(0, .ref (gAd G 98)), (1, .int v1), (2, .int r4)]) rfl ?_
      refine g_aload_n dX12_readPlace_36 rfl rfl ?_
      refine g_iconst (v := 3) dX12_readPlace_37 (by decide) ?_
      refine g_callVI [.int 3] (ci := 12) dX12_readPlace_38 ml_X12_185 mk_X12_eats rfl rfl sh98 (Nat.le_of_ble_eq_true rfl) (Nat.le_of_ble_eq_true rfl) rfl (c_M_eats hw) (fun r6 h7 hw => ?_)
      refine jn_el hw (fun J57 eJ57 hw => ?_)
      have hJ57 : ∀ (h8 : Hp), J57 h8 → Go cX12_readPlace 3 RX12 none 9 G (QV G Q) 57 [(0, .ref (gAd G 98)), (1, .int v1), (2, .int r4)] [] h8 := by
        intro h8 hw
        subst eJ57
        refine g_aload_n dX12_readPlace_57 rfl rfl ?_
        refine g_getI dX12_readPlace_58 fl_X12_153 sh98 rfl ?_
        refine g_if_eq 65 dX12_readPlace_61 rfl (fun hc => ?_) (fun hc => ?_)
        · have hw := hw.1 hc
          refine g_aload_n dX12_readPlace_65 rfl rfl ?_
          refine g_getA dX12_readPlace_66 fl_X12_24 sh98 rfl ?_
          refine g_iconst (v := 3) dX12_readPlace_69 (by decide) ?_
          refine g_dup2_11 dX12_readPlace_70 rfl rfl ?_
          refine g_ialdK dX12_readPlace_71 ia102 al102 (by unfold vp_in; decide) (k := 3) (by decide) ?_
          refine g_iload_n dX12_readPlace_72 rfl rfl ?_
          refine jn_el hw (fun J83 eJ83 hw => ?_)
          have hJ83 : ∀ (s9 : Int32) (h10 : Hp), J83 s9 h10 → Go cX12_readPlace 3 RX12 none 9 G (QV G Q) 83 [(0, .ref (gAd G 98))] [.int s9, .int (gI h8 102 3), .int 3, .ref (gAd G 102)] h10 := by
            intro s9 h10 hw
            subst eJ83
            refine g_ior dX12_readPlace_83 ?_
            refine g_iastK dX12_readPlace_84 ia102 al102 (by unfold vp_in; decide) (k := 3) (by decide) ?_
            refine g_heap (fun h11 eh11 => ?_)
            have hw := hw h11 eh11
            refine g_aload_n dX12_readPlace_85 rfl rfl ?_
            refine g_getA dX12_readPlace_86 fl_X12_24 sh98 rfl ?_
            refine g_iconst (v := 1) dX12_readPlace_89 (by decide) ?_
            refine g_dup2_11 dX12_readPlace_90 rfl rfl ?_
            refine g_ialdK dX12_readPlace_91 ia102 al102 (by unfold vp_in; decide) (k := 1) (by decide) ?_
            refine g_iconst (v := 1) dX12_readPlace_92 (by decide) ?_
            refine g_iadd dX12_readPlace_93 ?_
            refine g_iastK dX12_readPlace_94 ia102 al102 (by unfold vp_in; decide) (k := 1) (by decide) ?_
            refine g_heap (fun h12 eh12 => ?_)
            have hw := hw h12 eh12
            exact g_vret dX12_readPlace_95 hw
          refine g_if_eq 82 dX12_readPlace_73 rfl (fun hc => ?_) (fun hc => ?_)
          · have hw := hw.1 hc
            refine g_iconst (v := 0) dX12_readPlace_82 (by decide) ?_
            refine g_lv [0] rfl ?_
            exact hJ83 _ _ hw
          · have hw := hw.2 hc
            refine g_iconst (v := 1) dX12_readPlace_76 (by decide) ?_
            refine g_iload_n dX12_readPlace_77 rfl rfl ?_
            refine g_ishl dX12_readPlace_78 ?_
            refine g_goto 83 dX12_readPlace_79 rfl ?_
            refine g_lv [0] rfl ?_
            exact hJ83 _ _ hw
        · have hw := hw.2 hc
          exact g_vret dX12_readPlace_64 hw
      refine g_if_ne 57 dX12_readPlace_41 rfl (fun hc => ?_) (fun hc => ?_)
      · have hw := hw.1 hc
        exact hJ57 _ hw
      · have hw := hw.2 hc
        refine g_aload_n dX12_readPlace_44 rfl rfl ?_
        refine g_iconst (v := 4) dX12_readPlace_45 (by decide) ?_
        refine g_callVI [.int 4] (ci := 12) dX12_readPlace_46 ml_X12_185 mk_X12_eats rfl rfl sh98 (Nat.le_of_ble_eq_true rfl) (Nat.le_of_ble_eq_true rfl) rfl (c_M_eats hw) (fun r13 h14 hw => ?_)
        refine g_if_ne 57 dX12_readPlace_49 rfl (fun hc => ?_) (fun hc => ?_)
        · have hw := hw.1 hc
          exact hJ57 _ hw
        · have hw := hw.2 hc
          refine g_aload_n dX12_readPlace_52 rfl rfl ?_
          refine g_iconst (v := 2) dX12_readPlace_53 (by decide) ?_
          refine g_callVV [.int 2] (ci := 12) dX12_readPlace_54 ml_X12_165 mk_X12_fails rfl rfl sh98 (Nat.le_of_ble_eq_true rfl) (Nat.le_of_ble_eq_true rfl) rfl (c_M_fails hw) (fun h15 hw => ?_)
          exact hJ57 _ hw
    · have hw := hw.2 hc
      exact g_vret dX12_readPlace_25 hw
  refine g_icmp_ne 18 dX12_readPlace_10 rfl (fun hc => ?_) (fun hc => ?_)
  · have hw := hw.1 hc
    exact hJ18 _ hw
  · have hw := hw.2 hc
    refine g_aload_n dX12_readPlace_13 rfl rfl ?_
    refine g_iconst (v := 4) dX12_readPlace_14 (by decide) ?_
    refine g_callVV [.int 4] (ci := 12) dX12_readPlace_15 ml_X12_165 mk_X12_fails rfl rfl sh98 (Nat.le_of_ble_eq_true rfl) (Nat.le_of_ble_eq_true rfl) rfl (c_M_fails hw) (fun h16 hw => ?_)
    exact hJ18 _ hw
theorem dX12_readRoad_0 : decode cX12_readRoad 0 = .ok (.aload_n 0, 1) := by decide +kernel
theorem dX12_readRoad_1 : decode cX12_readRoad 1 = .ok (.getfield 24, 3) := by decide +kernel
theorem dX12_readRoad_4 : decode cX12_readRoad 4 = .ok (.iconst 2, 1) := by decide +kernel
theorem dX12_readRoad_5 : decode cX12_readRoad 5 = .ok (.iaload, 1) := by decide +kernel
theorem dX12_readRoad_6 : decode cX12_readRoad 6 = .ok (.istore_n 1, 1) := by decide +kernel
theorem dX12_readRoad_7 : decode cX12_readRoad 7 = .ok (.iload_n 1, 1) := by decide +kernel
theorem dX12_readRoad_8 : decode cX12_readRoad 8 = .ok (.bipush 16, 2) := by decide +kernel
theorem dX12_readRoad_10 : decode cX12_readRoad 10 = .ok (.if_icmp .ne 8, 3) := by decide +kernel
theorem dX12_readRoad_13 : decode cX12_readRoad 13 = .ok (.aload_n 0, 1) := by decide +kernel
theorem dX12_readRoad_14 : decode cX12_readRoad 14 = .ok (.iconst 4, 1) := by decide +kernel
theorem dX12_readRoad_15 : decode cX12_readRoad 15 = .ok (.invokevirtual 165, 3) := by decide +kernel
theorem dX12_readRoad_18 : decode cX12_readRoad 18 = .ok (.aload_n 0, 1) := by decide +kernel
theorem dX12_readRoad_19 : decode cX12_readRoad 19 = .ok (.getfield 153, 3) := by decide +kernel
theorem dX12_readRoad_22 : decode cX12_readRoad 22 = .ok (.ifCond .eq 4, 3) := by decide +kernel
theorem dX12_readRoad_25 : decode cX12_readRoad 25 = .ok (.return_, 1) := by decide +kernel
theorem dX12_readRoad_26 : decode cX12_readRoad 26 = .ok (.aload_n 0, 1) := by decide +kernel
theorem dX12_readRoad_27 : decode cX12_readRoad 27 = .ok (.invokevirtual 162, 3) := by decide +kernel
theorem dX12_readRoad_30 : decode cX12_readRoad 30 = .ok (.aload_n 0, 1) := by decide +kernel
theorem dX12_readRoad_31 : decode cX12_readRoad 31 = .ok (.getfield 24, 3) := by decide +kernel
theorem dX12_readRoad_34 : decode cX12_readRoad 34 = .ok (.bipush 10, 2) := by decide +kernel
theorem dX12_readRoad_36 : decode cX12_readRoad 36 = .ok (.iload_n 1, 1) := by decide +kernel
theorem dX12_readRoad_37 : decode cX12_readRoad 37 = .ok (.iadd, 1) := by decide +kernel
theorem dX12_readRoad_38 : decode cX12_readRoad 38 = .ok (.aload_n 0, 1) := by decide +kernel
theorem dX12_readRoad_39 : decode cX12_readRoad 39 = .ok (.iconst 0, 1) := by decide +kernel
theorem dX12_readRoad_40 : decode cX12_readRoad 40 = .ok (.aload_n 0, 1) := by decide +kernel
theorem dX12_readRoad_41 : decode cX12_readRoad 41 = .ok (.getfield 24, 3) := by decide +kernel
theorem dX12_readRoad_44 : decode cX12_readRoad 44 = .ok (.iconst 1, 1) := by decide +kernel
theorem dX12_readRoad_45 : decode cX12_readRoad 45 = .ok (.iaload, 1) := by decide +kernel
theorem dX12_readRoad_46 : decode cX12_readRoad 46 = .ok (.iconst 1, 1) := by decide +kernel
theorem dX12_readRoad_47 : decode cX12_readRoad 47 = .ok (.isub, 1) := by decide +kernel
theorem dX12_readRoad_48 : decode cX12_readRoad 48 = .ok (.invokevirtual 206, 3) := by decide +kernel
theorem dX12_readRoad_51 : decode cX12_readRoad 51 = .ok (.iastore, 1) := by decide +kernel
theorem dX12_readRoad_52 : decode cX12_readRoad 52 = .ok (.aload_n 0, 1) := by decide +kernel
theorem dX12_readRoad_53 : decode cX12_readRoad 53 = .ok (.getfield 24, 3) := by decide +kernel
theorem dX12_readRoad_56 : decode cX12_readRoad 56 = .ok (.bipush 26, 2) := by decide +kernel
theorem dX12_readRoad_58 : decode cX12_readRoad 58 = .ok (.iload_n 1, 1) := by decide +kernel
theorem dX12_readRoad_59 : decode cX12_readRoad 59 = .ok (.iadd, 1) := by decide +kernel
theorem dX12_readRoad_60 : decode cX12_readRoad 60 = .ok (.aload_n 0, 1) := by decide +kernel
theorem dX12_readRoad_61 : decode cX12_readRoad 61 = .ok (.iconst 0, 1) := by decide +kernel
theorem dX12_readRoad_62 : decode cX12_readRoad 62 = .ok (.aload_n 0, 1) := by decide +kernel
theorem dX12_readRoad_63 : decode cX12_readRoad 63 = .ok (.getfield 24, 3) := by decide +kernel
theorem dX12_readRoad_66 : decode cX12_readRoad 66 = .ok (.iconst 1, 1) := by decide +kernel
theorem dX12_readRoad_67 : decode cX12_readRoad 67 = .ok (.iaload, 1) := by decide +kernel
theorem dX12_readRoad_68 : decode cX12_readRoad 68 = .ok (.iconst 1, 1) := by decide +kernel
theorem dX12_readRoad_69 : decode cX12_readRoad 69 = .ok (.isub, 1) := by decide +kernel
theorem dX12_readRoad_70 : decode cX12_readRoad 70 = .ok (.invokevirtual 206, 3) := by decide +kernel
theorem dX12_readRoad_73 : decode cX12_readRoad 73 = .ok (.iastore, 1) := by decide +kernel
theorem dX12_readRoad_74 : decode cX12_readRoad 74 = .ok (.aload_n 0, 1) := by decide +kernel
theorem dX12_readRoad_75 : decode cX12_readRoad 75 = .ok (.bipush 6, 2) := by decide +kernel
theorem dX12_readRoad_77 : decode cX12_readRoad 77 = .ok (.invokevirtual 159, 3) := by decide +kernel
theorem dX12_readRoad_80 : decode cX12_readRoad 80 = .ok (.istore_n 2, 1) := by decide +kernel
theorem dX12_readRoad_81 : decode cX12_readRoad 81 = .ok (.aload_n 0, 1) := by decide +kernel
theorem dX12_readRoad_82 : decode cX12_readRoad 82 = .ok (.bipush 6, 2) := by decide +kernel
theorem dX12_readRoad_84 : decode cX12_readRoad 84 = .ok (.invokevirtual 185, 3) := by decide +kernel
theorem dX12_readRoad_87 : decode cX12_readRoad 87 = .ok (.ifCond .ne 17, 3) := by decide +kernel
theorem dX12_readRoad_90 : decode cX12_readRoad 90 = .ok (.aload_n 0, 1) := by decide +kernel
theorem dX12_readRoad_91 : decode cX12_readRoad 91 = .ok (.bipush 7, 2) := by decide +kernel
theorem dX12_readRoad_93 : decode cX12_readRoad 93 = .ok (.invokevirtual 185, 3) := by decide +kernel
theorem dX12_readRoad_96 : decode cX12_readRoad 96 = .ok (.ifCond .ne 8, 3) := by decide +kernel
theorem dX12_readRoad_99 : decode cX12_readRoad 99 = .ok (.aload_n 0, 1) := by decide +kernel
theorem dX12_readRoad_100 : decode cX12_readRoad 100 = .ok (.iconst 2, 1) := by decide +kernel
theorem dX12_readRoad_101 : decode cX12_readRoad 101 = .ok (.invokevirtual 165, 3) := by decide +kernel
theorem dX12_readRoad_104 : decode cX12_readRoad 104 = .ok (.aload_n 0, 1) := by decide +kernel
theorem dX12_readRoad_105 : decode cX12_readRoad 105 = .ok (.iconst 0, 1) := by decide +kernel
theorem dX12_readRoad_106 : decode cX12_readRoad 106 = .ok (.bipush 99, 2) := by decide +kernel
theorem dX12_readRoad_108 : decode cX12_readRoad 108 = .ok (.invokevirtual 206, 3) := by decide +kernel
theorem dX12_readRoad_111 : decode cX12_readRoad 111 = .ok (.istore_n 3, 1) := by decide +kernel
theorem dX12_readRoad_112 : decode cX12_readRoad 112 = .ok (.aload_n 0, 1) := by decide +kernel
theorem dX12_readRoad_113 : decode cX12_readRoad 113 = .ok (.getfield 153, 3) := by decide +kernel
theorem dX12_readRoad_116 : decode cX12_readRoad 116 = .ok (.ifCond .eq 4, 3) := by decide +kernel
theorem dX12_readRoad_119 : decode cX12_readRoad 119 = .ok (.return_, 1) := by decide +kernel
theorem dX12_readRoad_120 : decode cX12_readRoad 120 = .ok (.aload_n 0, 1) := by decide +kernel
theorem dX12_readRoad_121 : decode cX12_readRoad 121 = .ok (.getfield 24, 3) := by decide +kernel
theorem dX12_readRoad_124 : decode cX12_readRoad 124 = .ok (.bipush 42, 2) := by decide +kernel
theorem dX12_readRoad_126 : decode cX12_readRoad 126 = .ok (.iload_n 1, 1) := by decide +kernel
theorem dX12_readRoad_127 : decode cX12_readRoad 127 = .ok (.iadd, 1) := by decide +kernel
theorem dX12_readRoad_128 : decode cX12_readRoad 128 = .ok (.iload_n 2, 1) := by decide +kernel
theorem dX12_readRoad_129 : decode cX12_readRoad 129 = .ok (.ifCond .eq 7, 3) := by decide +kernel
theorem dX12_readRoad_132 : decode cX12_readRoad 132 = .ok (.iload_n 3, 1) := by decide +kernel
theorem dX12_readRoad_133 : decode cX12_readRoad 133 = .ok (.goto 5, 3) := by decide +kernel
theorem dX12_readRoad_136 : decode cX12_readRoad 136 = .ok (.iload_n 3, 1) := by decide +kernel
theorem dX12_readRoad_137 : decode cX12_readRoad 137 = .ok (.ineg, 1) := by decide +kernel
theorem dX12_readRoad_138 : decode cX12_readRoad 138 = .ok (.iastore, 1) := by decide +kernel
theorem dX12_readRoad_139 : decode cX12_readRoad 139 = .ok (.aload_n 0, 1) := by decide +kernel
theorem dX12_readRoad_140 : decode cX12_readRoad 140 = .ok (.getfield 24, 3) := by decide +kernel
theorem dX12_readRoad_143 : decode cX12_readRoad 143 = .ok (.iconst 2, 1) := by decide +kernel
theorem dX12_readRoad_144 : decode cX12_readRoad 144 = .ok (.dup2, 1) := by decide +kernel
theorem dX12_readRoad_145 : decode cX12_readRoad 145 = .ok (.iaload, 1) := by decide +kernel
theorem dX12_readRoad_146 : decode cX12_readRoad 146 = .ok (.iconst 1, 1) := by decide +kernel
theorem dX12_readRoad_147 : decode cX12_readRoad 147 = .ok (.iadd, 1) := by decide +kernel
theorem dX12_readRoad_148 : decode cX12_readRoad 148 = .ok (.iastore, 1) := by decide +kernel
theorem dX12_readRoad_149 : decode cX12_readRoad 149 = .ok (.return_, 1) := by decide +kernel
theorem ml_X12_206 : Cond.methodLink RX12 206 yX12_takes ∈ Wd := mW 1567 (by decide +kernel) rfl
theorem mk_X12_takes : MokV yX12_takes cX12_takes 4 (some .int) 2 := ⟨⟨mW 14 (by decide +kernel) rfl, mW 1570 (by decide +kernel) rfl, ⟨by decide, by decide, by decide +kernel⟩, by decide⟩, mW 1569 (by decide +kernel) rfl, mS (q := (yX12_takes, 46)) 55 (by decide +kernel)⟩
def M_readRoad  (h : Hp) (Q : Hp → Prop) : Prop := ∀ v1 : Int32, v1 = (gI h 102 2) → ∀ J18 : Hp → Prop, J18 = (fun h2 => ((gI h2 98 11) = 0 → M_next  h2 (fun h3 => M_takes 0 ((gI h3 102 1) - 1) h3 (fun r4 h5 => vp_in ((10 : Int32) + v1) 1092 ∧ ∀ h6 : Hp, h6 = sI h5 102 (((10 : Int32) + v1)).toNatClampNeg r4 → M_takes 0 ((gI h6 102 1) - 1) h6 (fun r7 h8 => vp_in ((26 : Int32) + v1) 1092 ∧ ∀ h9 : Hp, h9 = sI h8 102 (((26 : Int32) + v1)).toNatClampNeg r7 → M_is 6 h9 (fun r10 h11 => M_eats 6 h11 (fun r12 h13 => ∀ J104 : Hp → Prop, J104 = (fun h14 => M_takes 0 99 h14 (fun r15 h16 => ((gI h16 98 11) = 0 → ∀ J138 : Int32 → Hp → Prop, J138 = (fun s17 h18 => vp_in ((42 : Int32) + v1) 1092 ∧ ∀ h19 : Hp, h19 = sI h18 102 (((42 : Int32) + v1)).toNatClampNeg s17 → ∀ h20 : Hp, h20 = sI h19 102 2 ((gI h19 102 2) + 1) → Q h20) → (r10 = 0 → J138 (-r15) h16) ∧ (¬ r10 = 0 → J138 r15 h16)) ∧ (¬ (gI h16 98 11) = 0 → Q h16))) → (¬ r12 = 0 → J104 h13) ∧ (r12 = 0 → M_eats 7 h13 (fun r21 h22 => (¬ r21 = 0 → J104 h22) ∧ (r21 = 0 → M_fails 2 h22 (fun h23 => J104 h23)))))))))) ∧ (¬ (gI h2 98 11) = 0 → Q h2)) → (¬ v1 = 16 → J18 h) ∧ (v1 = 16 → M_fails 4 h (fun h24 => J18 h24))
set_option maxHeartbeats 4000000 in
set_option maxRecDepth 20000 in
theorem c_M_readRoad {G : Gx}   {h : Hp} {Q : Hp → Prop} (hw : M_readRoad  h Q) : Ct yX12_readRoad cX12_readRoad 4 none 9 G [.ref (gAd G 98)] h (QV G Q) := by
  refine ct_go [(0, .ref (gAd G 98))] (plainFor_of_name (by decide)) rfl (Nat.le_of_ble_eq_true rfl) rfl ?_
  refine g_aload_n dX12_readRoad_0 rfl rfl ?_
  refine g_getA dX12_readRoad_1 fl_X12_24 sh98 rfl ?_
  refine g_iconst (v := 2) dX12_readRoad_4 (by decide) ?_
  refine g_ialdK dX12_readRoad_5 ia102 al102 (by unfold vp_in; decide) (k := 2) (by decide) ?_
  refine g_topi (fun v1 ev1 => ?_)
  have hw := hw v1 ev1
  refine g_istore_n dX12_readRoad_6 rfl (by decide) (lv1 := [(0, .ref (gAd G 98)), (1, .int v1)]) rfl ?_
  refine g_iload_n dX12_readRoad_7 rfl rfl ?_
  refine g_bipush (v := 16) dX12_readRoad_8 (by decide) ?_
  refine jn_el hw (fun J18 eJ18 hw => ?_)
  have hJ18 : ∀ (h2 : Hp), J18 h2 → Go cX12_readRoad 4 RX12 none 9 G (QV G Q) 18 [(0, .ref (gAd G 98)), (1, .int v1)] [] h2 := by
    intro h2 hw
    subst eJ18
    refine g_aload_n dX12_readRoad_18 rfl rfl ?_
    refine g_getI dX12_readRoad_19 fl_X12_153 sh98 rfl ?_
    refine g_if_eq 26 dX12_readRoad_22 rfl (fun hc => ?_) (fun hc => ?_)
    · have hw := hw.1 hc
      refine g_aload_n dX12_readRoad_26 rfl rfl ?_
      refine g_callVV [] (ci := 12) dX12_readRoad_27 ml_X12_162 mk_X12_next rfl rfl sh98 (Nat.le_of_ble_eq_true rfl) (Nat.le_of_ble_eq_true rfl) rfl (c_M_next hw) (fun h3 hw => ?_)
      refine g_aload_n dX12_readRoad_30 rfl rfl ?_
      refine g_getA dX12_readRoad_31 fl_X12_24 sh98 rfl ?_
      refine g_bipush (v := 10) dX12_readRoad_34 (by decide) ?_
      refine g_iload_n dX12_readRoad_36 rfl rfl ?_
      refine g_iadd dX12_readRoad_37 ?_
      refine g_aload_n dX12_readRoad_38 rfl rfl ?_
      refine g_iconst (v := 0) dX12_readRoad_39 (by decide) ?_
      refine g_aload_n dX12_readRoad_40 rfl rfl ?_
      refine g_getA dX12_readRoad_41 fl_X12_24 sh98 rfl ?_
      refine g_iconst (v := 1) dX12_readRoad_44 (by decide) ?_
      refine g_ialdK dX12_readRoad_45 ia102 al102 (by unfold vp_in; decide) (k := 1) (by decide) ?_
      refine g_iconst (v := 1) dX12_readRoad_46 (by decide) ?_
      refine g_isub dX12_readRoad_47 ?_
      refine g_callVI [.int 0, .int ((gI h3 102 1) - 1)] (ci := 12) dX12_readRoad_48 ml_X12_206 mk_X12_takes rfl rfl sh98 (Nat.le_of_ble_eq_true rfl) (Nat.le_of_ble_eq_true rfl) rfl (c_M_takes hw) (fun r4 h5 hw => ?_)
      refine g_iast dX12_readRoad_51 ia102 al102 hw.1 ?_
      have hw := hw.2
      refine g_heap (fun h6 eh6 => ?_)
      have hw := hw h6 eh6
      refine g_aload_n dX12_readRoad_52 rfl rfl ?_
      refine g_getA dX12_readRoad_53 fl_X12_24 sh98 rfl ?_
      refine g_bipush (v := 26) dX12_readRoad_56 (by decide) ?_
      refine g_iload_n dX12_readRoad_58 rfl rfl ?_
      refine g_iadd dX12_readRoad_59 ?_
      refine g_aload_n dX12_readRoad_60 rfl rfl ?_
      refine g_iconst (v := 0) dX12_readRoad_61 (by decide) ?_
      refine g_aload_n dX12_readRoad_62 rfl rfl ?_
      refine g_getA dX12_readRoad_63 fl_X12_24 sh98 rfl ?_
      refine g_iconst (v := 1) dX12_readRoad_66 (by decide) ?_
      refine g_ialdK dX12_readRoad_67 ia102 al102 (by unfold vp_in; decide) (k := 1) (by decide) ?_
      refine g_iconst (v := 1) dX12_readRoad_68 (by decide) ?_
      refine g_isub dX12_readRoad_69 ?_
      refine g_callVI [.int 0, .int ((gI h6 102 1) - 1)] (ci := 12) dX12_readRoad_70 ml_X12_206 mk_X12_takes rfl rfl sh98 (Nat.le_of_ble_eq_true rfl) (Nat.le_of_ble_eq_true rfl) rfl (c_M_takes hw) (fun r7 h8 hw => ?_)
      refine g_iast dX12_readRoad_73 ia102 al102 hw.1 ?_
      have hw := hw.2
      refine g_heap (fun h9 eh9 => ?_)
      have hw := hw h9 eh9
      refine g_aload_n dX12_readRoad_74 rfl rfl ?_
      refine g_bipush (v := 6) dX12_readRoad_75 (by decide) ?_
      refine g_callVI [.int 6] (ci := 12) dX12_readRoad_77 ml_X12_159 mk_X12_is rfl rfl sh98 (Nat.le_of_ble_eq_true rfl) (Nat.le_of_ble_eq_true rfl) rfl (c_M_is hw) (fun r10 h11 hw => ?_)
      refine g_istore_n dX12_readRoad_80 rfl (by decide) (lv1 := [(0, .ref (gAd G 98)), (1, .int v1), (2, .int r10)]) rfl ?_
      refine g_aload_n dX12_readRoad_81 rfl rfl ?_
      refine g_bipush (v := 6) dX12_readRoad_82 (by decide) ?_
      refine g_callVI [.int 6] (ci := 12) dX12_readRoad_84 ml_X12_185 mk_X12_eats rfl rfl sh98 (Nat.le_of_ble_eq_true rfl) (Nat.le_of_ble_eq_true rfl) rfl (c_M_eats hw) (fun r12 h13 hw => ?_)
      refine jn_el hw (fun J104 eJ104 hw => ?_)
      have hJ104 : ∀ (h14 : Hp), J104 h14 → Go cX12_readRoad 4 RX12 none 9 G (QV G Q) 104 [(0, .ref (gAd G 98)), (1, .int v1), (2, .int r10)] [] h14 := by
        intro h14 hw
        subst eJ104
        refine g_aload_n dX12_readRoad_104 rfl rfl ?_
        refine g_iconst (v := 0) dX12_readRoad_105 (by decide) ?_
        refine g_bipush (v := 99) dX12_readRoad_106 (by decide) ?_
        refine g_callVI [.int 0, .int 99] (ci := 12) dX12_readRoad_108 ml_X12_206 mk_X12_takes rfl rfl sh98 (Nat.le_of_ble_eq_true rfl) (Nat.le_of_ble_eq_true rfl) rfl (c_M_takes hw) (fun r15 h16 hw => ?_)
        refine g_istore_n dX12_readRoad_111 rfl (by decide) (lv1 := [(0, .ref (gAd G 98)), (1, .int v1), (2, .int r10), (3, .int r15)]) rfl ?_
        refine g_aload_n dX12_readRoad_112 rfl rfl ?_
        refine g_getI dX12_readRoad_113 fl_X12_153 sh98 rfl ?_
        refine g_if_eq 120 dX12_readRoad_116 rfl (fun hc => ?_) (fun hc => ?_)
        · have hw := hw.1 hc
          refine g_aload_n dX12_readRoad_120 rfl rfl ?_
          refine g_getA dX12_readRoad_121 fl_X12_24 sh98 rfl ?_
          refine g_bipush (v := 42) dX12_readRoad_124 (by decide) ?_
          refine g_iload_n dX12_readRoad_126 rfl rfl ?_
          refine g_iadd dX12_readRoad_127 ?_
          refine g_iload_n dX12_readRoad_128 rfl rfl ?_
          refine jn_el hw (fun J138 eJ138 hw => ?_)
          have hJ138 : ∀ (s17 : Int32) (h18 : Hp), J138 s17 h18 → Go cX12_readRoad 4 RX12 none 9 G (QV G Q) 138 [(0, .ref (gAd G 98))] [.int s17, .int ((42 : Int32) + v1), .ref (gAd G 102)] h18 := by
            intro s17 h18 hw
            subst eJ138
            refine g_iast dX12_readRoad_138 ia102 al102 hw.1 ?_
            have hw := hw.2
            refine g_heap (fun h19 eh19 => ?_)
            have hw := hw h19 eh19
            refine g_aload_n dX12_readRoad_139 rfl rfl ?_
            refine g_getA dX12_readRoad_140 fl_X12_24 sh98 rfl ?_
            refine g_iconst (v := 2) dX12_readRoad_143 (by decide) ?_
            refine g_dup2_11 dX12_readRoad_144 rfl rfl ?_
            refine g_ialdK dX12_readRoad_145 ia102 al102 (by unfold vp_in; decide) (k := 2) (by decide) ?_
            refine g_iconst (v := 1) dX12_readRoad_146 (by decide) ?_
            refine g_iadd dX12_readRoad_147 ?_
            refine g_iastK dX12_readRoad_148 ia102 al102 (by unfold vp_in; decide) (k := 2) (by decide) ?_
            refine g_heap (fun h20 eh20 => ?_)
            have hw := hw h20 eh20
            exact g_vret dX12_readRoad_149 hw
          refine g_if_eq 136 dX12_readRoad_129 rfl (fun hc => ?_) (fun hc => ?_)
          · have hw := hw.1 hc
            refine g_iload_n dX12_readRoad_136 rfl rfl ?_
            refine g_ineg dX12_readRoad_137 ?_
            refine g_lv [0] rfl ?_
            exact hJ138 _ _ hw
          · have hw := hw.2 hc
            refine g_iload_n dX12_readRoad_132 rfl rfl ?_
            refine g_goto 138 dX12_readRoad_133 rfl ?_
            refine g_lv [0] rfl ?_
            exact hJ138 _ _ hw
        · have hw := hw.2 hc
          exact g_vret dX12_readRoad_119 hw
      refine g_if_ne 104 dX12_readRoad_87 rfl (fun hc => ?_) (fun hc => ?_)
      · have hw := hw.1 hc
        exact hJ104 _ hw
      · have hw := hw.2 hc
        refine g_aload_n dX12_readRoad_90 rfl rfl ?_
        refine g_bipush (v := 7) dX12_readRoad_91 (by decide) ?_
        refine g_callVI [.int 7] (ci := 12) dX12_readRoad_93 ml_X12_185 mk_X12_eats rfl rfl sh98 (Nat.le_of_ble_eq_true rfl) (Nat.le_of_ble_eq_true rfl) rfl (c_M_eats hw) (fun r21 h22 hw => ?_)
        refine g_if_ne 104 dX12_readRoad_96 rfl (fun hc => ?_) (fun hc => ?_)
        · have hw := hw.1 hc
          exact hJ104 _ hw
        · have hw := hw.2 hc
          refine g_aload_n dX12_readRoad_99 rfl rfl ?_
          refine g_iconst (v := 2) dX12_readRoad_100 (by decide) ?_
          refine g_callVV [.int 2] (ci := 12) dX12_readRoad_101 ml_X12_165 mk_X12_fails rfl rfl sh98 (Nat.le_of_ble_eq_true rfl) (Nat.le_of_ble_eq_true rfl) rfl (c_M_fails hw) (fun h23 hw => ?_)
          exact hJ104 _ hw
    · have hw := hw.2 hc
      exact g_vret dX12_readRoad_25 hw
  refine g_icmp_ne 18 dX12_readRoad_10 rfl (fun hc => ?_) (fun hc => ?_)
  · have hw := hw.1 hc
    exact hJ18 _ hw
  · have hw := hw.2 hc
    refine g_aload_n dX12_readRoad_13 rfl rfl ?_
    refine g_iconst (v := 4) dX12_readRoad_14 (by decide) ?_
    refine g_callVV [.int 4] (ci := 12) dX12_readRoad_15 ml_X12_165 mk_X12_fails rfl rfl sh98 (Nat.le_of_ble_eq_true rfl) (Nat.le_of_ble_eq_true rfl) rfl (c_M_fails hw) (fun h24 hw => ?_)
    exact hJ18 _ hw
theorem dX12_codes_0 : decode cX12_codes 0 = .ok (.aload_n 0, 1) := by decide +kernel
theorem dX12_codes_1 : decode cX12_codes 1 = .ok (.getfield 153, 3) := by decide +kernel
theorem dX12_codes_4 : decode cX12_codes 4 = .ok (.ifCond .eq 4, 3) := by decide +kernel
theorem dX12_codes_7 : decode cX12_codes 7 = .ok (.return_, 1) := by decide +kernel
theorem dX12_codes_8 : decode cX12_codes 8 = .ok (.aload_n 0, 1) := by decide +kernel
theorem dX12_codes_9 : decode cX12_codes 9 = .ok (.getfield 24, 3) := by decide +kernel
theorem dX12_codes_12 : decode cX12_codes 12 = .ok (.sipush 192, 3) := by decide +kernel
theorem dX12_codes_15 : decode cX12_codes 15 = .ok (.aload_n 0, 1) := by decide +kernel
theorem dX12_codes_16 : decode cX12_codes 16 = .ok (.getfield 24, 3) := by decide +kernel
theorem dX12_codes_19 : decode cX12_codes 19 = .ok (.sipush 191, 3) := by decide +kernel
theorem dX12_codes_22 : decode cX12_codes 22 = .ok (.iaload, 1) := by decide +kernel
theorem dX12_codes_23 : decode cX12_codes 23 = .ok (.iadd, 1) := by decide +kernel
theorem dX12_codes_24 : decode cX12_codes 24 = .ok (.iload_n 1, 1) := by decide +kernel
theorem dX12_codes_25 : decode cX12_codes 25 = .ok (.iastore, 1) := by decide +kernel
theorem dX12_codes_26 : decode cX12_codes 26 = .ok (.aload_n 0, 1) := by decide +kernel
theorem dX12_codes_27 : decode cX12_codes 27 = .ok (.getfield 24, 3) := by decide +kernel
theorem dX12_codes_30 : decode cX12_codes 30 = .ok (.sipush 191, 3) := by decide +kernel
theorem dX12_codes_33 : decode cX12_codes 33 = .ok (.dup2, 1) := by decide +kernel
theorem dX12_codes_34 : decode cX12_codes 34 = .ok (.iaload, 1) := by decide +kernel
theorem dX12_codes_35 : decode cX12_codes 35 = .ok (.iconst 1, 1) := by decide +kernel
theorem dX12_codes_36 : decode cX12_codes 36 = .ok (.iadd, 1) := by decide +kernel
theorem dX12_codes_37 : decode cX12_codes 37 = .ok (.iastore, 1) := by decide +kernel
theorem dX12_codes_38 : decode cX12_codes 38 = .ok (.return_, 1) := by decide +kernel
def M_codes (x1 : Int32) (h : Hp) (Q : Hp → Prop) : Prop := ((gI h 98 11) = 0 → vp_in ((192 : Int32) + (gI h 102 191)) 1092 ∧ ∀ h1 : Hp, h1 = sI h 102 (((192 : Int32) + (gI h 102 191))).toNatClampNeg x1 → ∀ h2 : Hp, h2 = sI h1 102 191 ((gI h1 102 191) + 1) → Q h2) ∧ (¬ (gI h 98 11) = 0 → Q h)
set_option maxHeartbeats 4000000 in
set_option maxRecDepth 20000 in
theorem c_M_codes {G : Gx}  {x1 : Int32} {h : Hp} {Q : Hp → Prop} (hw : M_codes x1 h Q) : Ct yX12_codes cX12_codes 2 none 1 G [.ref (gAd G 98), .int x1] h (QV G Q) := by
  refine ct_go [(0, .ref (gAd G 98)), (1, .int x1)] (plainFor_of_name (by decide)) rfl (Nat.le_of_ble_eq_true rfl) rfl ?_
  refine g_aload_n dX12_codes_0 rfl rfl ?_
  refine g_getI dX12_codes_1 fl_X12_153 sh98 rfl ?_
  refine g_if_eq 8 dX12_codes_4 rfl (fun hc => ?_) (fun hc => ?_)
  · have hw := hw.1 hc
    refine g_aload_n dX12_codes_8 rfl rfl ?_
    refine g_getA dX12_codes_9 fl_X12_24 sh98 rfl ?_
    refine g_sipush (v := 192) dX12_codes_12 (by decide) ?_
    refine g_aload_n dX12_codes_15 rfl rfl ?_
    refine g_getA dX12_codes_16 fl_X12_24 sh98 rfl ?_
    refine g_sipush (v := 191) dX12_codes_19 (by decide) ?_
    refine g_ialdK dX12_codes_22 ia102 al102 (by unfold vp_in; decide) (k := 191) (by decide) ?_
    refine g_iadd dX12_codes_23 ?_
    refine g_iload_n dX12_codes_24 rfl rfl ?_
    refine g_iast dX12_codes_25 ia102 al102 hw.1 ?_
    have hw := hw.2
    refine g_heap (fun h1 eh1 => ?_)
    have hw := hw h1 eh1
    refine g_aload_n dX12_codes_26 rfl rfl ?_
    refine g_getA dX12_codes_27 fl_X12_24 sh98 rfl ?_
    refine g_sipush (v := 191) dX12_codes_30 (by decide) ?_
    refine g_dup2_11 dX12_codes_33 rfl rfl ?_
    refine g_ialdK dX12_codes_34 ia102 al102 (by unfold vp_in; decide) (k := 191) (by decide) ?_
    refine g_iconst (v := 1) dX12_codes_35 (by decide) ?_
    refine g_iadd dX12_codes_36 ?_
    refine g_iastK dX12_codes_37 ia102 al102 (by unfold vp_in; decide) (k := 191) (by decide) ?_
    refine g_heap (fun h2 eh2 => ?_)
    have hw := hw h2 eh2
    exact g_vret dX12_codes_38 hw
  · have hw := hw.2 hc
    exact g_vret dX12_codes_7 hw
theorem dX12_wordOf_0 : decode cX12_wordOf 0 = .ok (.iload_n 0, 1) := by decide +kernel
theorem dX12_wordOf_1 : decode cX12_wordOf 1 = .ok (.lookupswitch 61 #[(1, 59), (5, 57), (14, 51), (15, 53), (16, 55)], 51) := by decide +kernel
theorem dX12_wordOf_52 : decode cX12_wordOf 52 = .ok (.iconst 0, 1) := by decide +kernel
theorem dX12_wordOf_53 : decode cX12_wordOf 53 = .ok (.ireturn, 1) := by decide +kernel
theorem dX12_wordOf_54 : decode cX12_wordOf 54 = .ok (.iconst 1, 1) := by decide +kernel
theorem dX12_wordOf_55 : decode cX12_wordOf 55 = .ok (.ireturn, 1) := by decide +kernel
theorem dX12_wordOf_56 : decode cX12_wordOf 56 = .ok (.iconst 2, 1) := by decide +kernel
theorem dX12_wordOf_57 : decode cX12_wordOf 57 = .ok (.ireturn, 1) := by decide +kernel
theorem dX12_wordOf_58 : decode cX12_wordOf 58 = .ok (.iconst 3, 1) := by decide +kernel
theorem dX12_wordOf_59 : decode cX12_wordOf 59 = .ok (.ireturn, 1) := by decide +kernel
theorem dX12_wordOf_60 : decode cX12_wordOf 60 = .ok (.iconst 4, 1) := by decide +kernel
theorem dX12_wordOf_61 : decode cX12_wordOf 61 = .ok (.ireturn, 1) := by decide +kernel
theorem dX12_wordOf_62 : decode cX12_wordOf 62 = .ok (.iconst (-1), 1) := by decide +kernel
theorem dX12_wordOf_63 : decode cX12_wordOf 63 = .ok (.ireturn, 1) := by decide +kernel
def M_wordOf (x0 : Int32) (h : Hp) (Q : Int32 → Hp → Prop) : Prop := (x0 = 1 → Q 4 h) ∧ (x0 = 5 → Q 3 h) ∧ (x0 = 14 → Q 0 h) ∧ (x0 = 15 → Q 1 h) ∧ (x0 = 16 → Q 2 h) ∧ (¬ x0 = 1 ∧ ¬ x0 = 5 ∧ ¬ x0 = 14 ∧ ¬ x0 = 15 ∧ ¬ x0 = 16 → Q (-1) h)
set_option maxHeartbeats 4000000 in
set_option maxRecDepth 20000 in
theorem c_M_wordOf {G : Gx}  {x0 : Int32} {h : Hp} {Q : Int32 → Hp → Prop} (hw : M_wordOf x0 h Q) : Ct yX12_wordOf cX12_wordOf 1 (some .int) 1 G [.int x0] h (QI G Q) := by
  refine ct_go [(0, .int x0)] (plainFor_of_name (by decide)) rfl (Nat.le_of_ble_eq_true rfl) rfl ?_
  refine g_iload_n dX12_wordOf_0 rfl rfl ?_
  by_cases hc0 : x0 = 1
  · have hw := hw.1 hc0
    refine g_lsw 60 dX12_wordOf_1 (by decide) (off := 59) (by rw [hc0]; decide) rfl ?_
    refine g_iconst (v := 4) dX12_wordOf_60 (by decide) ?_
    exact g_iret dX12_wordOf_61 hw
  by_cases hc1 : x0 = 5
  · have hw := hw.2.1 hc1
    refine g_lsw 58 dX12_wordOf_1 (by decide) (off := 57) (by rw [hc1]; decide) rfl ?_
    refine g_iconst (v := 3) dX12_wordOf_58 (by decide) ?_
    exact g_iret dX12_wordOf_59 hw
  by_cases hc2 : x0 = 14
  · have hw := hw.2.2.1 hc2
    refine g_lsw 52 dX12_wordOf_1 (by decide) (off := 51) (by rw [hc2]; decide) rfl ?_
    refine g_iconst (v := 0) dX12_wordOf_52 (by decide) ?_
    exact g_iret dX12_wordOf_53 hw
  by_cases hc3 : x0 = 15
  · have hw := hw.2.2.2.1 hc3
    refine g_lsw 54 dX12_wordOf_1 (by decide) (off := 53) (by rw [hc3]; decide) rfl ?_
    refine g_iconst (v := 1) dX12_wordOf_54 (by decide) ?_
    exact g_iret dX12_wordOf_55 hw
  by_cases hc4 : x0 = 16
  · have hw := hw.2.2.2.2.1 hc4
    refine g_lsw 56 dX12_wordOf_1 (by decide) (off := 55) (by rw [hc4]; decide) rfl ?_
    refine g_iconst (v := 2) dX12_wordOf_56 (by decide) ?_
    exact g_iret dX12_wordOf_57 hw
  have hw := hw.2.2.2.2.2 ⟨hc0, hc1, hc2, hc3, hc4⟩
  refine g_lsw 62 dX12_wordOf_1 (by decide) (off := 61) (by show Op.lookupswitch.offset [(1, 59), (5, 57), (14, 51), (15, 53), (16, 55)] _ _ = _; rw [Op.lookupswitch.offset_cons, if_neg (fun e => hc0 (tsw_eq e.symm (by decide))), Op.lookupswitch.offset_cons, if_neg (fun e => hc1 (tsw_eq e.symm (by decide))), Op.lookupswitch.offset_cons, if_neg (fun e => hc2 (tsw_eq e.symm (by decide))), Op.lookupswitch.offset_cons, if_neg (fun e => hc3 (tsw_eq e.symm (by decide))), Op.lookupswitch.offset_cons, if_neg (fun e => hc4 (tsw_eq e.symm (by decide))), Op.lookupswitch.offset_nil]) rfl ?_
  refine g_iconst (v := (-1)) dX12_wordOf_62 (by decide) ?_
  exact g_iret dX12_wordOf_63 hw
theorem dX12_goesIn_0 : decode cX12_goesIn 0 = .ok (.iload_n 1, 1) := by decide +kernel
theorem dX12_goesIn_1 : decode cX12_goesIn 1 = .ok (.bipush 6, 2) := by decide +kernel
theorem dX12_goesIn_3 : decode cX12_goesIn 3 = .ok (.if_icmp .ne 8, 3) := by decide +kernel
theorem dX12_goesIn_6 : decode cX12_goesIn 6 = .ok (.aload_n 0, 1) := by decide +kernel
theorem dX12_goesIn_7 : decode cX12_goesIn 7 = .ok (.iconst 4, 1) := by decide +kernel
theorem dX12_goesIn_8 : decode cX12_goesIn 8 = .ok (.invokevirtual 165, 3) := by decide +kernel
theorem dX12_goesIn_11 : decode cX12_goesIn 11 = .ok (.aload_n 0, 1) := by decide +kernel
theorem dX12_goesIn_12 : decode cX12_goesIn 12 = .ok (.getfield 153, 3) := by decide +kernel
theorem dX12_goesIn_15 : decode cX12_goesIn 15 = .ok (.ifCond .ne 7, 3) := by decide +kernel
theorem dX12_goesIn_18 : decode cX12_goesIn 18 = .ok (.aload_n 0, 1) := by decide +kernel
theorem dX12_goesIn_19 : decode cX12_goesIn 19 = .ok (.invokevirtual 162, 3) := by decide +kernel
theorem dX12_goesIn_22 : decode cX12_goesIn 22 = .ok (.aload_n 0, 1) := by decide +kernel
theorem dX12_goesIn_23 : decode cX12_goesIn 23 = .ok (.getfield 153, 3) := by decide +kernel
theorem dX12_goesIn_26 : decode cX12_goesIn 26 = .ok (.ifCond .ne 7, 3) := by decide +kernel
theorem dX12_goesIn_29 : decode cX12_goesIn 29 = .ok (.iconst 1, 1) := by decide +kernel
theorem dX12_goesIn_30 : decode cX12_goesIn 30 = .ok (.goto 4, 3) := by decide +kernel
theorem dX12_goesIn_33 : decode cX12_goesIn 33 = .ok (.iconst 0, 1) := by decide +kernel
theorem dX12_goesIn_34 : decode cX12_goesIn 34 = .ok (.ireturn, 1) := by decide +kernel
def M_goesIn (x1 : Int32) (h : Hp) (Q : Int32 → Hp → Prop) : Prop := ∀ J11 : Hp → Prop, J11 = (fun h1 => ∀ J22 : Hp → Prop, J22 = (fun h2 => (¬ (gI h2 98 11) = 0 → Q 0 h2) ∧ ((gI h2 98 11) = 0 → Q 1 h2)) → (¬ (gI h1 98 11) = 0 → J22 h1) ∧ ((gI h1 98 11) = 0 → M_next  h1 (fun h3 => J22 h3))) → (¬ x1 = 6 → J11 h) ∧ (x1 = 6 → M_fails 4 h (fun h4 => J11 h4))
set_option maxHeartbeats 4000000 in
set_option maxRecDepth 20000 in
theorem c_M_goesIn {G : Gx}  {x1 : Int32} {h : Hp} {Q : Int32 → Hp → Prop} (hw : M_goesIn x1 h Q) : Ct yX12_goesIn cX12_goesIn 2 (some .boolean) 8 G [.ref (gAd G 98), .int x1] h (QI G Q) := by
  refine ct_go [(0, .ref (gAd G 98)), (1, .int x1)] (plainFor_of_name (by decide)) rfl (Nat.le_of_ble_eq_true rfl) rfl ?_
  refine g_iload_n dX12_goesIn_0 rfl rfl ?_
  refine g_bipush (v := 6) dX12_goesIn_1 (by decide) ?_
  refine jn_el hw (fun J11 eJ11 hw => ?_)
  have hJ11 : ∀ (h1 : Hp), J11 h1 → Go cX12_goesIn 2 RX12 (some .boolean) 8 G (QI G Q) 11 [(0, .ref (gAd G 98))] [] h1 := by
    intro h1 hw
    subst eJ11
    refine g_aload_n dX12_goesIn_11 rfl rfl ?_
    refine g_getI dX12_goesIn_12 fl_X12_153 sh98 rfl ?_
    refine jn_el hw (fun J22 eJ22 hw => ?_)
    have hJ22 : ∀ (h2 : Hp), J22 h2 → Go cX12_goesIn 2 RX12 (some .boolean) 8 G (QI G Q) 22 [(0, .ref (gAd G 98))] [] h2 := by
      intro h2 hw
      subst eJ22
      refine g_aload_n dX12_goesIn_22 rfl rfl ?_
      refine g_getI dX12_goesIn_23 fl_X12_153 sh98 rfl ?_
      refine g_if_ne 33 dX12_goesIn_26 rfl (fun hc => ?_) (fun hc => ?_)
      · have hw := hw.1 hc
        refine g_iconst (v := 0) dX12_goesIn_33 (by decide) ?_
        exact g_zret dX12_goesIn_34 rfl hw
      · have hw := hw.2 hc
        refine g_iconst (v := 1) dX12_goesIn_29 (by decide) ?_
        refine g_goto 34 dX12_goesIn_30 rfl ?_
        exact g_zret dX12_goesIn_34 rfl hw
    refine g_if_ne 22 dX12_goesIn_15 rfl (fun hc => ?_) (fun hc => ?_)
    · have hw := hw.1 hc
      exact hJ22 _ hw
    · have hw := hw.2 hc
      refine g_aload_n dX12_goesIn_18 rfl rfl ?_
      refine g_callVV [] (ci := 12) dX12_goesIn_19 ml_X12_162 mk_X12_next rfl rfl sh98 (Nat.le_of_ble_eq_true rfl) (Nat.le_of_ble_eq_true rfl) rfl (c_M_next hw) (fun h3 hw => ?_)
      exact hJ22 _ hw
  refine g_icmp_ne 11 dX12_goesIn_3 rfl (fun hc => ?_) (fun hc => ?_)
  · have hw := hw.1 hc
    refine g_lv [0] rfl ?_
    exact hJ11 _ hw
  · have hw := hw.2 hc
    refine g_aload_n dX12_goesIn_6 rfl rfl ?_
    refine g_iconst (v := 4) dX12_goesIn_7 (by decide) ?_
    refine g_callVV [.int 4] (ci := 12) dX12_goesIn_8 ml_X12_165 mk_X12_fails rfl rfl sh98 (Nat.le_of_ble_eq_true rfl) (Nat.le_of_ble_eq_true rfl) rfl (c_M_fails hw) (fun h4 hw => ?_)
    refine g_lv [0] rfl ?_
    exact hJ11 _ hw
theorem dX12_readUnit_0 : decode cX12_readUnit 0 = .ok (.aload_n 0, 1) := by decide +kernel
theorem dX12_readUnit_1 : decode cX12_readUnit 1 = .ok (.bipush 19, 2) := by decide +kernel
theorem dX12_readUnit_3 : decode cX12_readUnit 3 = .ok (.invokevirtual 159, 3) := by decide +kernel
theorem dX12_readUnit_6 : decode cX12_readUnit 6 = .ok (.ifCond .eq 27, 3) := by decide +kernel
theorem dX12_readUnit_9 : decode cX12_readUnit 9 = .ok (.aload_n 0, 1) := by decide +kernel
theorem dX12_readUnit_10 : decode cX12_readUnit 10 = .ok (.iload_n 1, 1) := by decide +kernel
theorem dX12_readUnit_11 : decode cX12_readUnit 11 = .ok (.invokevirtual 179, 3) := by decide +kernel
theorem dX12_readUnit_14 : decode cX12_readUnit 14 = .ok (.ifCond .ne 4, 3) := by decide +kernel
theorem dX12_readUnit_17 : decode cX12_readUnit 17 = .ok (.return_, 1) := by decide +kernel
theorem dX12_readUnit_18 : decode cX12_readUnit 18 = .ok (.aload_n 0, 1) := by decide +kernel
theorem dX12_readUnit_19 : decode cX12_readUnit 19 = .ok (.iload_n 1, 1) := by decide +kernel
theorem dX12_readUnit_20 : decode cX12_readUnit 20 = .ok (.iconst 1, 1) := by decide +kernel
theorem dX12_readUnit_21 : decode cX12_readUnit 21 = .ok (.iadd, 1) := by decide +kernel
theorem dX12_readUnit_22 : decode cX12_readUnit 22 = .ok (.invokevirtual 200, 3) := by decide +kernel
theorem dX12_readUnit_25 : decode cX12_readUnit 25 = .ok (.aload_n 0, 1) := by decide +kernel
theorem dX12_readUnit_26 : decode cX12_readUnit 26 = .ok (.sipush 3006, 3) := by decide +kernel
theorem dX12_readUnit_29 : decode cX12_readUnit 29 = .ok (.invokevirtual 173, 3) := by decide +kernel
theorem dX12_readUnit_32 : decode cX12_readUnit 32 = .ok (.return_, 1) := by decide +kernel
theorem dX12_readUnit_33 : decode cX12_readUnit 33 = .ok (.aload_n 0, 1) := by decide +kernel
theorem dX12_readUnit_34 : decode cX12_readUnit 34 = .ok (.bipush 37, 2) := by decide +kernel
theorem dX12_readUnit_36 : decode cX12_readUnit 36 = .ok (.invokevirtual 159, 3) := by decide +kernel
theorem dX12_readUnit_39 : decode cX12_readUnit 39 = .ok (.ifCond .eq 34, 3) := by decide +kernel
theorem dX12_readUnit_42 : decode cX12_readUnit 42 = .ok (.aload_n 0, 1) := by decide +kernel
theorem dX12_readUnit_43 : decode cX12_readUnit 43 = .ok (.iload_n 1, 1) := by decide +kernel
theorem dX12_readUnit_44 : decode cX12_readUnit 44 = .ok (.invokevirtual 179, 3) := by decide +kernel
theorem dX12_readUnit_47 : decode cX12_readUnit 47 = .ok (.ifCond .ne 4, 3) := by decide +kernel
theorem dX12_readUnit_50 : decode cX12_readUnit 50 = .ok (.return_, 1) := by decide +kernel
theorem dX12_readUnit_51 : decode cX12_readUnit 51 = .ok (.aload_n 0, 1) := by decide +kernel
theorem dX12_readUnit_52 : decode cX12_readUnit 52 = .ok (.iload_n 1, 1) := by decide +kernel
theorem dX12_readUnit_53 : decode cX12_readUnit 53 = .ok (.iconst 1, 1) := by decide +kernel
theorem dX12_readUnit_54 : decode cX12_readUnit 54 = .ok (.iadd, 1) := by decide +kernel
theorem dX12_readUnit_55 : decode cX12_readUnit 55 = .ok (.invokevirtual 191, 3) := by decide +kernel
theorem dX12_readUnit_58 : decode cX12_readUnit 58 = .ok (.aload_n 0, 1) := by decide +kernel
theorem dX12_readUnit_59 : decode cX12_readUnit 59 = .ok (.bipush 38, 2) := by decide +kernel
theorem dX12_readUnit_61 : decode cX12_readUnit 61 = .ok (.invokevirtual 185, 3) := by decide +kernel
theorem dX12_readUnit_64 : decode cX12_readUnit 64 = .ok (.ifCond .ne 8, 3) := by decide +kernel
theorem dX12_readUnit_67 : decode cX12_readUnit 67 = .ok (.aload_n 0, 1) := by decide +kernel
theorem dX12_readUnit_68 : decode cX12_readUnit 68 = .ok (.iconst 2, 1) := by decide +kernel
theorem dX12_readUnit_69 : decode cX12_readUnit 69 = .ok (.invokevirtual 165, 3) := by decide +kernel
theorem dX12_readUnit_72 : decode cX12_readUnit 72 = .ok (.return_, 1) := by decide +kernel
theorem dX12_readUnit_73 : decode cX12_readUnit 73 = .ok (.aload_n 0, 1) := by decide +kernel
theorem dX12_readUnit_74 : decode cX12_readUnit 74 = .ok (.iload_n 1, 1) := by decide +kernel
theorem dX12_readUnit_75 : decode cX12_readUnit 75 = .ok (.invokevirtual 182, 3) := by decide +kernel
theorem dX12_readUnit_78 : decode cX12_readUnit 78 = .ok (.aload_n 0, 1) := by decide +kernel
theorem dX12_readUnit_79 : decode cX12_readUnit 79 = .ok (.bipush 39, 2) := by decide +kernel
theorem dX12_readUnit_81 : decode cX12_readUnit 81 = .ok (.invokevirtual 159, 3) := by decide +kernel
theorem dX12_readUnit_84 : decode cX12_readUnit 84 = .ok (.ifCond .eq 9, 3) := by decide +kernel
theorem dX12_readUnit_87 : decode cX12_readUnit 87 = .ok (.sipush 3003, 3) := by decide +kernel
theorem dX12_readUnit_90 : decode cX12_readUnit 90 = .ok (.goto 21, 3) := by decide +kernel
theorem dX12_readUnit_93 : decode cX12_readUnit 93 = .ok (.aload_n 0, 1) := by decide +kernel
theorem dX12_readUnit_94 : decode cX12_readUnit 94 = .ok (.bipush 40, 2) := by decide +kernel
theorem dX12_readUnit_96 : decode cX12_readUnit 96 = .ok (.invokevirtual 159, 3) := by decide +kernel
theorem dX12_readUnit_99 : decode cX12_readUnit 99 = .ok (.ifCond .eq 9, 3) := by decide +kernel
theorem dX12_readUnit_102 : decode cX12_readUnit 102 = .ok (.sipush 3004, 3) := by decide +kernel
theorem dX12_readUnit_105 : decode cX12_readUnit 105 = .ok (.goto 6, 3) := by decide +kernel
theorem dX12_readUnit_108 : decode cX12_readUnit 108 = .ok (.sipush 3005, 3) := by decide +kernel
theorem dX12_readUnit_111 : decode cX12_readUnit 111 = .ok (.istore_n 2, 1) := by decide +kernel
theorem dX12_readUnit_112 : decode cX12_readUnit 112 = .ok (.aload_n 0, 1) := by decide +kernel
theorem dX12_readUnit_113 : decode cX12_readUnit 113 = .ok (.bipush 39, 2) := by decide +kernel
theorem dX12_readUnit_115 : decode cX12_readUnit 115 = .ok (.invokevirtual 159, 3) := by decide +kernel
theorem dX12_readUnit_118 : decode cX12_readUnit 118 = .ok (.ifCond .ne 21, 3) := by decide +kernel
theorem dX12_readUnit_121 : decode cX12_readUnit 121 = .ok (.aload_n 0, 1) := by decide +kernel
theorem dX12_readUnit_122 : decode cX12_readUnit 122 = .ok (.bipush 40, 2) := by decide +kernel
theorem dX12_readUnit_124 : decode cX12_readUnit 124 = .ok (.invokevirtual 159, 3) := by decide +kernel
theorem dX12_readUnit_127 : decode cX12_readUnit 127 = .ok (.ifCond .ne 12, 3) := by decide +kernel
theorem dX12_readUnit_130 : decode cX12_readUnit 130 = .ok (.aload_n 0, 1) := by decide +kernel
theorem dX12_readUnit_131 : decode cX12_readUnit 131 = .ok (.bipush 41, 2) := by decide +kernel
theorem dX12_readUnit_133 : decode cX12_readUnit 133 = .ok (.invokevirtual 159, 3) := by decide +kernel
theorem dX12_readUnit_136 : decode cX12_readUnit 136 = .ok (.ifCond .eq 10, 3) := by decide +kernel
theorem dX12_readUnit_139 : decode cX12_readUnit 139 = .ok (.aload_n 0, 1) := by decide +kernel
theorem dX12_readUnit_140 : decode cX12_readUnit 140 = .ok (.invokevirtual 162, 3) := by decide +kernel
theorem dX12_readUnit_143 : decode cX12_readUnit 143 = .ok (.goto 8, 3) := by decide +kernel
theorem dX12_readUnit_146 : decode cX12_readUnit 146 = .ok (.aload_n 0, 1) := by decide +kernel
theorem dX12_readUnit_147 : decode cX12_readUnit 147 = .ok (.iconst 2, 1) := by decide +kernel
theorem dX12_readUnit_148 : decode cX12_readUnit 148 = .ok (.invokevirtual 165, 3) := by decide +kernel
theorem dX12_readUnit_151 : decode cX12_readUnit 151 = .ok (.aload_n 0, 1) := by decide +kernel
theorem dX12_readUnit_152 : decode cX12_readUnit 152 = .ok (.iload_n 1, 1) := by decide +kernel
theorem dX12_readUnit_153 : decode cX12_readUnit 153 = .ok (.invokevirtual 182, 3) := by decide +kernel
theorem dX12_readUnit_156 : decode cX12_readUnit 156 = .ok (.aload_n 0, 1) := by decide +kernel
theorem dX12_readUnit_157 : decode cX12_readUnit 157 = .ok (.iload_n 2, 1) := by decide +kernel
theorem dX12_readUnit_158 : decode cX12_readUnit 158 = .ok (.invokevirtual 173, 3) := by decide +kernel
theorem dX12_readUnit_161 : decode cX12_readUnit 161 = .ok (.return_, 1) := by decide +kernel
theorem ml_X12_182 : Cond.methodLink RX12 182 yX12_readSum ∈ Wd := mW 1591 (by decide +kernel) rfl
theorem mk_X12_readSum : MokV yX12_readSum cX12_readSum 3 none 1 := ⟨⟨mW 14 (by decide +kernel) rfl, mW 1594 (by decide +kernel) rfl, ⟨by decide, by decide, by decide +kernel⟩, by decide⟩, mW 1593 (by decide +kernel) rfl, mS (q := (yX12_readSum, 46)) 61 (by decide +kernel)⟩
theorem ml_X12_173 : Cond.methodLink RX12 173 yX12_codes ∈ Wd := mW 1603 (by decide +kernel) rfl
theorem mk_X12_codes : MokV yX12_codes cX12_codes 2 none 1 := ⟨⟨mW 14 (by decide +kernel) rfl, mW 1606 (by decide +kernel) rfl, ⟨by decide, by decide, by decide +kernel⟩, by decide⟩, mW 1605 (by decide +kernel) rfl, mS (q := (yX12_codes, 46)) 64 (by decide +kernel)⟩
theorem ml_X12_179 : Cond.methodLink RX12 179 yX12_goesIn ∈ Wd := mW 1610 (by decide +kernel) rfl
theorem mk_X12_goesIn : MokV yX12_goesIn cX12_goesIn 2 (some .boolean) 1 := ⟨⟨mW 14 (by decide +kernel) rfl, mW 1613 (by decide +kernel) rfl, ⟨by decide, by decide, by decide +kernel⟩, by decide⟩, mW 1612 (by decide +kernel) rfl, mS (q := (yX12_goesIn, 46)) 65 (by decide +kernel)⟩
theorem ml_X12_191 : Cond.methodLink RX12 191 yX12_readTruth ∈ Wd := mW 1618 (by decide +kernel) rfl
theorem mk_X12_readTruth : MokV yX12_readTruth cX12_readTruth 2 none 1 := ⟨⟨mW 14 (by decide +kernel) rfl, mW 1621 (by decide +kernel) rfl, ⟨by decide, by decide, by decide +kernel⟩, by decide⟩, mW 1620 (by decide +kernel) rfl, mS (q := (yX12_readTruth, 46)) 67 (by decide +kernel)⟩
theorem ml_X12_200 : Cond.methodLink RX12 200 yX12_readUnit ∈ Wd := mW 1626 (by decide +kernel) rfl
theorem mk_X12_readUnit : MokV yX12_readUnit cX12_readUnit 3 none 1 := ⟨⟨mW 14 (by decide +kernel) rfl, mW 1629 (by decide +kernel) rfl, ⟨by decide, by decide, by decide +kernel⟩, by decide⟩, mW 1628 (by decide +kernel) rfl, mS (q := (yX12_readUnit, 46)) 69 (by decide +kernel)⟩
def M_readUnit_B  (R_readAtom : Int32 → Hp → (Hp → Prop) → Prop) (R_readBoth : Int32 → Hp → (Hp → Prop) → Prop) (R_readIf : Int32 → Hp → (Hp → Prop) → Prop) (R_readSum : Int32 → Hp → (Hp → Prop) → Prop) (R_readTerm : Int32 → Hp → (Hp → Prop) → Prop) (R_readTruth : Int32 → Hp → (Hp → Prop) → Prop) (R_readUnit : Int32 → Hp → (Hp → Prop) → Prop) (x1 : Int32) (h : Hp) (Q : Hp → Prop) : Prop := M_is 19 h (fun r1 h2 => (r1 = 0 → M_is 37 h2 (fun r3 h4 => (r3 = 0 → R_readSum x1 h4 (fun h5 => M_is 39 h5 (fun r6 h7 => ∀ J111 : Int32 → Hp → Prop, J111 = (fun s8 h9 => M_is 39 h9 (fun r10 h11 => ∀ J151 : Hp → Prop, J151 = (fun h12 => R_readSum x1 h12 (fun h13 => M_codes s8 h13 (fun h14 => Q h14))) → ∀ J139 : Hp → Prop, J139 = (fun h15 => M_next  h15 (fun h16 => J151 h16)) → (¬ r10 = 0 → J139 h11) ∧ (r10 = 0 → M_is 40 h11 (fun r17 h18 => (¬ r17 = 0 → J139 h18) ∧ (r17 = 0 → M_is 41 h18 (fun r19 h20 => (r19 = 0 → M_fails 2 h20 (fun h21 => J151 h21)) ∧ (¬ r19 = 0 → J139 h20))))))) → (r6 = 0 → M_is 40 h7 (fun r22 h23 => (r22 = 0 → J111 3005 h23) ∧ (¬ r22 = 0 → J111 3004 h23))) ∧ (¬ r6 = 0 → J111 3003 h7)))) ∧ (¬ r3 = 0 → M_goesIn x1 h4 (fun r24 h25 => (¬ r24 = 0 → R_readTruth (x1 + 1) h25 (fun h26 => M_eats 38 h26 (fun r27 h28 => (¬ r27 = 0 → Q h28) ∧ (r27 = 0 → M_fails 2 h28 (fun h29 => Q h29))))) ∧ (r24 = 0 → Q h25))))) ∧ (¬ r1 = 0 → M_goesIn x1 h2 (fun r30 h31 => (¬ r30 = 0 → R_readUnit (x1 + 1) h31 (fun h32 => M_codes 3006 h32 (fun h33 => Q h33))) ∧ (r30 = 0 → Q h31))))
set_option maxHeartbeats 4000000 in
set_option maxRecDepth 20000 in
theorem cb_M_readUnit {G : Gx}  {d d1 : Nat} (hdd : d1 + 1 ≤ d) (hD : 9 ≤ d) {R_readAtom : Int32 → Hp → (Hp → Prop) → Prop} {R_readBoth : Int32 → Hp → (Hp → Prop) → Prop} {R_readIf : Int32 → Hp → (Hp → Prop) → Prop} {R_readSum : Int32 → Hp → (Hp → Prop) → Prop} {R_readTerm : Int32 → Hp → (Hp → Prop) → Prop} {R_readTruth : Int32 → Hp → (Hp → Prop) → Prop} {R_readUnit : Int32 → Hp → (Hp → Prop) → Prop} (hR_readAtom : ∀ (y0 : Int32) (h : Hp) (Q : Hp → Prop), R_readAtom y0 h Q → Ct yX12_readAtom cX12_readAtom 2 none d1 G [.ref (gAd G 98), .int y0] h (QV G Q)) (hR_readBoth : ∀ (y0 : Int32) (h : Hp) (Q : Hp → Prop), R_readBoth y0 h Q → Ct yX12_readBoth cX12_readBoth 2 none d1 G [.ref (gAd G 98), .int y0] h (QV G Q)) (hR_readIf : ∀ (y0 : Int32) (h : Hp) (Q : Hp → Prop), R_readIf y0 h Q → Ct yX12_readIf cX12_readIf 2 none d1 G [.ref (gAd G 98), .int y0] h (QV G Q)) (hR_readSum : ∀ (y0 : Int32) (h : Hp) (Q : Hp → Prop), R_readSum y0 h Q → Ct yX12_readSum cX12_readSum 3 none d1 G [.ref (gAd G 98), .int y0] h (QV G Q)) (hR_readTerm : ∀ (y0 : Int32) (h : Hp) (Q : Hp → Prop), R_readTerm y0 h Q → Ct yX12_readTerm cX12_readTerm 2 none d1 G [.ref (gAd G 98), .int y0] h (QV G Q)) (hR_readTruth : ∀ (y0 : Int32) (h : Hp) (Q : Hp → Prop), R_readTruth y0 h Q → Ct yX12_readTruth cX12_readTruth 2 none d1 G [.ref (gAd G 98), .int y0] h (QV G Q)) (hR_readUnit : ∀ (y0 : Int32) (h : Hp) (Q : Hp → Prop), R_readUnit y0 h Q → Ct yX12_readUnit cX12_readUnit 3 none d1 G [.ref (gAd G 98), .int y0] h (QV G Q)) {x1 : Int32} {h : Hp} {Q : Hp → Prop} (hw : M_readUnit_B  R_readAtom R_readBoth R_readIf R_readSum R_readTerm R_readTruth R_readUnit x1 h Q) : Ct yX12_readUnit cX12_readUnit 3 none d G [.ref (gAd G 98), .int x1] h (QV G Q) := by
  refine ct_go [(0, .ref (gAd G 98)), (1, .int x1)] (plainFor_of_name (by decide)) rfl (Nat.le_of_ble_eq_true rfl) rfl ?_
  refine g_aload_n dX12_readUnit_0 rfl rfl ?_
  refine g_bipush (v := 19) dX12_readUnit_1 (by decide) ?_
  refine g_callVI [.int 19] (ci := 12) dX12_readUnit_3 ml_X12_159 mk_X12_is rfl rfl sh98 (by omega) (Nat.le_of_ble_eq_true rfl) rfl (c_M_is hw) (fun r1 h2 hw => ?_)
  refine g_if_eq 33 dX12_readUnit_6 rfl (fun hc => ?_) (fun hc => ?_)
  · have hw := hw.1 hc
    refine g_aload_n dX12_readUnit_33 rfl rfl ?_
    refine g_bipush (v := 37) dX12_readUnit_34 (by decide) ?_
    refine g_callVI [.int 37] (ci := 12) dX12_readUnit_36 ml_X12_159 mk_X12_is rfl rfl sh98 (by omega) (Nat.le_of_ble_eq_true rfl) rfl (c_M_is hw) (fun r3 h4 hw => ?_)
    refine g_if_eq 73 dX12_readUnit_39 rfl (fun hc => ?_) (fun hc => ?_)
    · have hw := hw.1 hc
      refine g_aload_n dX12_readUnit_73 rfl rfl ?_
      refine g_iload_n dX12_readUnit_74 rfl rfl ?_
      refine g_callVV [.int x1] (ci := 12) dX12_readUnit_75 ml_X12_182 mk_X12_readSum rfl rfl sh98 hdd (Nat.le_of_ble_eq_true rfl) rfl (hR_readSum _ _ _ hw) (fun h5 hw => ?_)
      refine g_aload_n dX12_readUnit_78 rfl rfl ?_
      refine g_bipush (v := 39) dX12_readUnit_79 (by decide) ?_
      refine g_callVI [.int 39] (ci := 12) dX12_readUnit_81 ml_X12_159 mk_X12_is rfl rfl sh98 (by omega) (Nat.le_of_ble_eq_true rfl) rfl (c_M_is hw) (fun r6 h7 hw => ?_)
      refine jn_el hw (fun J111 eJ111 hw => ?_)
      have hJ111 : ∀ (s8 : Int32) (h9 : Hp), J111 s8 h9 → Go cX12_readUnit 3 RX12 none d G (QV G Q) 111 [(0, .ref (gAd G 98)), (1, .int x1)] [.int s8] h9 := by
        intro s8 h9 hw
        subst eJ111
        refine g_istore_n dX12_readUnit_111 rfl (by decide) (lv1 := [(0, .ref (gAd G 98)), (1, .int x1), (2, .int s8)]) rfl ?_
        refine g_aload_n dX12_readUnit_112 rfl rfl ?_
        refine g_bipush (v := 39) dX12_readUnit_113 (by decide) ?_
        refine g_callVI [.int 39] (ci := 12) dX12_readUnit_115 ml_X12_159 mk_X12_is rfl rfl sh98 (by omega) (Nat.le_of_ble_eq_true rfl) rfl (c_M_is hw) (fun r10 h11 hw => ?_)
        refine jn_el hw (fun J151 eJ151 hw => ?_)
        have hJ151 : ∀ (h12 : Hp), J151 h12 → Go cX12_readUnit 3 RX12 none d G (QV G Q) 151 [(0, .ref (gAd G 98)), (1, .int x1), (2, .int s8)] [] h12 := by
          intro h12 hw
          subst eJ151
          refine g_aload_n dX12_readUnit_151 rfl rfl ?_
          refine g_iload_n dX12_readUnit_152 rfl rfl ?_
          refine g_callVV [.int x1] (ci := 12) dX12_readUnit_153 ml_X12_182 mk_X12_readSum rfl rfl sh98 hdd (Nat.le_of_ble_eq_true rfl) rfl (hR_readSum _ _ _ hw) (fun h13 hw => ?_)
          refine g_aload_n dX12_readUnit_156 rfl rfl ?_
          refine g_iload_n dX12_readUnit_157 rfl rfl ?_
          refine g_callVV [.int s8] (ci := 12) dX12_readUnit_158 ml_X12_173 mk_X12_codes rfl rfl sh98 (by omega) (Nat.le_of_ble_eq_true rfl) rfl (c_M_codes hw) (fun h14 hw => ?_)
          exact g_vret dX12_readUnit_161 hw
        refine jn_el hw (fun J139 eJ139 hw => ?_)
        have hJ139 : ∀ (h15 : Hp), J139 h15 → Go cX12_readUnit 3 RX12 none d G (QV G Q) 139 [(0, .ref (gAd G 98)), (1, .int x1), (2, .int s8)] [] h15 := by
          intro h15 hw
          subst eJ139
          refine g_aload_n dX12_readUnit_139 rfl rfl ?_
          refine g_callVV [] (ci := 12) dX12_readUnit_140 ml_X12_162 mk_X12_next rfl rfl sh98 (by omega) (Nat.le_of_ble_eq_true rfl) rfl (c_M_next hw) (fun h16 hw => ?_)
          refine g_goto 151 dX12_readUnit_143 rfl ?_
          exact hJ151 _ hw
        refine g_if_ne 139 dX12_readUnit_118 rfl (fun hc => ?_) (fun hc => ?_)
        · have hw := hw.1 hc
          exact hJ139 _ hw
        · have hw := hw.2 hc
          refine g_aload_n dX12_readUnit_121 rfl rfl ?_
          refine g_bipush (v := 40) dX12_readUnit_122 (by decide) ?_
          refine g_callVI [.int 40] (ci := 12) dX12_readUnit_124 ml_X12_159 mk_X12_is rfl rfl sh98 (by omega) (Nat.le_of_ble_eq_true rfl) rfl (c_M_is hw) (fun r17 h18 hw => ?_)
          refine g_if_ne 139 dX12_readUnit_127 rfl (fun hc => ?_) (fun hc => ?_)
          · have hw := hw.1 hc
            exact hJ139 _ hw
          · have hw := hw.2 hc
            refine g_aload_n dX12_readUnit_130 rfl rfl ?_
            refine g_bipush (v := 41) dX12_readUnit_131 (by decide) ?_
            refine g_callVI [.int 41] (ci := 12) dX12_readUnit_133 ml_X12_159 mk_X12_is rfl rfl sh98 (by omega) (Nat.le_of_ble_eq_true rfl) rfl (c_M_is hw) (fun r19 h20 hw => ?_)
            refine g_if_eq 146 dX12_readUnit_136 rfl (fun hc => ?_) (fun hc => ?_)
            · have hw := hw.1 hc
              refine g_aload_n dX12_readUnit_146 rfl rfl ?_
              refine g_iconst (v := 2) dX12_readUnit_147 (by decide) ?_
              refine g_callVV [.int 2] (ci := 12) dX12_readUnit_148 ml_X12_165 mk_X12_fails rfl rfl sh98 (by omega) (Nat.le_of_ble_eq_true rfl) rfl (c_M_fails hw) (fun h21 hw => ?_)
              exact hJ151 _ hw
            · have hw := hw.2 hc
              exact hJ139 _ hw
      refine g_if_eq 93 dX12_readUnit_84 rfl (fun hc => ?_) (fun hc => ?_)
      · have hw := hw.1 hc
        refine g_aload_n dX12_readUnit_93 rfl rfl ?_
        refine g_bipush (v := 40) dX12_readUnit_94 (by decide) ?_
        refine g_callVI [.int 40] (ci := 12) dX12_readUnit_96 ml_X12_159 mk_X12_is rfl rfl sh98 (by omega) (Nat.le_of_ble_eq_true rfl) rfl (c_M_is hw) (fun r22 h23 hw => ?_)
        refine g_if_eq 108 dX12_readUnit_99 rfl (fun hc => ?_) (fun hc => ?_)
        · have hw := hw.1 hc
          refine g_sipush (v := 3005) dX12_readUnit_108 (by decide) ?_
          exact hJ111 _ _ hw
        · have hw := hw.2 hc
          refine g_sipush (v := 3004) dX12_readUnit_102 (by decide) ?_
          refine g_goto 111 dX12_readUnit_105 rfl ?_
          exact hJ111 _ _ hw
      · have hw := hw.2 hc
        refine g_sipush (v := 3003) dX12_readUnit_87 (by decide) ?_
        refine g_goto 111 dX12_readUnit_90 rfl ?_
        exact hJ111 _ _ hw
    · have hw := hw.2 hc
      refine g_aload_n dX12_readUnit_42 rfl rfl ?_
      refine g_iload_n dX12_readUnit_43 rfl rfl ?_
      refine g_callVI [.int x1] (ci := 12) dX12_readUnit_44 ml_X12_179 mk_X12_goesIn rfl rfl sh98 (by omega) (Nat.le_of_ble_eq_true rfl) rfl (c_M_goesIn hw) (fun r24 h25 hw => ?_)
      refine g_if_ne 51 dX12_readUnit_47 rfl (fun hc => ?_) (fun hc => ?_)
      · have hw := hw.1 hc
        refine g_aload_n dX12_readUnit_51 rfl rfl ?_
        refine g_iload_n dX12_readUnit_52 rfl rfl ?_
        refine g_iconst (v := 1) dX12_readUnit_53 (by decide) ?_
        refine g_iadd dX12_readUnit_54 ?_
        refine g_callVV [.int (x1 + 1)] (ci := 12) dX12_readUnit_55 ml_X12_191 mk_X12_readTruth rfl rfl sh98 hdd (Nat.le_of_ble_eq_true rfl) rfl (hR_readTruth _ _ _ hw) (fun h26 hw => ?_)
        refine g_aload_n dX12_readUnit_58 rfl rfl ?_
        refine g_bipush (v := 38) dX12_readUnit_59 (by decide) ?_
        refine g_callVI [.int 38] (ci := 12) dX12_readUnit_61 ml_X12_185 mk_X12_eats rfl rfl sh98 (by omega) (Nat.le_of_ble_eq_true rfl) rfl (c_M_eats hw) (fun r27 h28 hw => ?_)
        refine g_if_ne 72 dX12_readUnit_64 rfl (fun hc => ?_) (fun hc => ?_)
        · have hw := hw.1 hc
          exact g_vret dX12_readUnit_72 hw
        · have hw := hw.2 hc
          refine g_aload_n dX12_readUnit_67 rfl rfl ?_
          refine g_iconst (v := 2) dX12_readUnit_68 (by decide) ?_
          refine g_callVV [.int 2] (ci := 12) dX12_readUnit_69 ml_X12_165 mk_X12_fails rfl rfl sh98 (by omega) (Nat.le_of_ble_eq_true rfl) rfl (c_M_fails hw) (fun h29 hw => ?_)
          exact g_vret dX12_readUnit_72 hw
      · have hw := hw.2 hc
        exact g_vret dX12_readUnit_50 hw
  · have hw := hw.2 hc
    refine g_aload_n dX12_readUnit_9 rfl rfl ?_
    refine g_iload_n dX12_readUnit_10 rfl rfl ?_
    refine g_callVI [.int x1] (ci := 12) dX12_readUnit_11 ml_X12_179 mk_X12_goesIn rfl rfl sh98 (by omega) (Nat.le_of_ble_eq_true rfl) rfl (c_M_goesIn hw) (fun r30 h31 hw => ?_)
    refine g_if_ne 18 dX12_readUnit_14 rfl (fun hc => ?_) (fun hc => ?_)
    · have hw := hw.1 hc
      refine g_aload_n dX12_readUnit_18 rfl rfl ?_
      refine g_iload_n dX12_readUnit_19 rfl rfl ?_
      refine g_iconst (v := 1) dX12_readUnit_20 (by decide) ?_
      refine g_iadd dX12_readUnit_21 ?_
      refine g_callVV [.int (x1 + 1)] (ci := 12) dX12_readUnit_22 ml_X12_200 mk_X12_readUnit rfl rfl sh98 hdd (Nat.le_of_ble_eq_true rfl) rfl (hR_readUnit _ _ _ hw) (fun h32 hw => ?_)
      refine g_aload_n dX12_readUnit_25 rfl rfl ?_
      refine g_sipush (v := 3006) dX12_readUnit_26 (by decide) ?_
      refine g_callVV [.int 3006] (ci := 12) dX12_readUnit_29 ml_X12_173 mk_X12_codes rfl rfl sh98 (by omega) (Nat.le_of_ble_eq_true rfl) rfl (c_M_codes hw) (fun h33 hw => ?_)
      exact g_vret dX12_readUnit_32 hw
    · have hw := hw.2 hc
      exact g_vret dX12_readUnit_17 hw
theorem dX12_readBoth_0 : decode cX12_readBoth 0 = .ok (.aload_n 0, 1) := by decide +kernel
theorem dX12_readBoth_1 : decode cX12_readBoth 1 = .ok (.iload_n 1, 1) := by decide +kernel
theorem dX12_readBoth_2 : decode cX12_readBoth 2 = .ok (.invokevirtual 200, 3) := by decide +kernel
theorem dX12_readBoth_5 : decode cX12_readBoth 5 = .ok (.aload_n 0, 1) := by decide +kernel
theorem dX12_readBoth_6 : decode cX12_readBoth 6 = .ok (.bipush 17, 2) := by decide +kernel
theorem dX12_readBoth_8 : decode cX12_readBoth 8 = .ok (.invokevirtual 185, 3) := by decide +kernel
theorem dX12_readBoth_11 : decode cX12_readBoth 11 = .ok (.ifCond .eq 18, 3) := by decide +kernel
theorem dX12_readBoth_14 : decode cX12_readBoth 14 = .ok (.aload_n 0, 1) := by decide +kernel
theorem dX12_readBoth_15 : decode cX12_readBoth 15 = .ok (.iload_n 1, 1) := by decide +kernel
theorem dX12_readBoth_16 : decode cX12_readBoth 16 = .ok (.invokevirtual 200, 3) := by decide +kernel
theorem dX12_readBoth_19 : decode cX12_readBoth 19 = .ok (.aload_n 0, 1) := by decide +kernel
theorem dX12_readBoth_20 : decode cX12_readBoth 20 = .ok (.sipush 3007, 3) := by decide +kernel
theorem dX12_readBoth_23 : decode cX12_readBoth 23 = .ok (.invokevirtual 173, 3) := by decide +kernel
theorem dX12_readBoth_26 : decode cX12_readBoth 26 = .ok (.goto (-21), 3) := by decide +kernel
theorem dX12_readBoth_29 : decode cX12_readBoth 29 = .ok (.return_, 1) := by decide +kernel
def M_readBoth_L5 (x1 : Int32) (R_readAtom : Int32 → Hp → (Hp → Prop) → Prop) (R_readBoth : Int32 → Hp → (Hp → Prop) → Prop) (R_readIf : Int32 → Hp → (Hp → Prop) → Prop) (R_readSum : Int32 → Hp → (Hp → Prop) → Prop) (R_readTerm : Int32 → Hp → (Hp → Prop) → Prop) (R_readTruth : Int32 → Hp → (Hp → Prop) → Prop) (R_readUnit : Int32 → Hp → (Hp → Prop) → Prop) (Q : Hp → Prop) : Nat → Hp → Prop
  | 0, _ => False
  | n + 1, h => M_eats 17 h (fun r2 h3 => (r2 = 0 → Q h3) ∧ (¬ r2 = 0 → R_readUnit x1 h3 (fun h4 => M_codes 3007 h4 (fun h5 => M_readBoth_L5 x1 R_readAtom R_readBoth R_readIf R_readSum R_readTerm R_readTruth R_readUnit Q n  h5))))
set_option maxHeartbeats 4000000 in
set_option maxRecDepth 20000 in
theorem gl_M_readBoth_L5 {G : Gx}  {d d1 : Nat} (hdd : d1 + 1 ≤ d) (hD : 9 ≤ d) {R_readAtom : Int32 → Hp → (Hp → Prop) → Prop} {R_readBoth : Int32 → Hp → (Hp → Prop) → Prop} {R_readIf : Int32 → Hp → (Hp → Prop) → Prop} {R_readSum : Int32 → Hp → (Hp → Prop) → Prop} {R_readTerm : Int32 → Hp → (Hp → Prop) → Prop} {R_readTruth : Int32 → Hp → (Hp → Prop) → Prop} {R_readUnit : Int32 → Hp → (Hp → Prop) → Prop} (hR_readAtom : ∀ (y0 : Int32) (h : Hp) (Q : Hp → Prop), R_readAtom y0 h Q → Ct yX12_readAtom cX12_readAtom 2 none d1 G [.ref (gAd G 98), .int y0] h (QV G Q)) (hR_readBoth : ∀ (y0 : Int32) (h : Hp) (Q : Hp → Prop), R_readBoth y0 h Q → Ct yX12_readBoth cX12_readBoth 2 none d1 G [.ref (gAd G 98), .int y0] h (QV G Q)) (hR_readIf : ∀ (y0 : Int32) (h : Hp) (Q : Hp → Prop), R_readIf y0 h Q → Ct yX12_readIf cX12_readIf 2 none d1 G [.ref (gAd G 98), .int y0] h (QV G Q)) (hR_readSum : ∀ (y0 : Int32) (h : Hp) (Q : Hp → Prop), R_readSum y0 h Q → Ct yX12_readSum cX12_readSum 3 none d1 G [.ref (gAd G 98), .int y0] h (QV G Q)) (hR_readTerm : ∀ (y0 : Int32) (h : Hp) (Q : Hp → Prop), R_readTerm y0 h Q → Ct yX12_readTerm cX12_readTerm 2 none d1 G [.ref (gAd G 98), .int y0] h (QV G Q)) (hR_readTruth : ∀ (y0 : Int32) (h : Hp) (Q : Hp → Prop), R_readTruth y0 h Q → Ct yX12_readTruth cX12_readTruth 2 none d1 G [.ref (gAd G 98), .int y0] h (QV G Q)) (hR_readUnit : ∀ (y0 : Int32) (h : Hp) (Q : Hp → Prop), R_readUnit y0 h Q → Ct yX12_readUnit cX12_readUnit 3 none d1 G [.ref (gAd G 98), .int y0] h (QV G Q)) {x1 : Int32} {Q : Hp → Prop} : ∀ (n : Nat)  (h : Hp), M_readBoth_L5 x1 R_readAtom R_readBoth R_readIf R_readSum R_readTerm R_readTruth R_readUnit Q n  h → Go cX12_readBoth 2 RX12 none d G (QV G Q) 5 [(0, .ref (gAd G 98)), (1, .int x1)] [] h := by
  intro n
  induction n with
  | zero => intro  h hw; exact False.elim hw
  | succ n ih =>
    intro  h hw
    refine g_aload_n dX12_readBoth_5 rfl rfl ?_
    refine g_bipush (v := 17) dX12_readBoth_6 (by decide) ?_
    refine g_callVI [.int 17] (ci := 12) dX12_readBoth_8 ml_X12_185 mk_X12_eats rfl rfl sh98 (by omega) (Nat.le_of_ble_eq_true rfl) rfl (c_M_eats hw) (fun r2 h3 hw => ?_)
    refine g_if_eq 29 dX12_readBoth_11 rfl (fun hc => ?_) (fun hc => ?_)
    · have hw := hw.1 hc
      exact g_vret dX12_readBoth_29 hw
    · have hw := hw.2 hc
      refine g_aload_n dX12_readBoth_14 rfl rfl ?_
      refine g_iload_n dX12_readBoth_15 rfl rfl ?_
      refine g_callVV [.int x1] (ci := 12) dX12_readBoth_16 ml_X12_200 mk_X12_readUnit rfl rfl sh98 hdd (Nat.le_of_ble_eq_true rfl) rfl (hR_readUnit _ _ _ hw) (fun h4 hw => ?_)
      refine g_aload_n dX12_readBoth_19 rfl rfl ?_
      refine g_sipush (v := 3007) dX12_readBoth_20 (by decide) ?_
      refine g_callVV [.int 3007] (ci := 12) dX12_readBoth_23 ml_X12_173 mk_X12_codes rfl rfl sh98 (by omega) (Nat.le_of_ble_eq_true rfl) rfl (c_M_codes hw) (fun h5 hw => ?_)
      refine g_goto 5 dX12_readBoth_26 rfl ?_
      exact ih _ hw
def M_readBoth_B  (R_readAtom : Int32 → Hp → (Hp → Prop) → Prop) (R_readBoth : Int32 → Hp → (Hp → Prop) → Prop) (R_readIf : Int32 → Hp → (Hp → Prop) → Prop) (R_readSum : Int32 → Hp → (Hp → Prop) → Prop) (R_readTerm : Int32 → Hp → (Hp → Prop) → Prop) (R_readTruth : Int32 → Hp → (Hp → Prop) → Prop) (R_readUnit : Int32 → Hp → (Hp → Prop) → Prop) (x1 : Int32) (h : Hp) (Q : Hp → Prop) : Prop := R_readUnit x1 h (fun h1 => ∃ n6, M_readBoth_L5 x1 R_readAtom R_readBoth R_readIf R_readSum R_readTerm R_readTruth R_readUnit Q n6  h1)
set_option maxHeartbeats 4000000 in
set_option maxRecDepth 20000 in
theorem cb_M_readBoth {G : Gx}  {d d1 : Nat} (hdd : d1 + 1 ≤ d) (hD : 9 ≤ d) {R_readAtom : Int32 → Hp → (Hp → Prop) → Prop} {R_readBoth : Int32 → Hp → (Hp → Prop) → Prop} {R_readIf : Int32 → Hp → (Hp → Prop) → Prop} {R_readSum : Int32 → Hp → (Hp → Prop) → Prop} {R_readTerm : Int32 → Hp → (Hp → Prop) → Prop} {R_readTruth : Int32 → Hp → (Hp → Prop) → Prop} {R_readUnit : Int32 → Hp → (Hp → Prop) → Prop} (hR_readAtom : ∀ (y0 : Int32) (h : Hp) (Q : Hp → Prop), R_readAtom y0 h Q → Ct yX12_readAtom cX12_readAtom 2 none d1 G [.ref (gAd G 98), .int y0] h (QV G Q)) (hR_readBoth : ∀ (y0 : Int32) (h : Hp) (Q : Hp → Prop), R_readBoth y0 h Q → Ct yX12_readBoth cX12_readBoth 2 none d1 G [.ref (gAd G 98), .int y0] h (QV G Q)) (hR_readIf : ∀ (y0 : Int32) (h : Hp) (Q : Hp → Prop), R_readIf y0 h Q → Ct yX12_readIf cX12_readIf 2 none d1 G [.ref (gAd G 98), .int y0] h (QV G Q)) (hR_readSum : ∀ (y0 : Int32) (h : Hp) (Q : Hp → Prop), R_readSum y0 h Q → Ct yX12_readSum cX12_readSum 3 none d1 G [.ref (gAd G 98), .int y0] h (QV G Q)) (hR_readTerm : ∀ (y0 : Int32) (h : Hp) (Q : Hp → Prop), R_readTerm y0 h Q → Ct yX12_readTerm cX12_readTerm 2 none d1 G [.ref (gAd G 98), .int y0] h (QV G Q)) (hR_readTruth : ∀ (y0 : Int32) (h : Hp) (Q : Hp → Prop), R_readTruth y0 h Q → Ct yX12_readTruth cX12_readTruth 2 none d1 G [.ref (gAd G 98), .int y0] h (QV G Q)) (hR_readUnit : ∀ (y0 : Int32) (h : Hp) (Q : Hp → Prop), R_readUnit y0 h Q → Ct yX12_readUnit cX12_readUnit 3 none d1 G [.ref (gAd G 98), .int y0] h (QV G Q)) {x1 : Int32} {h : Hp} {Q : Hp → Prop} (hw : M_readBoth_B  R_readAtom R_readBoth R_readIf R_readSum R_readTerm R_readTruth R_readUnit x1 h Q) : Ct yX12_readBoth cX12_readBoth 2 none d G [.ref (gAd G 98), .int x1] h (QV G Q) := by
  refine ct_go [(0, .ref (gAd G 98)), (1, .int x1)] (plainFor_of_name (by decide)) rfl (Nat.le_of_ble_eq_true rfl) rfl ?_
  refine g_aload_n dX12_readBoth_0 rfl rfl ?_
  refine g_iload_n dX12_readBoth_1 rfl rfl ?_
  refine g_callVV [.int x1] (ci := 12) dX12_readBoth_2 ml_X12_200 mk_X12_readUnit rfl rfl sh98 hdd (Nat.le_of_ble_eq_true rfl) rfl (hR_readUnit _ _ _ hw) (fun h1 hw => ?_)
  obtain ⟨n6, hw⟩ := hw
  refine gl_M_readBoth_L5  hdd hD hR_readAtom hR_readBoth hR_readIf hR_readSum hR_readTerm hR_readTruth hR_readUnit  _ _ hw
theorem dX12_readTruth_0 : decode cX12_readTruth 0 = .ok (.aload_n 0, 1) := by decide +kernel
theorem dX12_readTruth_1 : decode cX12_readTruth 1 = .ok (.iload_n 1, 1) := by decide +kernel
theorem dX12_readTruth_2 : decode cX12_readTruth 2 = .ok (.invokevirtual 203, 3) := by decide +kernel
theorem dX12_readTruth_5 : decode cX12_readTruth 5 = .ok (.aload_n 0, 1) := by decide +kernel
theorem dX12_readTruth_6 : decode cX12_readTruth 6 = .ok (.bipush 18, 2) := by decide +kernel
theorem dX12_readTruth_8 : decode cX12_readTruth 8 = .ok (.invokevirtual 185, 3) := by decide +kernel
theorem dX12_readTruth_11 : decode cX12_readTruth 11 = .ok (.ifCond .eq 18, 3) := by decide +kernel
theorem dX12_readTruth_14 : decode cX12_readTruth 14 = .ok (.aload_n 0, 1) := by decide +kernel
theorem dX12_readTruth_15 : decode cX12_readTruth 15 = .ok (.iload_n 1, 1) := by decide +kernel
theorem dX12_readTruth_16 : decode cX12_readTruth 16 = .ok (.invokevirtual 203, 3) := by decide +kernel
theorem dX12_readTruth_19 : decode cX12_readTruth 19 = .ok (.aload_n 0, 1) := by decide +kernel
theorem dX12_readTruth_20 : decode cX12_readTruth 20 = .ok (.sipush 3008, 3) := by decide +kernel
theorem dX12_readTruth_23 : decode cX12_readTruth 23 = .ok (.invokevirtual 173, 3) := by decide +kernel
theorem dX12_readTruth_26 : decode cX12_readTruth 26 = .ok (.goto (-21), 3) := by decide +kernel
theorem dX12_readTruth_29 : decode cX12_readTruth 29 = .ok (.return_, 1) := by decide +kernel
theorem ml_X12_203 : Cond.methodLink RX12 203 yX12_readBoth ∈ Wd := mW 1622 (by decide +kernel) rfl
theorem mk_X12_readBoth : MokV yX12_readBoth cX12_readBoth 2 none 1 := ⟨⟨mW 14 (by decide +kernel) rfl, mW 1625 (by decide +kernel) rfl, ⟨by decide, by decide, by decide +kernel⟩, by decide⟩, mW 1624 (by decide +kernel) rfl, mS (q := (yX12_readBoth, 46)) 68 (by decide +kernel)⟩
def M_readTruth_L5 (x1 : Int32) (R_readAtom : Int32 → Hp → (Hp → Prop) → Prop) (R_readBoth : Int32 → Hp → (Hp → Prop) → Prop) (R_readIf : Int32 → Hp → (Hp → Prop) → Prop) (R_readSum : Int32 → Hp → (Hp → Prop) → Prop) (R_readTerm : Int32 → Hp → (Hp → Prop) → Prop) (R_readTruth : Int32 → Hp → (Hp → Prop) → Prop) (R_readUnit : Int32 → Hp → (Hp → Prop) → Prop) (Q : Hp → Prop) : Nat → Hp → Prop
  | 0, _ => False
  | n + 1, h => M_eats 18 h (fun r2 h3 => (r2 = 0 → Q h3) ∧ (¬ r2 = 0 → R_readBoth x1 h3 (fun h4 => M_codes 3008 h4 (fun h5 => M_readTruth_L5 x1 R_readAtom R_readBoth R_readIf R_readSum R_readTerm R_readTruth R_readUnit Q n  h5))))
set_option maxHeartbeats 4000000 in
set_option maxRecDepth 20000 in
theorem gl_M_readTruth_L5 {G : Gx}  {d d1 : Nat} (hdd : d1 + 1 ≤ d) (hD : 9 ≤ d) {R_readAtom : Int32 → Hp → (Hp → Prop) → Prop} {R_readBoth : Int32 → Hp → (Hp → Prop) → Prop} {R_readIf : Int32 → Hp → (Hp → Prop) → Prop} {R_readSum : Int32 → Hp → (Hp → Prop) → Prop} {R_readTerm : Int32 → Hp → (Hp → Prop) → Prop} {R_readTruth : Int32 → Hp → (Hp → Prop) → Prop} {R_readUnit : Int32 → Hp → (Hp → Prop) → Prop} (hR_readAtom : ∀ (y0 : Int32) (h : Hp) (Q : Hp → Prop), R_readAtom y0 h Q → Ct yX12_readAtom cX12_readAtom 2 none d1 G [.ref (gAd G 98), .int y0] h (QV G Q)) (hR_readBoth : ∀ (y0 : Int32) (h : Hp) (Q : Hp → Prop), R_readBoth y0 h Q → Ct yX12_readBoth cX12_readBoth 2 none d1 G [.ref (gAd G 98), .int y0] h (QV G Q)) (hR_readIf : ∀ (y0 : Int32) (h : Hp) (Q : Hp → Prop), R_readIf y0 h Q → Ct yX12_readIf cX12_readIf 2 none d1 G [.ref (gAd G 98), .int y0] h (QV G Q)) (hR_readSum : ∀ (y0 : Int32) (h : Hp) (Q : Hp → Prop), R_readSum y0 h Q → Ct yX12_readSum cX12_readSum 3 none d1 G [.ref (gAd G 98), .int y0] h (QV G Q)) (hR_readTerm : ∀ (y0 : Int32) (h : Hp) (Q : Hp → Prop), R_readTerm y0 h Q → Ct yX12_readTerm cX12_readTerm 2 none d1 G [.ref (gAd G 98), .int y0] h (QV G Q)) (hR_readTruth : ∀ (y0 : Int32) (h : Hp) (Q : Hp → Prop), R_readTruth y0 h Q → Ct yX12_readTruth cX12_readTruth 2 none d1 G [.ref (gAd G 98), .int y0] h (QV G Q)) (hR_readUnit : ∀ (y0 : Int32) (h : Hp) (Q : Hp → Prop), R_readUnit y0 h Q → Ct yX12_readUnit cX12_readUnit 3 none d1 G [.ref (gAd G 98), .int y0] h (QV G Q)) {x1 : Int32} {Q : Hp → Prop} : ∀ (n : Nat)  (h : Hp), M_readTruth_L5 x1 R_readAtom R_readBoth R_readIf R_readSum R_readTerm R_readTruth R_readUnit Q n  h → Go cX12_readTruth 2 RX12 none d G (QV G Q) 5 [(0, .ref (gAd G 98)), (1, .int x1)] [] h := by
  intro n
  induction n with
  | zero => intro  h hw; exact False.elim hw
  | succ n ih =>
    intro  h hw
    refine g_aload_n dX12_readTruth_5 rfl rfl ?_
    refine g_bipush (v := 18) dX12_readTruth_6 (by decide) ?_
    refine g_callVI [.int 18] (ci := 12) dX12_readTruth_8 ml_X12_185 mk_X12_eats rfl rfl sh98 (by omega) (Nat.le_of_ble_eq_true rfl) rfl (c_M_eats hw) (fun r2 h3 hw => ?_)
    refine g_if_eq 29 dX12_readTruth_11 rfl (fun hc => ?_) (fun hc => ?_)
    · have hw := hw.1 hc
      exact g_vret dX12_readTruth_29 hw
    · have hw := hw.2 hc
      refine g_aload_n dX12_readTruth_14 rfl rfl ?_
      refine g_iload_n dX12_readTruth_15 rfl rfl ?_
      refine g_callVV [.int x1] (ci := 12) dX12_readTruth_16 ml_X12_203 mk_X12_readBoth rfl rfl sh98 hdd (Nat.le_of_ble_eq_true rfl) rfl (hR_readBoth _ _ _ hw) (fun h4 hw => ?_)
      refine g_aload_n dX12_readTruth_19 rfl rfl ?_
      refine g_sipush (v := 3008) dX12_readTruth_20 (by decide) ?_
      refine g_callVV [.int 3008] (ci := 12) dX12_readTruth_23 ml_X12_173 mk_X12_codes rfl rfl sh98 (by omega) (Nat.le_of_ble_eq_true rfl) rfl (c_M_codes hw) (fun h5 hw => ?_)
      refine g_goto 5 dX12_readTruth_26 rfl ?_
      exact ih _ hw
def M_readTruth_B  (R_readAtom : Int32 → Hp → (Hp → Prop) → Prop) (R_readBoth : Int32 → Hp → (Hp → Prop) → Prop) (R_readIf : Int32 → Hp → (Hp → Prop) → Prop) (R_readSum : Int32 → Hp → (Hp → Prop) → Prop) (R_readTerm : Int32 → Hp → (Hp → Prop) → Prop) (R_readTruth : Int32 → Hp → (Hp → Prop) → Prop) (R_readUnit : Int32 → Hp → (Hp → Prop) → Prop) (x1 : Int32) (h : Hp) (Q : Hp → Prop) : Prop := R_readBoth x1 h (fun h1 => ∃ n6, M_readTruth_L5 x1 R_readAtom R_readBoth R_readIf R_readSum R_readTerm R_readTruth R_readUnit Q n6  h1)
set_option maxHeartbeats 4000000 in
set_option maxRecDepth 20000 in
theorem cb_M_readTruth {G : Gx}  {d d1 : Nat} (hdd : d1 + 1 ≤ d) (hD : 9 ≤ d) {R_readAtom : Int32 → Hp → (Hp → Prop) → Prop} {R_readBoth : Int32 → Hp → (Hp → Prop) → Prop} {R_readIf : Int32 → Hp → (Hp → Prop) → Prop} {R_readSum : Int32 → Hp → (Hp → Prop) → Prop} {R_readTerm : Int32 → Hp → (Hp → Prop) → Prop} {R_readTruth : Int32 → Hp → (Hp → Prop) → Prop} {R_readUnit : Int32 → Hp → (Hp → Prop) → Prop} (hR_readAtom : ∀ (y0 : Int32) (h : Hp) (Q : Hp → Prop), R_readAtom y0 h Q → Ct yX12_readAtom cX12_readAtom 2 none d1 G [.ref (gAd G 98), .int y0] h (QV G Q)) (hR_readBoth : ∀ (y0 : Int32) (h : Hp) (Q : Hp → Prop), R_readBoth y0 h Q → Ct yX12_readBoth cX12_readBoth 2 none d1 G [.ref (gAd G 98), .int y0] h (QV G Q)) (hR_readIf : ∀ (y0 : Int32) (h : Hp) (Q : Hp → Prop), R_readIf y0 h Q → Ct yX12_readIf cX12_readIf 2 none d1 G [.ref (gAd G 98), .int y0] h (QV G Q)) (hR_readSum : ∀ (y0 : Int32) (h : Hp) (Q : Hp → Prop), R_readSum y0 h Q → Ct yX12_readSum cX12_readSum 3 none d1 G [.ref (gAd G 98), .int y0] h (QV G Q)) (hR_readTerm : ∀ (y0 : Int32) (h : Hp) (Q : Hp → Prop), R_readTerm y0 h Q → Ct yX12_readTerm cX12_readTerm 2 none d1 G [.ref (gAd G 98), .int y0] h (QV G Q)) (hR_readTruth : ∀ (y0 : Int32) (h : Hp) (Q : Hp → Prop), R_readTruth y0 h Q → Ct yX12_readTruth cX12_readTruth 2 none d1 G [.ref (gAd G 98), .int y0] h (QV G Q)) (hR_readUnit : ∀ (y0 : Int32) (h : Hp) (Q : Hp → Prop), R_readUnit y0 h Q → Ct yX12_readUnit cX12_readUnit 3 none d1 G [.ref (gAd G 98), .int y0] h (QV G Q)) {x1 : Int32} {h : Hp} {Q : Hp → Prop} (hw : M_readTruth_B  R_readAtom R_readBoth R_readIf R_readSum R_readTerm R_readTruth R_readUnit x1 h Q) : Ct yX12_readTruth cX12_readTruth 2 none d G [.ref (gAd G 98), .int x1] h (QV G Q) := by
  refine ct_go [(0, .ref (gAd G 98)), (1, .int x1)] (plainFor_of_name (by decide)) rfl (Nat.le_of_ble_eq_true rfl) rfl ?_
  refine g_aload_n dX12_readTruth_0 rfl rfl ?_
  refine g_iload_n dX12_readTruth_1 rfl rfl ?_
  refine g_callVV [.int x1] (ci := 12) dX12_readTruth_2 ml_X12_203 mk_X12_readBoth rfl rfl sh98 hdd (Nat.le_of_ble_eq_true rfl) rfl (hR_readBoth _ _ _ hw) (fun h1 hw => ?_)
  obtain ⟨n6, hw⟩ := hw
  refine gl_M_readTruth_L5  hdd hD hR_readAtom hR_readBoth hR_readIf hR_readSum hR_readTerm hR_readTruth hR_readUnit  _ _ hw
theorem dX12_readIf_0 : decode cX12_readIf 0 = .ok (.aload_n 0, 1) := by decide +kernel
theorem dX12_readIf_1 : decode cX12_readIf 1 = .ok (.iload_n 1, 1) := by decide +kernel
theorem dX12_readIf_2 : decode cX12_readIf 2 = .ok (.invokevirtual 179, 3) := by decide +kernel
theorem dX12_readIf_5 : decode cX12_readIf 5 = .ok (.ifCond .ne 4, 3) := by decide +kernel
theorem dX12_readIf_8 : decode cX12_readIf 8 = .ok (.return_, 1) := by decide +kernel
theorem dX12_readIf_9 : decode cX12_readIf 9 = .ok (.aload_n 0, 1) := by decide +kernel
theorem dX12_readIf_10 : decode cX12_readIf 10 = .ok (.iload_n 1, 1) := by decide +kernel
theorem dX12_readIf_11 : decode cX12_readIf 11 = .ok (.iconst 1, 1) := by decide +kernel
theorem dX12_readIf_12 : decode cX12_readIf 12 = .ok (.iadd, 1) := by decide +kernel
theorem dX12_readIf_13 : decode cX12_readIf 13 = .ok (.invokevirtual 191, 3) := by decide +kernel
theorem dX12_readIf_16 : decode cX12_readIf 16 = .ok (.aload_n 0, 1) := by decide +kernel
theorem dX12_readIf_17 : decode cX12_readIf 17 = .ok (.bipush 11, 2) := by decide +kernel
theorem dX12_readIf_19 : decode cX12_readIf 19 = .ok (.invokevirtual 185, 3) := by decide +kernel
theorem dX12_readIf_22 : decode cX12_readIf 22 = .ok (.ifCond .ne 8, 3) := by decide +kernel
theorem dX12_readIf_25 : decode cX12_readIf 25 = .ok (.aload_n 0, 1) := by decide +kernel
theorem dX12_readIf_26 : decode cX12_readIf 26 = .ok (.iconst 2, 1) := by decide +kernel
theorem dX12_readIf_27 : decode cX12_readIf 27 = .ok (.invokevirtual 165, 3) := by decide +kernel
theorem dX12_readIf_30 : decode cX12_readIf 30 = .ok (.aload_n 0, 1) := by decide +kernel
theorem dX12_readIf_31 : decode cX12_readIf 31 = .ok (.iload_n 1, 1) := by decide +kernel
theorem dX12_readIf_32 : decode cX12_readIf 32 = .ok (.iconst 1, 1) := by decide +kernel
theorem dX12_readIf_33 : decode cX12_readIf 33 = .ok (.iadd, 1) := by decide +kernel
theorem dX12_readIf_34 : decode cX12_readIf 34 = .ok (.invokevirtual 182, 3) := by decide +kernel
theorem dX12_readIf_37 : decode cX12_readIf 37 = .ok (.aload_n 0, 1) := by decide +kernel
theorem dX12_readIf_38 : decode cX12_readIf 38 = .ok (.bipush 12, 2) := by decide +kernel
theorem dX12_readIf_40 : decode cX12_readIf 40 = .ok (.invokevirtual 185, 3) := by decide +kernel
theorem dX12_readIf_43 : decode cX12_readIf 43 = .ok (.ifCond .ne 8, 3) := by decide +kernel
theorem dX12_readIf_46 : decode cX12_readIf 46 = .ok (.aload_n 0, 1) := by decide +kernel
theorem dX12_readIf_47 : decode cX12_readIf 47 = .ok (.iconst 2, 1) := by decide +kernel
theorem dX12_readIf_48 : decode cX12_readIf 48 = .ok (.invokevirtual 165, 3) := by decide +kernel
theorem dX12_readIf_51 : decode cX12_readIf 51 = .ok (.aload_n 0, 1) := by decide +kernel
theorem dX12_readIf_52 : decode cX12_readIf 52 = .ok (.iload_n 1, 1) := by decide +kernel
theorem dX12_readIf_53 : decode cX12_readIf 53 = .ok (.iconst 1, 1) := by decide +kernel
theorem dX12_readIf_54 : decode cX12_readIf 54 = .ok (.iadd, 1) := by decide +kernel
theorem dX12_readIf_55 : decode cX12_readIf 55 = .ok (.invokevirtual 182, 3) := by decide +kernel
theorem dX12_readIf_58 : decode cX12_readIf 58 = .ok (.aload_n 0, 1) := by decide +kernel
theorem dX12_readIf_59 : decode cX12_readIf 59 = .ok (.bipush 13, 2) := by decide +kernel
theorem dX12_readIf_61 : decode cX12_readIf 61 = .ok (.invokevirtual 185, 3) := by decide +kernel
theorem dX12_readIf_64 : decode cX12_readIf 64 = .ok (.ifCond .ne 8, 3) := by decide +kernel
theorem dX12_readIf_67 : decode cX12_readIf 67 = .ok (.aload_n 0, 1) := by decide +kernel
theorem dX12_readIf_68 : decode cX12_readIf 68 = .ok (.iconst 2, 1) := by decide +kernel
theorem dX12_readIf_69 : decode cX12_readIf 69 = .ok (.invokevirtual 165, 3) := by decide +kernel
theorem dX12_readIf_72 : decode cX12_readIf 72 = .ok (.aload_n 0, 1) := by decide +kernel
theorem dX12_readIf_73 : decode cX12_readIf 73 = .ok (.sipush 3009, 3) := by decide +kernel
theorem dX12_readIf_76 : decode cX12_readIf 76 = .ok (.invokevirtual 173, 3) := by decide +kernel
theorem dX12_readIf_79 : decode cX12_readIf 79 = .ok (.return_, 1) := by decide +kernel
def M_readIf_B  (R_readAtom : Int32 → Hp → (Hp → Prop) → Prop) (R_readBoth : Int32 → Hp → (Hp → Prop) → Prop) (R_readIf : Int32 → Hp → (Hp → Prop) → Prop) (R_readSum : Int32 → Hp → (Hp → Prop) → Prop) (R_readTerm : Int32 → Hp → (Hp → Prop) → Prop) (R_readTruth : Int32 → Hp → (Hp → Prop) → Prop) (R_readUnit : Int32 → Hp → (Hp → Prop) → Prop) (x1 : Int32) (h : Hp) (Q : Hp → Prop) : Prop := M_goesIn x1 h (fun r1 h2 => (¬ r1 = 0 → R_readTruth (x1 + 1) h2 (fun h3 => M_eats 11 h3 (fun r4 h5 => ∀ J30 : Hp → Prop, J30 = (fun h6 => R_readSum (x1 + 1) h6 (fun h7 => M_eats 12 h7 (fun r8 h9 => ∀ J51 : Hp → Prop, J51 = (fun h10 => R_readSum (x1 + 1) h10 (fun h11 => M_eats 13 h11 (fun r12 h13 => ∀ J72 : Hp → Prop, J72 = (fun h14 => M_codes 3009 h14 (fun h15 => Q h15)) → (¬ r12 = 0 → J72 h13) ∧ (r12 = 0 → M_fails 2 h13 (fun h16 => J72 h16))))) → (¬ r8 = 0 → J51 h9) ∧ (r8 = 0 → M_fails 2 h9 (fun h17 => J51 h17))))) → (¬ r4 = 0 → J30 h5) ∧ (r4 = 0 → M_fails 2 h5 (fun h18 => J30 h18))))) ∧ (r1 = 0 → Q h2))
set_option maxHeartbeats 4000000 in
set_option maxRecDepth 20000 in
theorem cb_M_readIf {G : Gx}  {d d1 : Nat} (hdd : d1 + 1 ≤ d) (hD : 9 ≤ d) {R_readAtom : Int32 → Hp → (Hp → Prop) → Prop} {R_readBoth : Int32 → Hp → (Hp → Prop) → Prop} {R_readIf : Int32 → Hp → (Hp → Prop) → Prop} {R_readSum : Int32 → Hp → (Hp → Prop) → Prop} {R_readTerm : Int32 → Hp → (Hp → Prop) → Prop} {R_readTruth : Int32 → Hp → (Hp → Prop) → Prop} {R_readUnit : Int32 → Hp → (Hp → Prop) → Prop} (hR_readAtom : ∀ (y0 : Int32) (h : Hp) (Q : Hp → Prop), R_readAtom y0 h Q → Ct yX12_readAtom cX12_readAtom 2 none d1 G [.ref (gAd G 98), .int y0] h (QV G Q)) (hR_readBoth : ∀ (y0 : Int32) (h : Hp) (Q : Hp → Prop), R_readBoth y0 h Q → Ct yX12_readBoth cX12_readBoth 2 none d1 G [.ref (gAd G 98), .int y0] h (QV G Q)) (hR_readIf : ∀ (y0 : Int32) (h : Hp) (Q : Hp → Prop), R_readIf y0 h Q → Ct yX12_readIf cX12_readIf 2 none d1 G [.ref (gAd G 98), .int y0] h (QV G Q)) (hR_readSum : ∀ (y0 : Int32) (h : Hp) (Q : Hp → Prop), R_readSum y0 h Q → Ct yX12_readSum cX12_readSum 3 none d1 G [.ref (gAd G 98), .int y0] h (QV G Q)) (hR_readTerm : ∀ (y0 : Int32) (h : Hp) (Q : Hp → Prop), R_readTerm y0 h Q → Ct yX12_readTerm cX12_readTerm 2 none d1 G [.ref (gAd G 98), .int y0] h (QV G Q)) (hR_readTruth : ∀ (y0 : Int32) (h : Hp) (Q : Hp → Prop), R_readTruth y0 h Q → Ct yX12_readTruth cX12_readTruth 2 none d1 G [.ref (gAd G 98), .int y0] h (QV G Q)) (hR_readUnit : ∀ (y0 : Int32) (h : Hp) (Q : Hp → Prop), R_readUnit y0 h Q → Ct yX12_readUnit cX12_readUnit 3 none d1 G [.ref (gAd G 98), .int y0] h (QV G Q)) {x1 : Int32} {h : Hp} {Q : Hp → Prop} (hw : M_readIf_B  R_readAtom R_readBoth R_readIf R_readSum R_readTerm R_readTruth R_readUnit x1 h Q) : Ct yX12_readIf cX12_readIf 2 none d G [.ref (gAd G 98), .int x1] h (QV G Q) := by
  refine ct_go [(0, .ref (gAd G 98)), (1, .int x1)] (plainFor_of_name (by decide)) rfl (Nat.le_of_ble_eq_true rfl) rfl ?_
  refine g_aload_n dX12_readIf_0 rfl rfl ?_
  refine g_iload_n dX12_readIf_1 rfl rfl ?_
  refine g_callVI [.int x1] (ci := 12) dX12_readIf_2 ml_X12_179 mk_X12_goesIn rfl rfl sh98 (by omega) (Nat.le_of_ble_eq_true rfl) rfl (c_M_goesIn hw) (fun r1 h2 hw => ?_)
  refine g_if_ne 9 dX12_readIf_5 rfl (fun hc => ?_) (fun hc => ?_)
  · have hw := hw.1 hc
    refine g_aload_n dX12_readIf_9 rfl rfl ?_
    refine g_iload_n dX12_readIf_10 rfl rfl ?_
    refine g_iconst (v := 1) dX12_readIf_11 (by decide) ?_
    refine g_iadd dX12_readIf_12 ?_
    refine g_callVV [.int (x1 + 1)] (ci := 12) dX12_readIf_13 ml_X12_191 mk_X12_readTruth rfl rfl sh98 hdd (Nat.le_of_ble_eq_true rfl) rfl (hR_readTruth _ _ _ hw) (fun h3 hw => ?_)
    refine g_aload_n dX12_readIf_16 rfl rfl ?_
    refine g_bipush (v := 11) dX12_readIf_17 (by decide) ?_
    refine g_callVI [.int 11] (ci := 12) dX12_readIf_19 ml_X12_185 mk_X12_eats rfl rfl sh98 (by omega) (Nat.le_of_ble_eq_true rfl) rfl (c_M_eats hw) (fun r4 h5 hw => ?_)
    refine jn_el hw (fun J30 eJ30 hw => ?_)
    have hJ30 : ∀ (h6 : Hp), J30 h6 → Go cX12_readIf 2 RX12 none d G (QV G Q) 30 [(0, .ref (gAd G 98)), (1, .int x1)] [] h6 := by
      intro h6 hw
      subst eJ30
      refine g_aload_n dX12_readIf_30 rfl rfl ?_
      refine g_iload_n dX12_readIf_31 rfl rfl ?_
      refine g_iconst (v := 1) dX12_readIf_32 (by decide) ?_
      refine g_iadd dX12_readIf_33 ?_
      refine g_callVV [.int (x1 + 1)] (ci := 12) dX12_readIf_34 ml_X12_182 mk_X12_readSum rfl rfl sh98 hdd (Nat.le_of_ble_eq_true rfl) rfl (hR_readSum _ _ _ hw) (fun h7 hw => ?_)
      refine g_aload_n dX12_readIf_37 rfl rfl ?_
      refine g_bipush (v := 12) dX12_readIf_38 (by decide) ?_
      refine g_callVI [.int 12] (ci := 12) dX12_readIf_40 ml_X12_185 mk_X12_eats rfl rfl sh98 (by omega) (Nat.le_of_ble_eq_true rfl) rfl (c_M_eats hw) (fun r8 h9 hw => ?_)
      refine jn_el hw (fun J51 eJ51 hw => ?_)
      have hJ51 : ∀ (h10 : Hp), J51 h10 → Go cX12_readIf 2 RX12 none d G (QV G Q) 51 [(0, .ref (gAd G 98)), (1, .int x1)] [] h10 := by
        intro h10 hw
        subst eJ51
        refine g_aload_n dX12_readIf_51 rfl rfl ?_
        refine g_iload_n dX12_readIf_52 rfl rfl ?_
        refine g_iconst (v := 1) dX12_readIf_53 (by decide) ?_
        refine g_iadd dX12_readIf_54 ?_
        refine g_callVV [.int (x1 + 1)] (ci := 12) dX12_readIf_55 ml_X12_182 mk_X12_readSum rfl rfl sh98 hdd (Nat.le_of_ble_eq_true rfl) rfl (hR_readSum _ _ _ hw) (fun h11 hw => ?_)
        refine g_aload_n dX12_readIf_58 rfl rfl ?_
        refine g_bipush (v := 13) dX12_readIf_59 (by decide) ?_
        refine g_callVI [.int 13] (ci := 12) dX12_readIf_61 ml_X12_185 mk_X12_eats rfl rfl sh98 (by omega) (Nat.le_of_ble_eq_true rfl) rfl (c_M_eats hw) (fun r12 h13 hw => ?_)
        refine jn_el hw (fun J72 eJ72 hw => ?_)
        have hJ72 : ∀ (h14 : Hp), J72 h14 → Go cX12_readIf 2 RX12 none d G (QV G Q) 72 [(0, .ref (gAd G 98))] [] h14 := by
          intro h14 hw
          subst eJ72
          refine g_aload_n dX12_readIf_72 rfl rfl ?_
          refine g_sipush (v := 3009) dX12_readIf_73 (by decide) ?_
          refine g_callVV [.int 3009] (ci := 12) dX12_readIf_76 ml_X12_173 mk_X12_codes rfl rfl sh98 (by omega) (Nat.le_of_ble_eq_true rfl) rfl (c_M_codes hw) (fun h15 hw => ?_)
          exact g_vret dX12_readIf_79 hw
        refine g_if_ne 72 dX12_readIf_64 rfl (fun hc => ?_) (fun hc => ?_)
        · have hw := hw.1 hc
          refine g_lv [0] rfl ?_
          exact hJ72 _ hw
        · have hw := hw.2 hc
          refine g_aload_n dX12_readIf_67 rfl rfl ?_
          refine g_iconst (v := 2) dX12_readIf_68 (by decide) ?_
          refine g_callVV [.int 2] (ci := 12) dX12_readIf_69 ml_X12_165 mk_X12_fails rfl rfl sh98 (by omega) (Nat.le_of_ble_eq_true rfl) rfl (c_M_fails hw) (fun h16 hw => ?_)
          refine g_lv [0] rfl ?_
          exact hJ72 _ hw
      refine g_if_ne 51 dX12_readIf_43 rfl (fun hc => ?_) (fun hc => ?_)
      · have hw := hw.1 hc
        exact hJ51 _ hw
      · have hw := hw.2 hc
        refine g_aload_n dX12_readIf_46 rfl rfl ?_
        refine g_iconst (v := 2) dX12_readIf_47 (by decide) ?_
        refine g_callVV [.int 2] (ci := 12) dX12_readIf_48 ml_X12_165 mk_X12_fails rfl rfl sh98 (by omega) (Nat.le_of_ble_eq_true rfl) rfl (c_M_fails hw) (fun h17 hw => ?_)
        exact hJ51 _ hw
    refine g_if_ne 30 dX12_readIf_22 rfl (fun hc => ?_) (fun hc => ?_)
    · have hw := hw.1 hc
      exact hJ30 _ hw
    · have hw := hw.2 hc
      refine g_aload_n dX12_readIf_25 rfl rfl ?_
      refine g_iconst (v := 2) dX12_readIf_26 (by decide) ?_
      refine g_callVV [.int 2] (ci := 12) dX12_readIf_27 ml_X12_165 mk_X12_fails rfl rfl sh98 (by omega) (Nat.le_of_ble_eq_true rfl) rfl (c_M_fails hw) (fun h18 hw => ?_)
      exact hJ30 _ hw
  · have hw := hw.2 hc
    exact g_vret dX12_readIf_8 hw
theorem dX12_readAtom_0 : decode cX12_readAtom 0 = .ok (.aload_n 0, 1) := by decide +kernel
theorem dX12_readAtom_1 : decode cX12_readAtom 1 = .ok (.bipush 23, 2) := by decide +kernel
theorem dX12_readAtom_3 : decode cX12_readAtom 3 = .ok (.invokevirtual 159, 3) := by decide +kernel
theorem dX12_readAtom_6 : decode cX12_readAtom 6 = .ok (.ifCond .eq 18, 3) := by decide +kernel
theorem dX12_readAtom_9 : decode cX12_readAtom 9 = .ok (.aload_n 0, 1) := by decide +kernel
theorem dX12_readAtom_10 : decode cX12_readAtom 10 = .ok (.aload_n 0, 1) := by decide +kernel
theorem dX12_readAtom_11 : decode cX12_readAtom 11 = .ok (.getfield 148, 3) := by decide +kernel
theorem dX12_readAtom_14 : decode cX12_readAtom 14 = .ok (.invokevirtual 173, 3) := by decide +kernel
theorem dX12_readAtom_17 : decode cX12_readAtom 17 = .ok (.aload_n 0, 1) := by decide +kernel
theorem dX12_readAtom_18 : decode cX12_readAtom 18 = .ok (.invokevirtual 162, 3) := by decide +kernel
theorem dX12_readAtom_21 : decode cX12_readAtom 21 = .ok (.goto 107, 3) := by decide +kernel
theorem dX12_readAtom_24 : decode cX12_readAtom 24 = .ok (.aload_n 0, 1) := by decide +kernel
theorem dX12_readAtom_25 : decode cX12_readAtom 25 = .ok (.getfield 153, 3) := by decide +kernel
theorem dX12_readAtom_28 : decode cX12_readAtom 28 = .ok (.ifCond .ne 36, 3) := by decide +kernel
theorem dX12_readAtom_31 : decode cX12_readAtom 31 = .ok (.aload_n 0, 1) := by decide +kernel
theorem dX12_readAtom_32 : decode cX12_readAtom 32 = .ok (.getfield 135, 3) := by decide +kernel
theorem dX12_readAtom_35 : decode cX12_readAtom 35 = .ok (.invokestatic 176, 3) := by decide +kernel
theorem dX12_readAtom_38 : decode cX12_readAtom 38 = .ok (.iconst (-1), 1) := by decide +kernel
theorem dX12_readAtom_39 : decode cX12_readAtom 39 = .ok (.if_icmp .eq 25, 3) := by decide +kernel
theorem dX12_readAtom_42 : decode cX12_readAtom 42 = .ok (.aload_n 0, 1) := by decide +kernel
theorem dX12_readAtom_43 : decode cX12_readAtom 43 = .ok (.sipush 1000, 3) := by decide +kernel
theorem dX12_readAtom_46 : decode cX12_readAtom 46 = .ok (.aload_n 0, 1) := by decide +kernel
theorem dX12_readAtom_47 : decode cX12_readAtom 47 = .ok (.getfield 135, 3) := by decide +kernel
theorem dX12_readAtom_50 : decode cX12_readAtom 50 = .ok (.invokestatic 176, 3) := by decide +kernel
theorem dX12_readAtom_53 : decode cX12_readAtom 53 = .ok (.iadd, 1) := by decide +kernel
theorem dX12_readAtom_54 : decode cX12_readAtom 54 = .ok (.invokevirtual 173, 3) := by decide +kernel
theorem dX12_readAtom_57 : decode cX12_readAtom 57 = .ok (.aload_n 0, 1) := by decide +kernel
theorem dX12_readAtom_58 : decode cX12_readAtom 58 = .ok (.invokevirtual 162, 3) := by decide +kernel
theorem dX12_readAtom_61 : decode cX12_readAtom 61 = .ok (.goto 67, 3) := by decide +kernel
theorem dX12_readAtom_64 : decode cX12_readAtom 64 = .ok (.aload_n 0, 1) := by decide +kernel
theorem dX12_readAtom_65 : decode cX12_readAtom 65 = .ok (.bipush 35, 2) := by decide +kernel
theorem dX12_readAtom_67 : decode cX12_readAtom 67 = .ok (.invokevirtual 159, 3) := by decide +kernel
theorem dX12_readAtom_70 : decode cX12_readAtom 70 = .ok (.ifCond .eq 36, 3) := by decide +kernel
theorem dX12_readAtom_73 : decode cX12_readAtom 73 = .ok (.aload_n 0, 1) := by decide +kernel
theorem dX12_readAtom_74 : decode cX12_readAtom 74 = .ok (.iload_n 1, 1) := by decide +kernel
theorem dX12_readAtom_75 : decode cX12_readAtom 75 = .ok (.invokevirtual 179, 3) := by decide +kernel
theorem dX12_readAtom_78 : decode cX12_readAtom 78 = .ok (.ifCond .ne 4, 3) := by decide +kernel
theorem dX12_readAtom_81 : decode cX12_readAtom 81 = .ok (.return_, 1) := by decide +kernel
theorem dX12_readAtom_82 : decode cX12_readAtom 82 = .ok (.aload_n 0, 1) := by decide +kernel
theorem dX12_readAtom_83 : decode cX12_readAtom 83 = .ok (.iload_n 1, 1) := by decide +kernel
theorem dX12_readAtom_84 : decode cX12_readAtom 84 = .ok (.iconst 1, 1) := by decide +kernel
theorem dX12_readAtom_85 : decode cX12_readAtom 85 = .ok (.iadd, 1) := by decide +kernel
theorem dX12_readAtom_86 : decode cX12_readAtom 86 = .ok (.invokevirtual 182, 3) := by decide +kernel
theorem dX12_readAtom_89 : decode cX12_readAtom 89 = .ok (.aload_n 0, 1) := by decide +kernel
theorem dX12_readAtom_90 : decode cX12_readAtom 90 = .ok (.bipush 36, 2) := by decide +kernel
theorem dX12_readAtom_92 : decode cX12_readAtom 92 = .ok (.invokevirtual 185, 3) := by decide +kernel
theorem dX12_readAtom_95 : decode cX12_readAtom 95 = .ok (.ifCond .ne 33, 3) := by decide +kernel
theorem dX12_readAtom_98 : decode cX12_readAtom 98 = .ok (.aload_n 0, 1) := by decide +kernel
theorem dX12_readAtom_99 : decode cX12_readAtom 99 = .ok (.iconst 2, 1) := by decide +kernel
theorem dX12_readAtom_100 : decode cX12_readAtom 100 = .ok (.invokevirtual 165, 3) := by decide +kernel
theorem dX12_readAtom_103 : decode cX12_readAtom 103 = .ok (.goto 25, 3) := by decide +kernel
theorem dX12_readAtom_106 : decode cX12_readAtom 106 = .ok (.aload_n 0, 1) := by decide +kernel
theorem dX12_readAtom_107 : decode cX12_readAtom 107 = .ok (.bipush 10, 2) := by decide +kernel
theorem dX12_readAtom_109 : decode cX12_readAtom 109 = .ok (.invokevirtual 159, 3) := by decide +kernel
theorem dX12_readAtom_112 : decode cX12_readAtom 112 = .ok (.ifCond .eq 11, 3) := by decide +kernel
theorem dX12_readAtom_115 : decode cX12_readAtom 115 = .ok (.aload_n 0, 1) := by decide +kernel
theorem dX12_readAtom_116 : decode cX12_readAtom 116 = .ok (.iload_n 1, 1) := by decide +kernel
theorem dX12_readAtom_117 : decode cX12_readAtom 117 = .ok (.invokevirtual 188, 3) := by decide +kernel
theorem dX12_readAtom_120 : decode cX12_readAtom 120 = .ok (.goto 8, 3) := by decide +kernel
theorem dX12_readAtom_123 : decode cX12_readAtom 123 = .ok (.aload_n 0, 1) := by decide +kernel
theorem dX12_readAtom_124 : decode cX12_readAtom 124 = .ok (.iconst 2, 1) := by decide +kernel
theorem dX12_readAtom_125 : decode cX12_readAtom 125 = .ok (.invokevirtual 165, 3) := by decide +kernel
theorem dX12_readAtom_128 : decode cX12_readAtom 128 = .ok (.return_, 1) := by decide +kernel
theorem ml_X12_188 : Cond.methodLink RX12 188 yX12_readIf ∈ Wd := mW 1614 (by decide +kernel) rfl
theorem mk_X12_readIf : MokV yX12_readIf cX12_readIf 2 none 1 := ⟨⟨mW 14 (by decide +kernel) rfl, mW 1617 (by decide +kernel) rfl, ⟨by decide, by decide, by decide +kernel⟩, by decide⟩, mW 1616 (by decide +kernel) rfl, mS (q := (yX12_readIf, 46)) 66 (by decide +kernel)⟩
theorem ml_X12_176 : Cond.methodLink RX12 176 yX12_wordOf ∈ Wd := mW 1607 (by decide +kernel) rfl
theorem mk_X12_wordOf : MokS yX12_wordOf cX12_wordOf 1 (some .int) 1 := ⟨⟨mW 14 (by decide +kernel) rfl, mW 1609 (by decide +kernel) rfl, ⟨by decide, by decide, by decide +kernel⟩, by decide⟩, mW 1608 (by decide +kernel) rfl⟩
def M_readAtom_B  (R_readAtom : Int32 → Hp → (Hp → Prop) → Prop) (R_readBoth : Int32 → Hp → (Hp → Prop) → Prop) (R_readIf : Int32 → Hp → (Hp → Prop) → Prop) (R_readSum : Int32 → Hp → (Hp → Prop) → Prop) (R_readTerm : Int32 → Hp → (Hp → Prop) → Prop) (R_readTruth : Int32 → Hp → (Hp → Prop) → Prop) (R_readUnit : Int32 → Hp → (Hp → Prop) → Prop) (x1 : Int32) (h : Hp) (Q : Hp → Prop) : Prop := M_is 23 h (fun r1 h2 => (r1 = 0 → ∀ J64 : Hp → Prop, J64 = (fun h3 => M_is 35 h3 (fun r4 h5 => (r4 = 0 → M_is 10 h5 (fun r6 h7 => (r6 = 0 → M_fails 2 h7 (fun h8 => Q h8)) ∧ (¬ r6 = 0 → R_readIf x1 h7 (fun h9 => Q h9)))) ∧ (¬ r4 = 0 → M_goesIn x1 h5 (fun r10 h11 => (¬ r10 = 0 → R_readSum (x1 + 1) h11 (fun h12 => M_eats 36 h12 (fun r13 h14 => (¬ r13 = 0 → Q h14) ∧ (r13 = 0 → M_fails 2 h14 (fun h15 => Q h15))))) ∧ (r10 = 0 → Q h11))))) → (¬ (gI h2 98 11) = 0 → J64 h2) ∧ ((gI h2 98 11) = 0 → M_wordOf (gI h2 98 9) h2 (fun r16 h17 => (r16 = (-1) → J64 h17) ∧ (¬ r16 = (-1) → M_wordOf (gI h17 98 9) h17 (fun r18 h19 => M_codes ((1000 : Int32) + r18) h19 (fun h20 => M_next  h20 (fun h21 => Q h21))))))) ∧ (¬ r1 = 0 → M_codes (gI h2 98 10) h2 (fun h22 => M_next  h22 (fun h23 => Q h23))))
set_option maxHeartbeats 4000000 in
set_option maxRecDepth 20000 in
theorem cb_M_readAtom {G : Gx}  {d d1 : Nat} (hdd : d1 + 1 ≤ d) (hD : 9 ≤ d) {R_readAtom : Int32 → Hp → (Hp → Prop) → Prop} {R_readBoth : Int32 → Hp → (Hp → Prop) → Prop} {R_readIf : Int32 → Hp → (Hp → Prop) → Prop} {R_readSum : Int32 → Hp → (Hp → Prop) → Prop} {R_readTerm : Int32 → Hp → (Hp → Prop) → Prop} {R_readTruth : Int32 → Hp → (Hp → Prop) → Prop} {R_readUnit : Int32 → Hp → (Hp → Prop) → Prop} (hR_readAtom : ∀ (y0 : Int32) (h : Hp) (Q : Hp → Prop), R_readAtom y0 h Q → Ct yX12_readAtom cX12_readAtom 2 none d1 G [.ref (gAd G 98), .int y0] h (QV G Q)) (hR_readBoth : ∀ (y0 : Int32) (h : Hp) (Q : Hp → Prop), R_readBoth y0 h Q → Ct yX12_readBoth cX12_readBoth 2 none d1 G [.ref (gAd G 98), .int y0] h (QV G Q)) (hR_readIf : ∀ (y0 : Int32) (h : Hp) (Q : Hp → Prop), R_readIf y0 h Q → Ct yX12_readIf cX12_readIf 2 none d1 G [.ref (gAd G 98), .int y0] h (QV G Q)) (hR_readSum : ∀ (y0 : Int32) (h : Hp) (Q : Hp → Prop), R_readSum y0 h Q → Ct yX12_readSum cX12_readSum 3 none d1 G [.ref (gAd G 98), .int y0] h (QV G Q)) (hR_readTerm : ∀ (y0 : Int32) (h : Hp) (Q : Hp → Prop), R_readTerm y0 h Q → Ct yX12_readTerm cX12_readTerm 2 none d1 G [.ref (gAd G 98), .int y0] h (QV G Q)) (hR_readTruth : ∀ (y0 : Int32) (h : Hp) (Q : Hp → Prop), R_readTruth y0 h Q → Ct yX12_readTruth cX12_readTruth 2 none d1 G [.ref (gAd G 98), .int y0] h (QV G Q)) (hR_readUnit : ∀ (y0 : Int32) (h : Hp) (Q : Hp → Prop), R_readUnit y0 h Q → Ct yX12_readUnit cX12_readUnit 3 none d1 G [.ref (gAd G 98), .int y0] h (QV G Q)) {x1 : Int32} {h : Hp} {Q : Hp → Prop} (hw : M_readAtom_B  R_readAtom R_readBoth R_readIf R_readSum R_readTerm R_readTruth R_readUnit x1 h Q) : Ct yX12_readAtom cX12_readAtom 2 none d G [.ref (gAd G 98), .int x1] h (QV G Q) := by
  refine ct_go [(0, .ref (gAd G 98)), (1, .int x1)] (plainFor_of_name (by decide)) rfl (Nat.le_of_ble_eq_true rfl) rfl ?_
  refine g_aload_n dX12_readAtom_0 rfl rfl ?_
  refine g_bipush (v := 23) dX12_readAtom_1 (by decide) ?_
  refine g_callVI [.int 23] (ci := 12) dX12_readAtom_3 ml_X12_159 mk_X12_is rfl rfl sh98 (by omega) (Nat.le_of_ble_eq_true rfl) rfl (c_M_is hw) (fun r1 h2 hw => ?_)
  refine g_if_eq 24 dX12_readAtom_6 rfl (fun hc => ?_) (fun hc => ?_)
  · have hw := hw.1 hc
    refine g_aload_n dX12_readAtom_24 rfl rfl ?_
    refine g_getI dX12_readAtom_25 fl_X12_153 sh98 rfl ?_
    refine jn_el hw (fun J64 eJ64 hw => ?_)
    have hJ64 : ∀ (h3 : Hp), J64 h3 → Go cX12_readAtom 2 RX12 none d G (QV G Q) 64 [(0, .ref (gAd G 98)), (1, .int x1)] [] h3 := by
      intro h3 hw
      subst eJ64
      refine g_aload_n dX12_readAtom_64 rfl rfl ?_
      refine g_bipush (v := 35) dX12_readAtom_65 (by decide) ?_
      refine g_callVI [.int 35] (ci := 12) dX12_readAtom_67 ml_X12_159 mk_X12_is rfl rfl sh98 (by omega) (Nat.le_of_ble_eq_true rfl) rfl (c_M_is hw) (fun r4 h5 hw => ?_)
      refine g_if_eq 106 dX12_readAtom_70 rfl (fun hc => ?_) (fun hc => ?_)
      · have hw := hw.1 hc
        refine g_aload_n dX12_readAtom_106 rfl rfl ?_
        refine g_bipush (v := 10) dX12_readAtom_107 (by decide) ?_
        refine g_callVI [.int 10] (ci := 12) dX12_readAtom_109 ml_X12_159 mk_X12_is rfl rfl sh98 (by omega) (Nat.le_of_ble_eq_true rfl) rfl (c_M_is hw) (fun r6 h7 hw => ?_)
        refine g_if_eq 123 dX12_readAtom_112 rfl (fun hc => ?_) (fun hc => ?_)
        · have hw := hw.1 hc
          refine g_aload_n dX12_readAtom_123 rfl rfl ?_
          refine g_iconst (v := 2) dX12_readAtom_124 (by decide) ?_
          refine g_callVV [.int 2] (ci := 12) dX12_readAtom_125 ml_X12_165 mk_X12_fails rfl rfl sh98 (by omega) (Nat.le_of_ble_eq_true rfl) rfl (c_M_fails hw) (fun h8 hw => ?_)
          exact g_vret dX12_readAtom_128 hw
        · have hw := hw.2 hc
          refine g_aload_n dX12_readAtom_115 rfl rfl ?_
          refine g_iload_n dX12_readAtom_116 rfl rfl ?_
          refine g_callVV [.int x1] (ci := 12) dX12_readAtom_117 ml_X12_188 mk_X12_readIf rfl rfl sh98 hdd (Nat.le_of_ble_eq_true rfl) rfl (hR_readIf _ _ _ hw) (fun h9 hw => ?_)
          refine g_goto 128 dX12_readAtom_120 rfl ?_
          exact g_vret dX12_readAtom_128 hw
      · have hw := hw.2 hc
        refine g_aload_n dX12_readAtom_73 rfl rfl ?_
        refine g_iload_n dX12_readAtom_74 rfl rfl ?_
        refine g_callVI [.int x1] (ci := 12) dX12_readAtom_75 ml_X12_179 mk_X12_goesIn rfl rfl sh98 (by omega) (Nat.le_of_ble_eq_true rfl) rfl (c_M_goesIn hw) (fun r10 h11 hw => ?_)
        refine g_if_ne 82 dX12_readAtom_78 rfl (fun hc => ?_) (fun hc => ?_)
        · have hw := hw.1 hc
          refine g_aload_n dX12_readAtom_82 rfl rfl ?_
          refine g_iload_n dX12_readAtom_83 rfl rfl ?_
          refine g_iconst (v := 1) dX12_readAtom_84 (by decide) ?_
          refine g_iadd dX12_readAtom_85 ?_
          refine g_callVV [.int (x1 + 1)] (ci := 12) dX12_readAtom_86 ml_X12_182 mk_X12_readSum rfl rfl sh98 hdd (Nat.le_of_ble_eq_true rfl) rfl (hR_readSum _ _ _ hw) (fun h12 hw => ?_)
          refine g_aload_n dX12_readAtom_89 rfl rfl ?_
          refine g_bipush (v := 36) dX12_readAtom_90 (by decide) ?_
          refine g_callVI [.int 36] (ci := 12) dX12_readAtom_92 ml_X12_185 mk_X12_eats rfl rfl sh98 (by omega) (Nat.le_of_ble_eq_true rfl) rfl (c_M_eats hw) (fun r13 h14 hw => ?_)
          refine g_if_ne 128 dX12_readAtom_95 rfl (fun hc => ?_) (fun hc => ?_)
          · have hw := hw.1 hc
            exact g_vret dX12_readAtom_128 hw
          · have hw := hw.2 hc
            refine g_aload_n dX12_readAtom_98 rfl rfl ?_
            refine g_iconst (v := 2) dX12_readAtom_99 (by decide) ?_
            refine g_callVV [.int 2] (ci := 12) dX12_readAtom_100 ml_X12_165 mk_X12_fails rfl rfl sh98 (by omega) (Nat.le_of_ble_eq_true rfl) rfl (c_M_fails hw) (fun h15 hw => ?_)
            refine g_goto 128 dX12_readAtom_103 rfl ?_
            exact g_vret dX12_readAtom_128 hw
        · have hw := hw.2 hc
          exact g_vret dX12_readAtom_81 hw
    refine g_if_ne 64 dX12_readAtom_28 rfl (fun hc => ?_) (fun hc => ?_)
    · have hw := hw.1 hc
      exact hJ64 _ hw
    · have hw := hw.2 hc
      refine g_aload_n dX12_readAtom_31 rfl rfl ?_
      refine g_getI dX12_readAtom_32 fl_X12_135 sh98 rfl ?_
      refine g_callSI [.int (gI h2 98 9)] dX12_readAtom_35 ml_X12_176 mk_X12_wordOf rfl (by omega) (Nat.le_of_ble_eq_true rfl) rfl (c_M_wordOf hw) (fun r16 h17 hw => ?_)
      refine g_iconst (v := (-1)) dX12_readAtom_38 (by decide) ?_
      refine g_icmp_eq 64 dX12_readAtom_39 rfl (fun hc => ?_) (fun hc => ?_)
      · have hw := hw.1 hc
        exact hJ64 _ hw
      · have hw := hw.2 hc
        refine g_aload_n dX12_readAtom_42 rfl rfl ?_
        refine g_sipush (v := 1000) dX12_readAtom_43 (by decide) ?_
        refine g_aload_n dX12_readAtom_46 rfl rfl ?_
        refine g_getI dX12_readAtom_47 fl_X12_135 sh98 rfl ?_
        refine g_callSI [.int (gI h17 98 9)] dX12_readAtom_50 ml_X12_176 mk_X12_wordOf rfl (by omega) (Nat.le_of_ble_eq_true rfl) rfl (c_M_wordOf hw) (fun r18 h19 hw => ?_)
        refine g_iadd dX12_readAtom_53 ?_
        refine g_callVV [.int ((1000 : Int32) + r18)] (ci := 12) dX12_readAtom_54 ml_X12_173 mk_X12_codes rfl rfl sh98 (by omega) (Nat.le_of_ble_eq_true rfl) rfl (c_M_codes hw) (fun h20 hw => ?_)
        refine g_aload_n dX12_readAtom_57 rfl rfl ?_
        refine g_callVV [] (ci := 12) dX12_readAtom_58 ml_X12_162 mk_X12_next rfl rfl sh98 (by omega) (Nat.le_of_ble_eq_true rfl) rfl (c_M_next hw) (fun h21 hw => ?_)
        refine g_goto 128 dX12_readAtom_61 rfl ?_
        exact g_vret dX12_readAtom_128 hw
  · have hw := hw.2 hc
    refine g_aload_n dX12_readAtom_9 rfl rfl ?_
    refine g_aload_n dX12_readAtom_10 rfl rfl ?_
    refine g_getI dX12_readAtom_11 fl_X12_148 sh98 rfl ?_
    refine g_callVV [.int (gI h2 98 10)] (ci := 12) dX12_readAtom_14 ml_X12_173 mk_X12_codes rfl rfl sh98 (by omega) (Nat.le_of_ble_eq_true rfl) rfl (c_M_codes hw) (fun h22 hw => ?_)
    refine g_aload_n dX12_readAtom_17 rfl rfl ?_
    refine g_callVV [] (ci := 12) dX12_readAtom_18 ml_X12_162 mk_X12_next rfl rfl sh98 (by omega) (Nat.le_of_ble_eq_true rfl) rfl (c_M_next hw) (fun h23 hw => ?_)
    refine g_goto 128 dX12_readAtom_21 rfl ?_
    exact g_vret dX12_readAtom_128 hw
theorem dX12_readTerm_0 : decode cX12_readTerm 0 = .ok (.aload_n 0, 1) := by decide +kernel
theorem dX12_readTerm_1 : decode cX12_readTerm 1 = .ok (.iload_n 1, 1) := by decide +kernel
theorem dX12_readTerm_2 : decode cX12_readTerm 2 = .ok (.invokevirtual 194, 3) := by decide +kernel
theorem dX12_readTerm_5 : decode cX12_readTerm 5 = .ok (.aload_n 0, 1) := by decide +kernel
theorem dX12_readTerm_6 : decode cX12_readTerm 6 = .ok (.bipush 34, 2) := by decide +kernel
theorem dX12_readTerm_8 : decode cX12_readTerm 8 = .ok (.invokevirtual 185, 3) := by decide +kernel
theorem dX12_readTerm_11 : decode cX12_readTerm 11 = .ok (.ifCond .eq 18, 3) := by decide +kernel
theorem dX12_readTerm_14 : decode cX12_readTerm 14 = .ok (.aload_n 0, 1) := by decide +kernel
theorem dX12_readTerm_15 : decode cX12_readTerm 15 = .ok (.iload_n 1, 1) := by decide +kernel
theorem dX12_readTerm_16 : decode cX12_readTerm 16 = .ok (.invokevirtual 194, 3) := by decide +kernel
theorem dX12_readTerm_19 : decode cX12_readTerm 19 = .ok (.aload_n 0, 1) := by decide +kernel
theorem dX12_readTerm_20 : decode cX12_readTerm 20 = .ok (.sipush 3002, 3) := by decide +kernel
theorem dX12_readTerm_23 : decode cX12_readTerm 23 = .ok (.invokevirtual 173, 3) := by decide +kernel
theorem dX12_readTerm_26 : decode cX12_readTerm 26 = .ok (.goto (-21), 3) := by decide +kernel
theorem dX12_readTerm_29 : decode cX12_readTerm 29 = .ok (.return_, 1) := by decide +kernel
theorem ml_X12_194 : Cond.methodLink RX12 194 yX12_readAtom ∈ Wd := mW 1599 (by decide +kernel) rfl
theorem mk_X12_readAtom : MokV yX12_readAtom cX12_readAtom 2 none 1 := ⟨⟨mW 14 (by decide +kernel) rfl, mW 1602 (by decide +kernel) rfl, ⟨by decide, by decide, by decide +kernel⟩, by decide⟩, mW 1601 (by decide +kernel) rfl, mS (q := (yX12_readAtom, 46)) 63 (by decide +kernel)⟩
def M_readTerm_L5 (x1 : Int32) (R_readAtom : Int32 → Hp → (Hp → Prop) → Prop) (R_readBoth : Int32 → Hp → (Hp → Prop) → Prop) (R_readIf : Int32 → Hp → (Hp → Prop) → Prop) (R_readSum : Int32 → Hp → (Hp → Prop) → Prop) (R_readTerm : Int32 → Hp → (Hp → Prop) → Prop) (R_readTruth : Int32 → Hp → (Hp → Prop) → Prop) (R_readUnit : Int32 → Hp → (Hp → Prop) → Prop) (Q : Hp → Prop) : Nat → Hp → Prop
  | 0, _ => False
  | n + 1, h => M_eats 34 h (fun r2 h3 => (r2 = 0 → Q h3) ∧ (¬ r2 = 0 → R_readAtom x1 h3 (fun h4 => M_codes 3002 h4 (fun h5 => M_readTerm_L5 x1 R_readAtom R_readBoth R_readIf R_readSum R_readTerm R_readTruth R_readUnit Q n  h5))))
set_option maxHeartbeats 4000000 in
set_option maxRecDepth 20000 in
theorem gl_M_readTerm_L5 {G : Gx}  {d d1 : Nat} (hdd : d1 + 1 ≤ d) (hD : 9 ≤ d) {R_readAtom : Int32 → Hp → (Hp → Prop) → Prop} {R_readBoth : Int32 → Hp → (Hp → Prop) → Prop} {R_readIf : Int32 → Hp → (Hp → Prop) → Prop} {R_readSum : Int32 → Hp → (Hp → Prop) → Prop} {R_readTerm : Int32 → Hp → (Hp → Prop) → Prop} {R_readTruth : Int32 → Hp → (Hp → Prop) → Prop} {R_readUnit : Int32 → Hp → (Hp → Prop) → Prop} (hR_readAtom : ∀ (y0 : Int32) (h : Hp) (Q : Hp → Prop), R_readAtom y0 h Q → Ct yX12_readAtom cX12_readAtom 2 none d1 G [.ref (gAd G 98), .int y0] h (QV G Q)) (hR_readBoth : ∀ (y0 : Int32) (h : Hp) (Q : Hp → Prop), R_readBoth y0 h Q → Ct yX12_readBoth cX12_readBoth 2 none d1 G [.ref (gAd G 98), .int y0] h (QV G Q)) (hR_readIf : ∀ (y0 : Int32) (h : Hp) (Q : Hp → Prop), R_readIf y0 h Q → Ct yX12_readIf cX12_readIf 2 none d1 G [.ref (gAd G 98), .int y0] h (QV G Q)) (hR_readSum : ∀ (y0 : Int32) (h : Hp) (Q : Hp → Prop), R_readSum y0 h Q → Ct yX12_readSum cX12_readSum 3 none d1 G [.ref (gAd G 98), .int y0] h (QV G Q)) (hR_readTerm : ∀ (y0 : Int32) (h : Hp) (Q : Hp → Prop), R_readTerm y0 h Q → Ct yX12_readTerm cX12_readTerm 2 none d1 G [.ref (gAd G 98), .int y0] h (QV G Q)) (hR_readTruth : ∀ (y0 : Int32) (h : Hp) (Q : Hp → Prop), R_readTruth y0 h Q → Ct yX12_readTruth cX12_readTruth 2 none d1 G [.ref (gAd G 98), .int y0] h (QV G Q)) (hR_readUnit : ∀ (y0 : Int32) (h : Hp) (Q : Hp → Prop), R_readUnit y0 h Q → Ct yX12_readUnit cX12_readUnit 3 none d1 G [.ref (gAd G 98), .int y0] h (QV G Q)) {x1 : Int32} {Q : Hp → Prop} : ∀ (n : Nat)  (h : Hp), M_readTerm_L5 x1 R_readAtom R_readBoth R_readIf R_readSum R_readTerm R_readTruth R_readUnit Q n  h → Go cX12_readTerm 2 RX12 none d G (QV G Q) 5 [(0, .ref (gAd G 98)), (1, .int x1)] [] h := by
  intro n
  induction n with
  | zero => intro  h hw; exact False.elim hw
  | succ n ih =>
    intro  h hw
    refine g_aload_n dX12_readTerm_5 rfl rfl ?_
    refine g_bipush (v := 34) dX12_readTerm_6 (by decide) ?_
    refine g_callVI [.int 34] (ci := 12) dX12_readTerm_8 ml_X12_185 mk_X12_eats rfl rfl sh98 (by omega) (Nat.le_of_ble_eq_true rfl) rfl (c_M_eats hw) (fun r2 h3 hw => ?_)
    refine g_if_eq 29 dX12_readTerm_11 rfl (fun hc => ?_) (fun hc => ?_)
    · have hw := hw.1 hc
      exact g_vret dX12_readTerm_29 hw
    · have hw := hw.2 hc
      refine g_aload_n dX12_readTerm_14 rfl rfl ?_
      refine g_iload_n dX12_readTerm_15 rfl rfl ?_
      refine g_callVV [.int x1] (ci := 12) dX12_readTerm_16 ml_X12_194 mk_X12_readAtom rfl rfl sh98 hdd (Nat.le_of_ble_eq_true rfl) rfl (hR_readAtom _ _ _ hw) (fun h4 hw => ?_)
      refine g_aload_n dX12_readTerm_19 rfl rfl ?_
      refine g_sipush (v := 3002) dX12_readTerm_20 (by decide) ?_
      refine g_callVV [.int 3002] (ci := 12) dX12_readTerm_23 ml_X12_173 mk_X12_codes rfl rfl sh98 (by omega) (Nat.le_of_ble_eq_true rfl) rfl (c_M_codes hw) (fun h5 hw => ?_)
      refine g_goto 5 dX12_readTerm_26 rfl ?_
      exact ih _ hw
def M_readTerm_B  (R_readAtom : Int32 → Hp → (Hp → Prop) → Prop) (R_readBoth : Int32 → Hp → (Hp → Prop) → Prop) (R_readIf : Int32 → Hp → (Hp → Prop) → Prop) (R_readSum : Int32 → Hp → (Hp → Prop) → Prop) (R_readTerm : Int32 → Hp → (Hp → Prop) → Prop) (R_readTruth : Int32 → Hp → (Hp → Prop) → Prop) (R_readUnit : Int32 → Hp → (Hp → Prop) → Prop) (x1 : Int32) (h : Hp) (Q : Hp → Prop) : Prop := R_readAtom x1 h (fun h1 => ∃ n6, M_readTerm_L5 x1 R_readAtom R_readBoth R_readIf R_readSum R_readTerm R_readTruth R_readUnit Q n6  h1)
set_option maxHeartbeats 4000000 in
set_option maxRecDepth 20000 in
theorem cb_M_readTerm {G : Gx}  {d d1 : Nat} (hdd : d1 + 1 ≤ d) (hD : 9 ≤ d) {R_readAtom : Int32 → Hp → (Hp → Prop) → Prop} {R_readBoth : Int32 → Hp → (Hp → Prop) → Prop} {R_readIf : Int32 → Hp → (Hp → Prop) → Prop} {R_readSum : Int32 → Hp → (Hp → Prop) → Prop} {R_readTerm : Int32 → Hp → (Hp → Prop) → Prop} {R_readTruth : Int32 → Hp → (Hp → Prop) → Prop} {R_readUnit : Int32 → Hp → (Hp → Prop) → Prop} (hR_readAtom : ∀ (y0 : Int32) (h : Hp) (Q : Hp → Prop), R_readAtom y0 h Q → Ct yX12_readAtom cX12_readAtom 2 none d1 G [.ref (gAd G 98), .int y0] h (QV G Q)) (hR_readBoth : ∀ (y0 : Int32) (h : Hp) (Q : Hp → Prop), R_readBoth y0 h Q → Ct yX12_readBoth cX12_readBoth 2 none d1 G [.ref (gAd G 98), .int y0] h (QV G Q)) (hR_readIf : ∀ (y0 : Int32) (h : Hp) (Q : Hp → Prop), R_readIf y0 h Q → Ct yX12_readIf cX12_readIf 2 none d1 G [.ref (gAd G 98), .int y0] h (QV G Q)) (hR_readSum : ∀ (y0 : Int32) (h : Hp) (Q : Hp → Prop), R_readSum y0 h Q → Ct yX12_readSum cX12_readSum 3 none d1 G [.ref (gAd G 98), .int y0] h (QV G Q)) (hR_readTerm : ∀ (y0 : Int32) (h : Hp) (Q : Hp → Prop), R_readTerm y0 h Q → Ct yX12_readTerm cX12_readTerm 2 none d1 G [.ref (gAd G 98), .int y0] h (QV G Q)) (hR_readTruth : ∀ (y0 : Int32) (h : Hp) (Q : Hp → Prop), R_readTruth y0 h Q → Ct yX12_readTruth cX12_readTruth 2 none d1 G [.ref (gAd G 98), .int y0] h (QV G Q)) (hR_readUnit : ∀ (y0 : Int32) (h : Hp) (Q : Hp → Prop), R_readUnit y0 h Q → Ct yX12_readUnit cX12_readUnit 3 none d1 G [.ref (gAd G 98), .int y0] h (QV G Q)) {x1 : Int32} {h : Hp} {Q : Hp → Prop} (hw : M_readTerm_B  R_readAtom R_readBoth R_readIf R_readSum R_readTerm R_readTruth R_readUnit x1 h Q) : Ct yX12_readTerm cX12_readTerm 2 none d G [.ref (gAd G 98), .int x1] h (QV G Q) := by
  refine ct_go [(0, .ref (gAd G 98)), (1, .int x1)] (plainFor_of_name (by decide)) rfl (Nat.le_of_ble_eq_true rfl) rfl ?_
  refine g_aload_n dX12_readTerm_0 rfl rfl ?_
  refine g_iload_n dX12_readTerm_1 rfl rfl ?_
  refine g_callVV [.int x1] (ci := 12) dX12_readTerm_2 ml_X12_194 mk_X12_readAtom rfl rfl sh98 hdd (Nat.le_of_ble_eq_true rfl) rfl (hR_readAtom _ _ _ hw) (fun h1 hw => ?_)
  obtain ⟨n6, hw⟩ := hw
  refine gl_M_readTerm_L5  hdd hD hR_readAtom hR_readBoth hR_readIf hR_readSum hR_readTerm hR_readTruth hR_readUnit  _ _ hw
theorem dX12_readSum_0 : decode cX12_readSum 0 = .ok (.aload_n 0, 1) := by decide +kernel
theorem dX12_readSum_1 : decode cX12_readSum 1 = .ok (.iload_n 1, 1) := by decide +kernel
theorem dX12_readSum_2 : decode cX12_readSum 2 = .ok (.invokevirtual 197, 3) := by decide +kernel
theorem dX12_readSum_5 : decode cX12_readSum 5 = .ok (.aload_n 0, 1) := by decide +kernel
theorem dX12_readSum_6 : decode cX12_readSum 6 = .ok (.bipush 32, 2) := by decide +kernel
theorem dX12_readSum_8 : decode cX12_readSum 8 = .ok (.invokevirtual 159, 3) := by decide +kernel
theorem dX12_readSum_11 : decode cX12_readSum 11 = .ok (.ifCond .ne 12, 3) := by decide +kernel
theorem dX12_readSum_14 : decode cX12_readSum 14 = .ok (.aload_n 0, 1) := by decide +kernel
theorem dX12_readSum_15 : decode cX12_readSum 15 = .ok (.bipush 33, 2) := by decide +kernel
theorem dX12_readSum_17 : decode cX12_readSum 17 = .ok (.invokevirtual 159, 3) := by decide +kernel
theorem dX12_readSum_20 : decode cX12_readSum 20 = .ok (.ifCond .eq 39, 3) := by decide +kernel
theorem dX12_readSum_23 : decode cX12_readSum 23 = .ok (.aload_n 0, 1) := by decide +kernel
theorem dX12_readSum_24 : decode cX12_readSum 24 = .ok (.getfield 135, 3) := by decide +kernel
theorem dX12_readSum_27 : decode cX12_readSum 27 = .ok (.bipush 32, 2) := by decide +kernel
theorem dX12_readSum_29 : decode cX12_readSum 29 = .ok (.if_icmp .ne 9, 3) := by decide +kernel
theorem dX12_readSum_32 : decode cX12_readSum 32 = .ok (.sipush 3000, 3) := by decide +kernel
theorem dX12_readSum_35 : decode cX12_readSum 35 = .ok (.goto 6, 3) := by decide +kernel
theorem dX12_readSum_38 : decode cX12_readSum 38 = .ok (.sipush 3001, 3) := by decide +kernel
theorem dX12_readSum_41 : decode cX12_readSum 41 = .ok (.istore_n 2, 1) := by decide +kernel
theorem dX12_readSum_42 : decode cX12_readSum 42 = .ok (.aload_n 0, 1) := by decide +kernel
theorem dX12_readSum_43 : decode cX12_readSum 43 = .ok (.invokevirtual 162, 3) := by decide +kernel
theorem dX12_readSum_46 : decode cX12_readSum 46 = .ok (.aload_n 0, 1) := by decide +kernel
theorem dX12_readSum_47 : decode cX12_readSum 47 = .ok (.iload_n 1, 1) := by decide +kernel
theorem dX12_readSum_48 : decode cX12_readSum 48 = .ok (.invokevirtual 197, 3) := by decide +kernel
theorem dX12_readSum_51 : decode cX12_readSum 51 = .ok (.aload_n 0, 1) := by decide +kernel
theorem dX12_readSum_52 : decode cX12_readSum 52 = .ok (.iload_n 2, 1) := by decide +kernel
theorem dX12_readSum_53 : decode cX12_readSum 53 = .ok (.invokevirtual 173, 3) := by decide +kernel
theorem dX12_readSum_56 : decode cX12_readSum 56 = .ok (.goto (-51), 3) := by decide +kernel
theorem dX12_readSum_59 : decode cX12_readSum 59 = .ok (.return_, 1) := by decide +kernel
theorem ml_X12_197 : Cond.methodLink RX12 197 yX12_readTerm ∈ Wd := mW 1595 (by decide +kernel) rfl
theorem mk_X12_readTerm : MokV yX12_readTerm cX12_readTerm 2 none 1 := ⟨⟨mW 14 (by decide +kernel) rfl, mW 1598 (by decide +kernel) rfl, ⟨by decide, by decide, by decide +kernel⟩, by decide⟩, mW 1597 (by decide +kernel) rfl, mS (q := (yX12_readTerm, 46)) 62 (by decide +kernel)⟩
def M_readSum_L5 (x1 : Int32) (R_readAtom : Int32 → Hp → (Hp → Prop) → Prop) (R_readBoth : Int32 → Hp → (Hp → Prop) → Prop) (R_readIf : Int32 → Hp → (Hp → Prop) → Prop) (R_readSum : Int32 → Hp → (Hp → Prop) → Prop) (R_readTerm : Int32 → Hp → (Hp → Prop) → Prop) (R_readTruth : Int32 → Hp → (Hp → Prop) → Prop) (R_readUnit : Int32 → Hp → (Hp → Prop) → Prop) (Q : Hp → Prop) : Nat → Hp → Prop
  | 0, _ => False
  | n + 1, h => M_is 32 h (fun r2 h3 => ∀ J23 : Hp → Prop, J23 = (fun h4 => ∀ J41 : Int32 → Hp → Prop, J41 = (fun s5 h6 => M_next  h6 (fun h7 => R_readTerm x1 h7 (fun h8 => M_codes s5 h8 (fun h9 => M_readSum_L5 x1 R_readAtom R_readBoth R_readIf R_readSum R_readTerm R_readTruth R_readUnit Q n  h9)))) → (¬ (gI h4 98 9) = 32 → J41 3001 h4) ∧ ((gI h4 98 9) = 32 → J41 3000 h4)) → (¬ r2 = 0 → J23 h3) ∧ (r2 = 0 → M_is 33 h3 (fun r10 h11 => (r10 = 0 → Q h11) ∧ (¬ r10 = 0 → J23 h11))))
set_option maxHeartbeats 4000000 in
set_option maxRecDepth 20000 in
theorem gl_M_readSum_L5 {G : Gx}  {d d1 : Nat} (hdd : d1 + 1 ≤ d) (hD : 9 ≤ d) {R_readAtom : Int32 → Hp → (Hp → Prop) → Prop} {R_readBoth : Int32 → Hp → (Hp → Prop) → Prop} {R_readIf : Int32 → Hp → (Hp → Prop) → Prop} {R_readSum : Int32 → Hp → (Hp → Prop) → Prop} {R_readTerm : Int32 → Hp → (Hp → Prop) → Prop} {R_readTruth : Int32 → Hp → (Hp → Prop) → Prop} {R_readUnit : Int32 → Hp → (Hp → Prop) → Prop} (hR_readAtom : ∀ (y0 : Int32) (h : Hp) (Q : Hp → Prop), R_readAtom y0 h Q → Ct yX12_readAtom cX12_readAtom 2 none d1 G [.ref (gAd G 98), .int y0] h (QV G Q)) (hR_readBoth : ∀ (y0 : Int32) (h : Hp) (Q : Hp → Prop), R_readBoth y0 h Q → Ct yX12_readBoth cX12_readBoth 2 none d1 G [.ref (gAd G 98), .int y0] h (QV G Q)) (hR_readIf : ∀ (y0 : Int32) (h : Hp) (Q : Hp → Prop), R_readIf y0 h Q → Ct yX12_readIf cX12_readIf 2 none d1 G [.ref (gAd G 98), .int y0] h (QV G Q)) (hR_readSum : ∀ (y0 : Int32) (h : Hp) (Q : Hp → Prop), R_readSum y0 h Q → Ct yX12_readSum cX12_readSum 3 none d1 G [.ref (gAd G 98), .int y0] h (QV G Q)) (hR_readTerm : ∀ (y0 : Int32) (h : Hp) (Q : Hp → Prop), R_readTerm y0 h Q → Ct yX12_readTerm cX12_readTerm 2 none d1 G [.ref (gAd G 98), .int y0] h (QV G Q)) (hR_readTruth : ∀ (y0 : Int32) (h : Hp) (Q : Hp → Prop), R_readTruth y0 h Q → Ct yX12_readTruth cX12_readTruth 2 none d1 G [.ref (gAd G 98), .int y0] h (QV G Q)) (hR_readUnit : ∀ (y0 : Int32) (h : Hp) (Q : Hp → Prop), R_readUnit y0 h Q → Ct yX12_readUnit cX12_readUnit 3 none d1 G [.ref (gAd G 98), .int y0] h (QV G Q)) {x1 : Int32} {Q : Hp → Prop} : ∀ (n : Nat)  (h : Hp), M_readSum_L5 x1 R_readAtom R_readBoth R_readIf R_readSum R_readTerm R_readTruth R_readUnit Q n  h → Go cX12_readSum 3 RX12 none d G (QV G Q) 5 [(0, .ref (gAd G 98)), (1, .int x1)] [] h := by
  intro n
  induction n with
  | zero => intro  h hw; exact False.elim hw
  | succ n ih =>
    intro  h hw
    refine g_aload_n dX12_readSum_5 rfl rfl ?_
    refine g_bipush (v := 32) dX12_readSum_6 (by decide) ?_
    refine g_callVI [.int 32] (ci := 12) dX12_readSum_8 ml_X12_159 mk_X12_is rfl rfl sh98 (by omega) (Nat.le_of_ble_eq_true rfl) rfl (c_M_is hw) (fun r2 h3 hw => ?_)
    refine jn_el hw (fun J23 eJ23 hw => ?_)
    have hJ23 : ∀ (h4 : Hp), J23 h4 → Go cX12_readSum 3 RX12 none d G (QV G Q) 23 [(0, .ref (gAd G 98)), (1, .int x1)] [] h4 := by
      intro h4 hw
      subst eJ23
      refine g_aload_n dX12_readSum_23 rfl rfl ?_
      refine g_getI dX12_readSum_24 fl_X12_135 sh98 rfl ?_
      refine g_bipush (v := 32) dX12_readSum_27 (by decide) ?_
      refine jn_el hw (fun J41 eJ41 hw => ?_)
      have hJ41 : ∀ (s5 : Int32) (h6 : Hp), J41 s5 h6 → Go cX12_readSum 3 RX12 none d G (QV G Q) 41 [(0, .ref (gAd G 98)), (1, .int x1)] [.int s5] h6 := by
        intro s5 h6 hw
        subst eJ41
        refine g_istore_n dX12_readSum_41 rfl (by decide) (lv1 := [(0, .ref (gAd G 98)), (1, .int x1), (2, .int s5)]) rfl ?_
        refine g_aload_n dX12_readSum_42 rfl rfl ?_
        refine g_callVV [] (ci := 12) dX12_readSum_43 ml_X12_162 mk_X12_next rfl rfl sh98 (by omega) (Nat.le_of_ble_eq_true rfl) rfl (c_M_next hw) (fun h7 hw => ?_)
        refine g_aload_n dX12_readSum_46 rfl rfl ?_
        refine g_iload_n dX12_readSum_47 rfl rfl ?_
        refine g_callVV [.int x1] (ci := 12) dX12_readSum_48 ml_X12_197 mk_X12_readTerm rfl rfl sh98 hdd (Nat.le_of_ble_eq_true rfl) rfl (hR_readTerm _ _ _ hw) (fun h8 hw => ?_)
        refine g_aload_n dX12_readSum_51 rfl rfl ?_
        refine g_iload_n dX12_readSum_52 rfl rfl ?_
        refine g_callVV [.int s5] (ci := 12) dX12_readSum_53 ml_X12_173 mk_X12_codes rfl rfl sh98 (by omega) (Nat.le_of_ble_eq_true rfl) rfl (c_M_codes hw) (fun h9 hw => ?_)
        refine g_goto 5 dX12_readSum_56 rfl ?_
        refine g_lv [0, 1] rfl ?_
        exact ih _ hw
      refine g_icmp_ne 38 dX12_readSum_29 rfl (fun hc => ?_) (fun hc => ?_)
      · have hw := hw.1 hc
        refine g_sipush (v := 3001) dX12_readSum_38 (by decide) ?_
        exact hJ41 _ _ hw
      · have hw := hw.2 hc
        refine g_sipush (v := 3000) dX12_readSum_32 (by decide) ?_
        refine g_goto 41 dX12_readSum_35 rfl ?_
        exact hJ41 _ _ hw
    refine g_if_ne 23 dX12_readSum_11 rfl (fun hc => ?_) (fun hc => ?_)
    · have hw := hw.1 hc
      exact hJ23 _ hw
    · have hw := hw.2 hc
      refine g_aload_n dX12_readSum_14 rfl rfl ?_
      refine g_bipush (v := 33) dX12_readSum_15 (by decide) ?_
      refine g_callVI [.int 33] (ci := 12) dX12_readSum_17 ml_X12_159 mk_X12_is rfl rfl sh98 (by omega) (Nat.le_of_ble_eq_true rfl) rfl (c_M_is hw) (fun r10 h11 hw => ?_)
      refine g_if_eq 59 dX12_readSum_20 rfl (fun hc => ?_) (fun hc => ?_)
      · have hw := hw.1 hc
        exact g_vret dX12_readSum_59 hw
      · have hw := hw.2 hc
        exact hJ23 _ hw
def M_readSum_B  (R_readAtom : Int32 → Hp → (Hp → Prop) → Prop) (R_readBoth : Int32 → Hp → (Hp → Prop) → Prop) (R_readIf : Int32 → Hp → (Hp → Prop) → Prop) (R_readSum : Int32 → Hp → (Hp → Prop) → Prop) (R_readTerm : Int32 → Hp → (Hp → Prop) → Prop) (R_readTruth : Int32 → Hp → (Hp → Prop) → Prop) (R_readUnit : Int32 → Hp → (Hp → Prop) → Prop) (x1 : Int32) (h : Hp) (Q : Hp → Prop) : Prop := R_readTerm x1 h (fun h1 => ∃ n12, M_readSum_L5 x1 R_readAtom R_readBoth R_readIf R_readSum R_readTerm R_readTruth R_readUnit Q n12  h1)
set_option maxHeartbeats 4000000 in
set_option maxRecDepth 20000 in
theorem cb_M_readSum {G : Gx}  {d d1 : Nat} (hdd : d1 + 1 ≤ d) (hD : 9 ≤ d) {R_readAtom : Int32 → Hp → (Hp → Prop) → Prop} {R_readBoth : Int32 → Hp → (Hp → Prop) → Prop} {R_readIf : Int32 → Hp → (Hp → Prop) → Prop} {R_readSum : Int32 → Hp → (Hp → Prop) → Prop} {R_readTerm : Int32 → Hp → (Hp → Prop) → Prop} {R_readTruth : Int32 → Hp → (Hp → Prop) → Prop} {R_readUnit : Int32 → Hp → (Hp → Prop) → Prop} (hR_readAtom : ∀ (y0 : Int32) (h : Hp) (Q : Hp → Prop), R_readAtom y0 h Q → Ct yX12_readAtom cX12_readAtom 2 none d1 G [.ref (gAd G 98), .int y0] h (QV G Q)) (hR_readBoth : ∀ (y0 : Int32) (h : Hp) (Q : Hp → Prop), R_readBoth y0 h Q → Ct yX12_readBoth cX12_readBoth 2 none d1 G [.ref (gAd G 98), .int y0] h (QV G Q)) (hR_readIf : ∀ (y0 : Int32) (h : Hp) (Q : Hp → Prop), R_readIf y0 h Q → Ct yX12_readIf cX12_readIf 2 none d1 G [.ref (gAd G 98), .int y0] h (QV G Q)) (hR_readSum : ∀ (y0 : Int32) (h : Hp) (Q : Hp → Prop), R_readSum y0 h Q → Ct yX12_readSum cX12_readSum 3 none d1 G [.ref (gAd G 98), .int y0] h (QV G Q)) (hR_readTerm : ∀ (y0 : Int32) (h : Hp) (Q : Hp → Prop), R_readTerm y0 h Q → Ct yX12_readTerm cX12_readTerm 2 none d1 G [.ref (gAd G 98), .int y0] h (QV G Q)) (hR_readTruth : ∀ (y0 : Int32) (h : Hp) (Q : Hp → Prop), R_readTruth y0 h Q → Ct yX12_readTruth cX12_readTruth 2 none d1 G [.ref (gAd G 98), .int y0] h (QV G Q)) (hR_readUnit : ∀ (y0 : Int32) (h : Hp) (Q : Hp → Prop), R_readUnit y0 h Q → Ct yX12_readUnit cX12_readUnit 3 none d1 G [.ref (gAd G 98), .int y0] h (QV G Q)) {x1 : Int32} {h : Hp} {Q : Hp → Prop} (hw : M_readSum_B  R_readAtom R_readBoth R_readIf R_readSum R_readTerm R_readTruth R_readUnit x1 h Q) : Ct yX12_readSum cX12_readSum 3 none d G [.ref (gAd G 98), .int x1] h (QV G Q) := by
  refine ct_go [(0, .ref (gAd G 98)), (1, .int x1)] (plainFor_of_name (by decide)) rfl (Nat.le_of_ble_eq_true rfl) rfl ?_
  refine g_aload_n dX12_readSum_0 rfl rfl ?_
  refine g_iload_n dX12_readSum_1 rfl rfl ?_
  refine g_callVV [.int x1] (ci := 12) dX12_readSum_2 ml_X12_197 mk_X12_readTerm rfl rfl sh98 hdd (Nat.le_of_ble_eq_true rfl) rfl (hR_readTerm _ _ _ hw) (fun h1 hw => ?_)
  obtain ⟨n12, hw⟩ := hw
  refine gl_M_readSum_L5  hdd hD hR_readAtom hR_readBoth hR_readIf hR_readSum hR_readTerm hR_readTruth hR_readUnit  _ _ hw
def M_cyc  : Nat → Nat → Int32 → Hp → (Hp → Prop) → Prop
  | 0, _, _, _, _ => False
  | n + 1, k, x, h, Q => match k with
    | 0 => M_readAtom_B  (M_cyc  n 0) (M_cyc  n 1) (M_cyc  n 2) (M_cyc  n 3) (M_cyc  n 4) (M_cyc  n 5) (M_cyc  n 6) x h Q
    | 1 => M_readBoth_B  (M_cyc  n 0) (M_cyc  n 1) (M_cyc  n 2) (M_cyc  n 3) (M_cyc  n 4) (M_cyc  n 5) (M_cyc  n 6) x h Q
    | 2 => M_readIf_B  (M_cyc  n 0) (M_cyc  n 1) (M_cyc  n 2) (M_cyc  n 3) (M_cyc  n 4) (M_cyc  n 5) (M_cyc  n 6) x h Q
    | 3 => M_readSum_B  (M_cyc  n 0) (M_cyc  n 1) (M_cyc  n 2) (M_cyc  n 3) (M_cyc  n 4) (M_cyc  n 5) (M_cyc  n 6) x h Q
    | 4 => M_readTerm_B  (M_cyc  n 0) (M_cyc  n 1) (M_cyc  n 2) (M_cyc  n 3) (M_cyc  n 4) (M_cyc  n 5) (M_cyc  n 6) x h Q
    | 5 => M_readTruth_B  (M_cyc  n 0) (M_cyc  n 1) (M_cyc  n 2) (M_cyc  n 3) (M_cyc  n 4) (M_cyc  n 5) (M_cyc  n 6) x h Q
    | 6 => M_readUnit_B  (M_cyc  n 0) (M_cyc  n 1) (M_cyc  n 2) (M_cyc  n 3) (M_cyc  n 4) (M_cyc  n 5) (M_cyc  n 6) x h Q
    | _ => False
theorem cn_M_cyc {G : Gx}  : ∀ (n : Nat), (∀ (x1 : Int32) (h : Hp) (Q : Hp → Prop), M_cyc  n 0 x1 h Q → Ct yX12_readAtom cX12_readAtom 2 none (9 + n) G [.ref (gAd G 98), .int x1] h (QV G Q)) ∧ (∀ (x1 : Int32) (h : Hp) (Q : Hp → Prop), M_cyc  n 1 x1 h Q → Ct yX12_readBoth cX12_readBoth 2 none (9 + n) G [.ref (gAd G 98), .int x1] h (QV G Q)) ∧ (∀ (x1 : Int32) (h : Hp) (Q : Hp → Prop), M_cyc  n 2 x1 h Q → Ct yX12_readIf cX12_readIf 2 none (9 + n) G [.ref (gAd G 98), .int x1] h (QV G Q)) ∧ (∀ (x1 : Int32) (h : Hp) (Q : Hp → Prop), M_cyc  n 3 x1 h Q → Ct yX12_readSum cX12_readSum 3 none (9 + n) G [.ref (gAd G 98), .int x1] h (QV G Q)) ∧ (∀ (x1 : Int32) (h : Hp) (Q : Hp → Prop), M_cyc  n 4 x1 h Q → Ct yX12_readTerm cX12_readTerm 2 none (9 + n) G [.ref (gAd G 98), .int x1] h (QV G Q)) ∧ (∀ (x1 : Int32) (h : Hp) (Q : Hp → Prop), M_cyc  n 5 x1 h Q → Ct yX12_readTruth cX12_readTruth 2 none (9 + n) G [.ref (gAd G 98), .int x1] h (QV G Q)) ∧ (∀ (x1 : Int32) (h : Hp) (Q : Hp → Prop), M_cyc  n 6 x1 h Q → Ct yX12_readUnit cX12_readUnit 3 none (9 + n) G [.ref (gAd G 98), .int x1] h (QV G Q)) := by
  intro n
  induction n with
  | zero => exact ⟨fun _ _ _ hw => False.elim hw, fun _ _ _ hw => False.elim hw, fun _ _ _ hw => False.elim hw, fun _ _ _ hw => False.elim hw, fun _ _ _ hw => False.elim hw, fun _ _ _ hw => False.elim hw, fun _ _ _ hw => False.elim hw⟩
  | succ n ih =>
    obtain ⟨i0, i1, i2, i3, i4, i5, i6⟩ := ih
    exact ⟨fun x1 h Q hw => cb_M_readAtom  (d := 9 + (n + 1)) (d1 := 9 + n) (by omega) (by omega) i0 i1 i2 i3 i4 i5 i6 hw, fun x1 h Q hw => cb_M_readBoth  (d := 9 + (n + 1)) (d1 := 9 + n) (by omega) (by omega) i0 i1 i2 i3 i4 i5 i6 hw, fun x1 h Q hw => cb_M_readIf  (d := 9 + (n + 1)) (d1 := 9 + n) (by omega) (by omega) i0 i1 i2 i3 i4 i5 i6 hw, fun x1 h Q hw => cb_M_readSum  (d := 9 + (n + 1)) (d1 := 9 + n) (by omega) (by omega) i0 i1 i2 i3 i4 i5 i6 hw, fun x1 h Q hw => cb_M_readTerm  (d := 9 + (n + 1)) (d1 := 9 + n) (by omega) (by omega) i0 i1 i2 i3 i4 i5 i6 hw, fun x1 h Q hw => cb_M_readTruth  (d := 9 + (n + 1)) (d1 := 9 + n) (by omega) (by omega) i0 i1 i2 i3 i4 i5 i6 hw, fun x1 h Q hw => cb_M_readUnit  (d := 9 + (n + 1)) (d1 := 9 + n) (by omega) (by omega) i0 i1 i2 i3 i4 i5 i6 hw⟩
def M_readAtom  (n : Nat) (x1 : Int32) (h : Hp) (Q : Hp → Prop) : Prop := M_cyc  n 0 x1 h Q
theorem c_M_readAtom {G : Gx}  {x1 : Int32} {h : Hp} {Q : Hp → Prop} (hw : M_readAtom  64 x1 h Q) : Ct yX12_readAtom cX12_readAtom 2 none 73 G [.ref (gAd G 98), .int x1] h (QV G Q) := (cn_M_cyc  64).1 _ _ _ hw
def M_readBoth  (n : Nat) (x1 : Int32) (h : Hp) (Q : Hp → Prop) : Prop := M_cyc  n 1 x1 h Q
theorem c_M_readBoth {G : Gx}  {x1 : Int32} {h : Hp} {Q : Hp → Prop} (hw : M_readBoth  64 x1 h Q) : Ct yX12_readBoth cX12_readBoth 2 none 73 G [.ref (gAd G 98), .int x1] h (QV G Q) := (cn_M_cyc  64).2.1 _ _ _ hw
def M_readIf  (n : Nat) (x1 : Int32) (h : Hp) (Q : Hp → Prop) : Prop := M_cyc  n 2 x1 h Q
theorem c_M_readIf {G : Gx}  {x1 : Int32} {h : Hp} {Q : Hp → Prop} (hw : M_readIf  64 x1 h Q) : Ct yX12_readIf cX12_readIf 2 none 73 G [.ref (gAd G 98), .int x1] h (QV G Q) := (cn_M_cyc  64).2.2.1 _ _ _ hw
def M_readSum  (n : Nat) (x1 : Int32) (h : Hp) (Q : Hp → Prop) : Prop := M_cyc  n 3 x1 h Q
theorem c_M_readSum {G : Gx}  {x1 : Int32} {h : Hp} {Q : Hp → Prop} (hw : M_readSum  64 x1 h Q) : Ct yX12_readSum cX12_readSum 3 none 73 G [.ref (gAd G 98), .int x1] h (QV G Q) := (cn_M_cyc  64).2.2.2.1 _ _ _ hw
def M_readTerm  (n : Nat) (x1 : Int32) (h : Hp) (Q : Hp → Prop) : Prop := M_cyc  n 4 x1 h Q
theorem c_M_readTerm {G : Gx}  {x1 : Int32} {h : Hp} {Q : Hp → Prop} (hw : M_readTerm  64 x1 h Q) : Ct yX12_readTerm cX12_readTerm 2 none 73 G [.ref (gAd G 98), .int x1] h (QV G Q) := (cn_M_cyc  64).2.2.2.2.1 _ _ _ hw
def M_readTruth  (n : Nat) (x1 : Int32) (h : Hp) (Q : Hp → Prop) : Prop := M_cyc  n 5 x1 h Q
theorem c_M_readTruth {G : Gx}  {x1 : Int32} {h : Hp} {Q : Hp → Prop} (hw : M_readTruth  64 x1 h Q) : Ct yX12_readTruth cX12_readTruth 2 none 73 G [.ref (gAd G 98), .int x1] h (QV G Q) := (cn_M_cyc  64).2.2.2.2.2.1 _ _ _ hw
def M_readUnit  (n : Nat) (x1 : Int32) (h : Hp) (Q : Hp → Prop) : Prop := M_cyc  n 6 x1 h Q
theorem c_M_readUnit {G : Gx}  {x1 : Int32} {h : Hp} {Q : Hp → Prop} (hw : M_readUnit  64 x1 h Q) : Ct yX12_readUnit cX12_readUnit 3 none 73 G [.ref (gAd G 98), .int x1] h (QV G Q) := (cn_M_cyc  64).2.2.2.2.2.2 _ _ _ hw
theorem dX12_readLaw_0 : decode cX12_readLaw 0 = .ok (.aload_n 0, 1) := by decide +kernel
theorem dX12_readLaw_1 : decode cX12_readLaw 1 = .ok (.invokevirtual 162, 3) := by decide +kernel
theorem dX12_readLaw_4 : decode cX12_readLaw 4 = .ok (.aload_n 0, 1) := by decide +kernel
theorem dX12_readLaw_5 : decode cX12_readLaw 5 = .ok (.bipush 31, 2) := by decide +kernel
theorem dX12_readLaw_7 : decode cX12_readLaw 7 = .ok (.invokevirtual 185, 3) := by decide +kernel
theorem dX12_readLaw_10 : decode cX12_readLaw 10 = .ok (.ifCond .ne 8, 3) := by decide +kernel
theorem dX12_readLaw_13 : decode cX12_readLaw 13 = .ok (.aload_n 0, 1) := by decide +kernel
theorem dX12_readLaw_14 : decode cX12_readLaw 14 = .ok (.iconst 2, 1) := by decide +kernel
theorem dX12_readLaw_15 : decode cX12_readLaw 15 = .ok (.invokevirtual 165, 3) := by decide +kernel
theorem dX12_readLaw_18 : decode cX12_readLaw 18 = .ok (.aload_n 0, 1) := by decide +kernel
theorem dX12_readLaw_19 : decode cX12_readLaw 19 = .ok (.getfield 24, 3) := by decide +kernel
theorem dX12_readLaw_22 : decode cX12_readLaw 22 = .ok (.sipush 191, 3) := by decide +kernel
theorem dX12_readLaw_25 : decode cX12_readLaw 25 = .ok (.iaload, 1) := by decide +kernel
theorem dX12_readLaw_26 : decode cX12_readLaw 26 = .ok (.istore_n 2, 1) := by decide +kernel
theorem dX12_readLaw_27 : decode cX12_readLaw 27 = .ok (.iload_n 1, 1) := by decide +kernel
theorem dX12_readLaw_28 : decode cX12_readLaw 28 = .ok (.ifCond .ne 11, 3) := by decide +kernel
theorem dX12_readLaw_31 : decode cX12_readLaw 31 = .ok (.aload_n 0, 1) := by decide +kernel
theorem dX12_readLaw_32 : decode cX12_readLaw 32 = .ok (.iconst 0, 1) := by decide +kernel
theorem dX12_readLaw_33 : decode cX12_readLaw 33 = .ok (.invokevirtual 182, 3) := by decide +kernel
theorem dX12_readLaw_36 : decode cX12_readLaw 36 = .ok (.goto 8, 3) := by decide +kernel
theorem dX12_readLaw_39 : decode cX12_readLaw 39 = .ok (.aload_n 0, 1) := by decide +kernel
theorem dX12_readLaw_40 : decode cX12_readLaw 40 = .ok (.iconst 0, 1) := by decide +kernel
theorem dX12_readLaw_41 : decode cX12_readLaw 41 = .ok (.invokevirtual 191, 3) := by decide +kernel
theorem dX12_readLaw_44 : decode cX12_readLaw 44 = .ok (.aload_n 0, 1) := by decide +kernel
theorem dX12_readLaw_45 : decode cX12_readLaw 45 = .ok (.getfield 153, 3) := by decide +kernel
theorem dX12_readLaw_48 : decode cX12_readLaw 48 = .ok (.ifCond .eq 4, 3) := by decide +kernel
theorem dX12_readLaw_51 : decode cX12_readLaw 51 = .ok (.return_, 1) := by decide +kernel
theorem dX12_readLaw_52 : decode cX12_readLaw 52 = .ok (.aload_n 0, 1) := by decide +kernel
theorem dX12_readLaw_53 : decode cX12_readLaw 53 = .ok (.getfield 24, 3) := by decide +kernel
theorem dX12_readLaw_56 : decode cX12_readLaw 56 = .ok (.iconst 4, 1) := by decide +kernel
theorem dX12_readLaw_57 : decode cX12_readLaw 57 = .ok (.iload_n 1, 1) := by decide +kernel
theorem dX12_readLaw_58 : decode cX12_readLaw 58 = .ok (.iadd, 1) := by decide +kernel
theorem dX12_readLaw_59 : decode cX12_readLaw 59 = .ok (.iconst 1, 1) := by decide +kernel
theorem dX12_readLaw_60 : decode cX12_readLaw 60 = .ok (.iastore, 1) := by decide +kernel
theorem dX12_readLaw_61 : decode cX12_readLaw 61 = .ok (.aload_n 0, 1) := by decide +kernel
theorem dX12_readLaw_62 : decode cX12_readLaw 62 = .ok (.getfield 24, 3) := by decide +kernel
theorem dX12_readLaw_65 : decode cX12_readLaw 65 = .ok (.bipush 6, 2) := by decide +kernel
theorem dX12_readLaw_67 : decode cX12_readLaw 67 = .ok (.iload_n 1, 1) := by decide +kernel
theorem dX12_readLaw_68 : decode cX12_readLaw 68 = .ok (.iadd, 1) := by decide +kernel
theorem dX12_readLaw_69 : decode cX12_readLaw 69 = .ok (.iload_n 2, 1) := by decide +kernel
theorem dX12_readLaw_70 : decode cX12_readLaw 70 = .ok (.iastore, 1) := by decide +kernel
theorem dX12_readLaw_71 : decode cX12_readLaw 71 = .ok (.aload_n 0, 1) := by decide +kernel
theorem dX12_readLaw_72 : decode cX12_readLaw 72 = .ok (.getfield 24, 3) := by decide +kernel
theorem dX12_readLaw_75 : decode cX12_readLaw 75 = .ok (.bipush 8, 2) := by decide +kernel
theorem dX12_readLaw_77 : decode cX12_readLaw 77 = .ok (.iload_n 1, 1) := by decide +kernel
theorem dX12_readLaw_78 : decode cX12_readLaw 78 = .ok (.iadd, 1) := by decide +kernel
theorem dX12_readLaw_79 : decode cX12_readLaw 79 = .ok (.aload_n 0, 1) := by decide +kernel
theorem dX12_readLaw_80 : decode cX12_readLaw 80 = .ok (.getfield 24, 3) := by decide +kernel
theorem dX12_readLaw_83 : decode cX12_readLaw 83 = .ok (.sipush 191, 3) := by decide +kernel
theorem dX12_readLaw_86 : decode cX12_readLaw 86 = .ok (.iaload, 1) := by decide +kernel
theorem dX12_readLaw_87 : decode cX12_readLaw 87 = .ok (.iload_n 2, 1) := by decide +kernel
theorem dX12_readLaw_88 : decode cX12_readLaw 88 = .ok (.isub, 1) := by decide +kernel
theorem dX12_readLaw_89 : decode cX12_readLaw 89 = .ok (.iastore, 1) := by decide +kernel
theorem dX12_readLaw_90 : decode cX12_readLaw 90 = .ok (.return_, 1) := by decide +kernel
def M_readLaw (x1 : Int32) (h : Hp) (Q : Hp → Prop) : Prop := M_next  h (fun h1 => M_eats 31 h1 (fun r2 h3 => ∀ J18 : Hp → Prop, J18 = (fun h4 => ∀ v5 : Int32, v5 = (gI h4 102 191) → ∀ J44 : Hp → Prop, J44 = (fun h6 => ((gI h6 98 11) = 0 → vp_in ((4 : Int32) + x1) 1092 ∧ ∀ h7 : Hp, h7 = sI h6 102 (((4 : Int32) + x1)).toNatClampNeg 1 → vp_in ((6 : Int32) + x1) 1092 ∧ ∀ h8 : Hp, h8 = sI h7 102 (((6 : Int32) + x1)).toNatClampNeg v5 → vp_in ((8 : Int32) + x1) 1092 ∧ ∀ h9 : Hp, h9 = sI h8 102 (((8 : Int32) + x1)).toNatClampNeg ((gI h8 102 191) - v5) → Q h9) ∧ (¬ (gI h6 98 11) = 0 → Q h6)) → (¬ x1 = 0 → M_readTruth 64 0 h4 (fun h10 => J44 h10)) ∧ (x1 = 0 → M_readSum 64 0 h4 (fun h11 => J44 h11))) → (¬ r2 = 0 → J18 h3) ∧ (r2 = 0 → M_fails 2 h3 (fun h12 => J18 h12))))
set_option maxHeartbeats 4000000 in
set_option maxRecDepth 20000 in
theorem c_M_readLaw {G : Gx}  {x1 : Int32} {h : Hp} {Q : Hp → Prop} (hw : M_readLaw x1 h Q) : Ct yX12_readLaw cX12_readLaw 3 none 74 G [.ref (gAd G 98), .int x1] h (QV G Q) := by
  refine ct_go [(0, .ref (gAd G 98)), (1, .int x1)] (plainFor_of_name (by decide)) rfl (Nat.le_of_ble_eq_true rfl) rfl ?_
  refine g_aload_n dX12_readLaw_0 rfl rfl ?_
  refine g_callVV [] (ci := 12) dX12_readLaw_1 ml_X12_162 mk_X12_next rfl rfl sh98 (Nat.le_of_ble_eq_true rfl) (Nat.le_of_ble_eq_true rfl) rfl (c_M_next hw) (fun h1 hw => ?_)
  refine g_aload_n dX12_readLaw_4 rfl rfl ?_
  refine g_bipush (v := 31) dX12_readLaw_5 (by decide) ?_
  refine g_callVI [.int 31] (ci := 12) dX12_readLaw_7 ml_X12_185 mk_X12_eats rfl rfl sh98 (Nat.le_of_ble_eq_true rfl) (Nat.le_of_ble_eq_true rfl) rfl (c_M_eats hw) (fun r2 h3 hw => ?_)
  refine jn_el hw (fun J18 eJ18 hw => ?_)
  have hJ18 : ∀ (h4 : Hp), J18 h4 → Go cX12_readLaw 3 RX12 none 74 G (QV G Q) 18 [(0, .ref (gAd G 98)), (1, .int x1)] [] h4 := by
    intro h4 hw
    subst eJ18
    refine g_aload_n dX12_readLaw_18 rfl rfl ?_
    refine g_getA dX12_readLaw_19 fl_X12_24 sh98 rfl ?_
    refine g_sipush (v := 191) dX12_readLaw_22 (by decide) ?_
    refine g_ialdK dX12_readLaw_25 ia102 al102 (by unfold vp_in; decide) (k := 191) (by decide) ?_
    refine g_topi (fun v5 ev5 => ?_)
    have hw := hw v5 ev5
    refine g_istore_n dX12_readLaw_26 rfl (by decide) (lv1 := [(0, .ref (gAd G 98)), (1, .int x1), (2, .int v5)]) rfl ?_
    refine g_iload_n dX12_readLaw_27 rfl rfl ?_
    refine jn_el hw (fun J44 eJ44 hw => ?_)
    have hJ44 : ∀ (h6 : Hp), J44 h6 → Go cX12_readLaw 3 RX12 none 74 G (QV G Q) 44 [(0, .ref (gAd G 98)), (1, .int x1), (2, .int v5)] [] h6 := by
      intro h6 hw
      subst eJ44
      refine g_aload_n dX12_readLaw_44 rfl rfl ?_
      refine g_getI dX12_readLaw_45 fl_X12_153 sh98 rfl ?_
      refine g_if_eq 52 dX12_readLaw_48 rfl (fun hc => ?_) (fun hc => ?_)
      · have hw := hw.1 hc
        refine g_aload_n dX12_readLaw_52 rfl rfl ?_
        refine g_getA dX12_readLaw_53 fl_X12_24 sh98 rfl ?_
        refine g_iconst (v := 4) dX12_readLaw_56 (by decide) ?_
        refine g_iload_n dX12_readLaw_57 rfl rfl ?_
        refine g_iadd dX12_readLaw_58 ?_
        refine g_iconst (v := 1) dX12_readLaw_59 (by decide) ?_
        refine g_iast dX12_readLaw_60 ia102 al102 hw.1 ?_
        have hw := hw.2
        refine g_heap (fun h7 eh7 => ?_)
        have hw := hw h7 eh7
        refine g_aload_n dX12_readLaw_61 rfl rfl ?_
        refine g_getA dX12_readLaw_62 fl_X12_24 sh98 rfl ?_
        refine g_bipush (v := 6) dX12_readLaw_65 (by decide) ?_
        refine g_iload_n dX12_readLaw_67 rfl rfl ?_
        refine g_iadd dX12_readLaw_68 ?_
        refine g_iload_n dX12_readLaw_69 rfl rfl ?_
        refine g_iast dX12_readLaw_70 ia102 al102 hw.1 ?_
        have hw := hw.2
        refine g_heap (fun h8 eh8 => ?_)
        have hw := hw h8 eh8
        refine g_aload_n dX12_readLaw_71 rfl rfl ?_
        refine g_getA dX12_readLaw_72 fl_X12_24 sh98 rfl ?_
        refine g_bipush (v := 8) dX12_readLaw_75 (by decide) ?_
        refine g_iload_n dX12_readLaw_77 rfl rfl ?_
        refine g_iadd dX12_readLaw_78 ?_
        refine g_aload_n dX12_readLaw_79 rfl rfl ?_
        refine g_getA dX12_readLaw_80 fl_X12_24 sh98 rfl ?_
        refine g_sipush (v := 191) dX12_readLaw_83 (by decide) ?_
        refine g_ialdK dX12_readLaw_86 ia102 al102 (by unfold vp_in; decide) (k := 191) (by decide) ?_
        refine g_iload_n dX12_readLaw_87 rfl rfl ?_
        refine g_isub dX12_readLaw_88 ?_
        refine g_iast dX12_readLaw_89 ia102 al102 hw.1 ?_
        have hw := hw.2
        refine g_heap (fun h9 eh9 => ?_)
        have hw := hw h9 eh9
        exact g_vret dX12_readLaw_90 hw
      · have hw := hw.2 hc
        exact g_vret dX12_readLaw_51 hw
    refine g_if_ne 39 dX12_readLaw_28 rfl (fun hc => ?_) (fun hc => ?_)
    · have hw := hw.1 hc
      refine g_aload_n dX12_readLaw_39 rfl rfl ?_
      refine g_iconst (v := 0) dX12_readLaw_40 (by decide) ?_
      refine g_callVV [.int 0] (ci := 12) dX12_readLaw_41 ml_X12_191 mk_X12_readTruth rfl rfl sh98 (Nat.le_of_ble_eq_true rfl) (Nat.le_of_ble_eq_true rfl) rfl (c_M_readTruth hw) (fun h10 hw => ?_)
      exact hJ44 _ hw
    · have hw := hw.2 hc
      refine g_aload_n dX12_readLaw_31 rfl rfl ?_
      refine g_iconst (v := 0) dX12_readLaw_32 (by decide) ?_
      refine g_callVV [.int 0] (ci := 12) dX12_readLaw_33 ml_X12_182 mk_X12_readSum rfl rfl sh98 (Nat.le_of_ble_eq_true rfl) (Nat.le_of_ble_eq_true rfl) rfl (c_M_readSum hw) (fun h11 hw => ?_)
      refine g_goto 44 dX12_readLaw_36 rfl ?_
      exact hJ44 _ hw
  refine g_if_ne 18 dX12_readLaw_10 rfl (fun hc => ?_) (fun hc => ?_)
  · have hw := hw.1 hc
    exact hJ18 _ hw
  · have hw := hw.2 hc
    refine g_aload_n dX12_readLaw_13 rfl rfl ?_
    refine g_iconst (v := 2) dX12_readLaw_14 (by decide) ?_
    refine g_callVV [.int 2] (ci := 12) dX12_readLaw_15 ml_X12_165 mk_X12_fails rfl rfl sh98 (Nat.le_of_ble_eq_true rfl) (Nat.le_of_ble_eq_true rfl) rfl (c_M_fails hw) (fun h12 hw => ?_)
    exact hJ18 _ hw
theorem dX12_readLine_0 : decode cX12_readLine 0 = .ok (.aload_n 0, 1) := by decide +kernel
theorem dX12_readLine_1 : decode cX12_readLine 1 = .ok (.getfield 153, 3) := by decide +kernel
theorem dX12_readLine_4 : decode cX12_readLine 4 = .ok (.ifCond .eq 4, 3) := by decide +kernel
theorem dX12_readLine_7 : decode cX12_readLine 7 = .ok (.return_, 1) := by decide +kernel
theorem dX12_readLine_8 : decode cX12_readLine 8 = .ok (.aload_n 0, 1) := by decide +kernel
theorem dX12_readLine_9 : decode cX12_readLine 9 = .ok (.iconst 2, 1) := by decide +kernel
theorem dX12_readLine_10 : decode cX12_readLine 10 = .ok (.invokevirtual 159, 3) := by decide +kernel
theorem dX12_readLine_13 : decode cX12_readLine 13 = .ok (.ifCond .eq 10, 3) := by decide +kernel
theorem dX12_readLine_16 : decode cX12_readLine 16 = .ok (.aload_n 0, 1) := by decide +kernel
theorem dX12_readLine_17 : decode cX12_readLine 17 = .ok (.invokevirtual 210, 3) := by decide +kernel
theorem dX12_readLine_20 : decode cX12_readLine 20 = .ok (.goto 55, 3) := by decide +kernel
theorem dX12_readLine_23 : decode cX12_readLine 23 = .ok (.aload_n 0, 1) := by decide +kernel
theorem dX12_readLine_24 : decode cX12_readLine 24 = .ok (.iconst 5, 1) := by decide +kernel
theorem dX12_readLine_25 : decode cX12_readLine 25 = .ok (.invokevirtual 159, 3) := by decide +kernel
theorem dX12_readLine_28 : decode cX12_readLine 28 = .ok (.ifCond .eq 10, 3) := by decide +kernel
theorem dX12_readLine_31 : decode cX12_readLine 31 = .ok (.aload_n 0, 1) := by decide +kernel
theorem dX12_readLine_32 : decode cX12_readLine 32 = .ok (.invokevirtual 213, 3) := by decide +kernel
theorem dX12_readLine_35 : decode cX12_readLine 35 = .ok (.goto 40, 3) := by decide +kernel
theorem dX12_readLine_38 : decode cX12_readLine 38 = .ok (.aload_n 0, 1) := by decide +kernel
theorem dX12_readLine_39 : decode cX12_readLine 39 = .ok (.bipush 8, 2) := by decide +kernel
theorem dX12_readLine_41 : decode cX12_readLine 41 = .ok (.invokevirtual 159, 3) := by decide +kernel
theorem dX12_readLine_44 : decode cX12_readLine 44 = .ok (.ifCond .ne 12, 3) := by decide +kernel
theorem dX12_readLine_47 : decode cX12_readLine 47 = .ok (.aload_n 0, 1) := by decide +kernel
theorem dX12_readLine_48 : decode cX12_readLine 48 = .ok (.bipush 9, 2) := by decide +kernel
theorem dX12_readLine_50 : decode cX12_readLine 50 = .ok (.invokevirtual 159, 3) := by decide +kernel
theorem dX12_readLine_53 : decode cX12_readLine 53 = .ok (.ifCond .eq 17, 3) := by decide +kernel
theorem dX12_readLine_56 : decode cX12_readLine 56 = .ok (.aload_n 0, 1) := by decide +kernel
theorem dX12_readLine_57 : decode cX12_readLine 57 = .ok (.aload_n 0, 1) := by decide +kernel
theorem dX12_readLine_58 : decode cX12_readLine 58 = .ok (.getfield 135, 3) := by decide +kernel
theorem dX12_readLine_61 : decode cX12_readLine 61 = .ok (.bipush 8, 2) := by decide +kernel
theorem dX12_readLine_63 : decode cX12_readLine 63 = .ok (.isub, 1) := by decide +kernel
theorem dX12_readLine_64 : decode cX12_readLine 64 = .ok (.invokevirtual 216, 3) := by decide +kernel
theorem dX12_readLine_67 : decode cX12_readLine 67 = .ok (.goto 8, 3) := by decide +kernel
theorem dX12_readLine_70 : decode cX12_readLine 70 = .ok (.aload_n 0, 1) := by decide +kernel
theorem dX12_readLine_71 : decode cX12_readLine 71 = .ok (.iconst 2, 1) := by decide +kernel
theorem dX12_readLine_72 : decode cX12_readLine 72 = .ok (.invokevirtual 165, 3) := by decide +kernel
theorem dX12_readLine_75 : decode cX12_readLine 75 = .ok (.return_, 1) := by decide +kernel
theorem ml_X12_216 : Cond.methodLink RX12 216 yX12_readLaw ∈ Wd := mW 1587 (by decide +kernel) rfl
theorem mk_X12_readLaw : MokV yX12_readLaw cX12_readLaw 3 none 1 := ⟨⟨mW 14 (by decide +kernel) rfl, mW 1590 (by decide +kernel) rfl, ⟨by decide, by decide, by decide +kernel⟩, by decide⟩, mW 1589 (by decide +kernel) rfl, mS (q := (yX12_readLaw, 46)) 60 (by decide +kernel)⟩
theorem ml_X12_213 : Cond.methodLink RX12 213 yX12_readRoad ∈ Wd := mW 1583 (by decide +kernel) rfl
theorem mk_X12_readRoad : MokV yX12_readRoad cX12_readRoad 4 none 0 := ⟨⟨mW 14 (by decide +kernel) rfl, mW 1586 (by decide +kernel) rfl, ⟨by decide, by decide, by decide +kernel⟩, by decide⟩, mW 1585 (by decide +kernel) rfl, mS (q := (yX12_readRoad, 46)) 59 (by decide +kernel)⟩
theorem ml_X12_210 : Cond.methodLink RX12 210 yX12_readPlace ∈ Wd := mW 1579 (by decide +kernel) rfl
theorem mk_X12_readPlace : MokV yX12_readPlace cX12_readPlace 3 none 0 := ⟨⟨mW 14 (by decide +kernel) rfl, mW 1582 (by decide +kernel) rfl, ⟨by decide, by decide, by decide +kernel⟩, by decide⟩, mW 1581 (by decide +kernel) rfl, mS (q := (yX12_readPlace, 46)) 58 (by decide +kernel)⟩
def M_readLine  (h : Hp) (Q : Hp → Prop) : Prop := ((gI h 98 11) = 0 → M_is 2 h (fun r1 h2 => (r1 = 0 → M_is 5 h2 (fun r3 h4 => (r3 = 0 → M_is 8 h4 (fun r5 h6 => ∀ J56 : Hp → Prop, J56 = (fun h7 => M_readLaw ((gI h7 98 9) - 8) h7 (fun h8 => Q h8)) → (¬ r5 = 0 → J56 h6) ∧ (r5 = 0 → M_is 9 h6 (fun r9 h10 => (r9 = 0 → M_fails 2 h10 (fun h11 => Q h11)) ∧ (¬ r9 = 0 → J56 h10))))) ∧ (¬ r3 = 0 → M_readRoad  h4 (fun h12 => Q h12)))) ∧ (¬ r1 = 0 → M_readPlace  h2 (fun h13 => Q h13)))) ∧ (¬ (gI h 98 11) = 0 → Q h)
set_option maxHeartbeats 4000000 in
set_option maxRecDepth 20000 in
theorem c_M_readLine {G : Gx}   {h : Hp} {Q : Hp → Prop} (hw : M_readLine  h Q) : Ct yX12_readLine cX12_readLine 1 none 75 G [.ref (gAd G 98)] h (QV G Q) := by
  refine ct_go [(0, .ref (gAd G 98))] (plainFor_of_name (by decide)) rfl (Nat.le_of_ble_eq_true rfl) rfl ?_
  refine g_aload_n dX12_readLine_0 rfl rfl ?_
  refine g_getI dX12_readLine_1 fl_X12_153 sh98 rfl ?_
  refine g_if_eq 8 dX12_readLine_4 rfl (fun hc => ?_) (fun hc => ?_)
  · have hw := hw.1 hc
    refine g_aload_n dX12_readLine_8 rfl rfl ?_
    refine g_iconst (v := 2) dX12_readLine_9 (by decide) ?_
    refine g_callVI [.int 2] (ci := 12) dX12_readLine_10 ml_X12_159 mk_X12_is rfl rfl sh98 (Nat.le_of_ble_eq_true rfl) (Nat.le_of_ble_eq_true rfl) rfl (c_M_is hw) (fun r1 h2 hw => ?_)
    refine g_if_eq 23 dX12_readLine_13 rfl (fun hc => ?_) (fun hc => ?_)
    · have hw := hw.1 hc
      refine g_aload_n dX12_readLine_23 rfl rfl ?_
      refine g_iconst (v := 5) dX12_readLine_24 (by decide) ?_
      refine g_callVI [.int 5] (ci := 12) dX12_readLine_25 ml_X12_159 mk_X12_is rfl rfl sh98 (Nat.le_of_ble_eq_true rfl) (Nat.le_of_ble_eq_true rfl) rfl (c_M_is hw) (fun r3 h4 hw => ?_)
      refine g_if_eq 38 dX12_readLine_28 rfl (fun hc => ?_) (fun hc => ?_)
      · have hw := hw.1 hc
        refine g_aload_n dX12_readLine_38 rfl rfl ?_
        refine g_bipush (v := 8) dX12_readLine_39 (by decide) ?_
        refine g_callVI [.int 8] (ci := 12) dX12_readLine_41 ml_X12_159 mk_X12_is rfl rfl sh98 (Nat.le_of_ble_eq_true rfl) (Nat.le_of_ble_eq_true rfl) rfl (c_M_is hw) (fun r5 h6 hw => ?_)
        refine jn_el hw (fun J56 eJ56 hw => ?_)
        have hJ56 : ∀ (h7 : Hp), J56 h7 → Go cX12_readLine 1 RX12 none 75 G (QV G Q) 56 [(0, .ref (gAd G 98))] [] h7 := by
          intro h7 hw
          subst eJ56
          refine g_aload_n dX12_readLine_56 rfl rfl ?_
          refine g_aload_n dX12_readLine_57 rfl rfl ?_
          refine g_getI dX12_readLine_58 fl_X12_135 sh98 rfl ?_
          refine g_bipush (v := 8) dX12_readLine_61 (by decide) ?_
          refine g_isub dX12_readLine_63 ?_
          refine g_callVV [.int ((gI h7 98 9) - 8)] (ci := 12) dX12_readLine_64 ml_X12_216 mk_X12_readLaw rfl rfl sh98 (Nat.le_of_ble_eq_true rfl) (Nat.le_of_ble_eq_true rfl) rfl (c_M_readLaw hw) (fun h8 hw => ?_)
          refine g_goto 75 dX12_readLine_67 rfl ?_
          exact g_vret dX12_readLine_75 hw
        refine g_if_ne 56 dX12_readLine_44 rfl (fun hc => ?_) (fun hc => ?_)
        · have hw := hw.1 hc
          exact hJ56 _ hw
        · have hw := hw.2 hc
          refine g_aload_n dX12_readLine_47 rfl rfl ?_
          refine g_bipush (v := 9) dX12_readLine_48 (by decide) ?_
          refine g_callVI [.int 9] (ci := 12) dX12_readLine_50 ml_X12_159 mk_X12_is rfl rfl sh98 (Nat.le_of_ble_eq_true rfl) (Nat.le_of_ble_eq_true rfl) rfl (c_M_is hw) (fun r9 h10 hw => ?_)
          refine g_if_eq 70 dX12_readLine_53 rfl (fun hc => ?_) (fun hc => ?_)
          · have hw := hw.1 hc
            refine g_aload_n dX12_readLine_70 rfl rfl ?_
            refine g_iconst (v := 2) dX12_readLine_71 (by decide) ?_
            refine g_callVV [.int 2] (ci := 12) dX12_readLine_72 ml_X12_165 mk_X12_fails rfl rfl sh98 (Nat.le_of_ble_eq_true rfl) (Nat.le_of_ble_eq_true rfl) rfl (c_M_fails hw) (fun h11 hw => ?_)
            exact g_vret dX12_readLine_75 hw
          · have hw := hw.2 hc
            exact hJ56 _ hw
      · have hw := hw.2 hc
        refine g_aload_n dX12_readLine_31 rfl rfl ?_
        refine g_callVV [] (ci := 12) dX12_readLine_32 ml_X12_213 mk_X12_readRoad rfl rfl sh98 (Nat.le_of_ble_eq_true rfl) (Nat.le_of_ble_eq_true rfl) rfl (c_M_readRoad hw) (fun h12 hw => ?_)
        refine g_goto 75 dX12_readLine_35 rfl ?_
        exact g_vret dX12_readLine_75 hw
    · have hw := hw.2 hc
      refine g_aload_n dX12_readLine_16 rfl rfl ?_
      refine g_callVV [] (ci := 12) dX12_readLine_17 ml_X12_210 mk_X12_readPlace rfl rfl sh98 (Nat.le_of_ble_eq_true rfl) (Nat.le_of_ble_eq_true rfl) rfl (c_M_readPlace hw) (fun h13 hw => ?_)
      refine g_goto 75 dX12_readLine_20 rfl ?_
      exact g_vret dX12_readLine_75 hw
  · have hw := hw.2 hc
    exact g_vret dX12_readLine_7 hw
