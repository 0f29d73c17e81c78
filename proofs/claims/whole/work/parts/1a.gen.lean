theorem dX11_putBytes_0 : decode cX11_putBytes 0 = .ok (.bipush 24, 2) := by decide +kernel
theorem dX11_putBytes_2 : decode cX11_putBytes 2 = .ok (.istore_n 2, 1) := by decide +kernel
theorem dX11_putBytes_3 : decode cX11_putBytes 3 = .ok (.iload_n 2, 1) := by decide +kernel
theorem dX11_putBytes_4 : decode cX11_putBytes 4 = .ok (.ifCond .lt 44, 3) := by decide +kernel
theorem dX11_putBytes_7 : decode cX11_putBytes 7 = .ok (.aload_n 0, 1) := by decide +kernel
theorem dX11_putBytes_8 : decode cX11_putBytes 8 = .ok (.getfield 13, 3) := by decide +kernel
theorem dX11_putBytes_11 : decode cX11_putBytes 11 = .ok (.aload_n 0, 1) := by decide +kernel
theorem dX11_putBytes_12 : decode cX11_putBytes 12 = .ok (.getfield 9, 3) := by decide +kernel
theorem dX11_putBytes_15 : decode cX11_putBytes 15 = .ok (.arraylength, 1) := by decide +kernel
theorem dX11_putBytes_16 : decode cX11_putBytes 16 = .ok (.if_icmp .ge 26, 3) := by decide +kernel
theorem dX11_putBytes_19 : decode cX11_putBytes 19 = .ok (.aload_n 0, 1) := by decide +kernel
theorem dX11_putBytes_20 : decode cX11_putBytes 20 = .ok (.getfield 9, 3) := by decide +kernel
theorem dX11_putBytes_23 : decode cX11_putBytes 23 = .ok (.aload_n 0, 1) := by decide +kernel
theorem dX11_putBytes_24 : decode cX11_putBytes 24 = .ok (.getfield 13, 3) := by decide +kernel
theorem dX11_putBytes_27 : decode cX11_putBytes 27 = .ok (.iload_n 1, 1) := by decide +kernel
theorem dX11_putBytes_28 : decode cX11_putBytes 28 = .ok (.iload_n 2, 1) := by decide +kernel
theorem dX11_putBytes_29 : decode cX11_putBytes 29 = .ok (.iushr, 1) := by decide +kernel
theorem dX11_putBytes_30 : decode cX11_putBytes 30 = .ok (.i2b, 1) := by decide +kernel
theorem dX11_putBytes_31 : decode cX11_putBytes 31 = .ok (.bastore, 1) := by decide +kernel
theorem dX11_putBytes_32 : decode cX11_putBytes 32 = .ok (.aload_n 0, 1) := by decide +kernel
theorem dX11_putBytes_33 : decode cX11_putBytes 33 = .ok (.dup, 1) := by decide +kernel
theorem dX11_putBytes_34 : decode cX11_putBytes 34 = .ok (.getfield 13, 3) := by decide +kernel
theorem dX11_putBytes_37 : decode cX11_putBytes 37 = .ok (.iconst 1, 1) := by decide +kernel
theorem dX11_putBytes_38 : decode cX11_putBytes 38 = .ok (.iadd, 1) := by decide +kernel
theorem dX11_putBytes_39 : decode cX11_putBytes 39 = .ok (.putfield 13, 3) := by decide +kernel
theorem dX11_putBytes_42 : decode cX11_putBytes 42 = .ok (.iinc 2 (-8), 3) := by decide +kernel
theorem dX11_putBytes_45 : decode cX11_putBytes 45 = .ok (.goto (-42), 3) := by decide +kernel
theorem dX11_putBytes_48 : decode cX11_putBytes 48 = .ok (.return_, 1) := by decide +kernel
theorem fl_X11_13 : FLk RX11 13 11 1 := ⟨_, rfl, by decide, mW 380 (by decide +kernel) rfl⟩
theorem fl_X11_9 : FLk RX11 9 11 0 := ⟨_, rfl, by decide, mW 379 (by decide +kernel) rfl⟩
theorem pf_11_1 : parseFieldDescriptor (uD 11 1) = some .int := by decide +kernel
def C_putBytes_L3 (x1 : Int32) (Q : Hp → Prop) : Nat → Int32 → Hp → Prop
  | 0, _, _ => False
  | n + 1, x2, h => (x2 < 0 → Q h) ∧ (¬ x2 < 0 → ∀ J42 : Hp → Prop, J42 = (fun h1 => ∀ v2 : Int32, v2 = (x2 + (-8)) → C_putBytes_L3 x1 Q n v2 h1) → (900 ≤ (gI h 0 1) → J42 h) ∧ (¬ 900 ≤ (gI h 0 1) → vp_in (gI h 0 1) 900 ∧ ∀ h3 : Hp, h3 = sI h 1 ((gI h 0 1)).toNatClampNeg (vp_nar .byte (((((x1).toUInt32 >>> ((x2).toUInt32 &&& Int32.toUInt32 31)).toInt32)).toInt8.toInt32)) → ∀ h4 : Hp, h4 = sI h3 0 1 ((gI h3 0 1) + 1) → J42 h4))
set_option maxHeartbeats 4000000 in
set_option maxRecDepth 20000 in
theorem gl_C_putBytes_L3 {G : Gx}  {x1 : Int32} {Q : Hp → Prop} : ∀ (n : Nat) (x2 : Int32) (h : Hp), C_putBytes_L3 x1 Q n x2 h → Go cX11_putBytes 3 RX11 none 1 G (QV G Q) 3 [(0, .ref (gAd G 0)), (1, .int x1), (2, .int x2)] [] h := by
  intro n
  induction n with
  | zero => intro _ h hw; exact False.elim hw
  | succ n ih =>
    intro x2 h hw
    refine g_iload_n dX11_putBytes_3 rfl rfl ?_
    refine g_if_lt 48 dX11_putBytes_4 rfl (fun hc => ?_) (fun hc => ?_)
    · have hw := hw.1 hc
      exact g_vret dX11_putBytes_48 hw
    · have hw := hw.2 hc
      refine g_aload_n dX11_putBytes_7 rfl rfl ?_
      refine g_getI dX11_putBytes_8 fl_X11_13 sh0 rfl ?_
      refine g_aload_n dX11_putBytes_11 rfl rfl ?_
      refine g_getA dX11_putBytes_12 fl_X11_9 sh0 rfl ?_
      refine g_alen dX11_putBytes_15 ia1 (by decide) al1 (v := 900) (by decide) ?_
      refine jn_el hw (fun J42 eJ42 hw => ?_)
      have hJ42 : ∀ (h1 : Hp), J42 h1 → Go cX11_putBytes 3 RX11 none 1 G (QV G Q) 42 [(0, .ref (gAd G 0)), (1, .int x1), (2, .int x2)] [] h1 := by
        intro h1 hw
        subst eJ42
        obtain ⟨v2, ev2⟩ : ∃ y : Int32, y = (x2 + (-8)) := ⟨_, rfl⟩
        have hw := hw v2 ev2
        refine g_iinc dX11_putBytes_42 rfl (by rw [ev2]; rfl) (by decide) (lv1 := [(0, .ref (gAd G 0)), (1, .int x1), (2, .int v2)]) rfl ?_
        refine g_goto 3 dX11_putBytes_45 rfl ?_
        exact ih _ _ hw
      refine g_icmp_ge 42 dX11_putBytes_16 rfl (fun hc => ?_) (fun hc => ?_)
      · have hw := hw.1 hc
        exact hJ42 _ hw
      · have hw := hw.2 hc
        refine g_aload_n dX11_putBytes_19 rfl rfl ?_
        refine g_getA dX11_putBytes_20 fl_X11_9 sh0 rfl ?_
        refine g_aload_n dX11_putBytes_23 rfl rfl ?_
        refine g_getI dX11_putBytes_24 fl_X11_13 sh0 rfl ?_
        refine g_iload_n dX11_putBytes_27 rfl rfl ?_
        refine g_iload_n dX11_putBytes_28 rfl rfl ?_
        refine g_iushr dX11_putBytes_29 ?_
        refine g_i2b dX11_putBytes_30 ?_
        refine g_bast dX11_putBytes_31 ia1 al1 hw.1 ?_
        have hw := hw.2
        refine g_heap (fun h3 eh3 => ?_)
        have hw := hw h3 eh3
        refine g_aload_n dX11_putBytes_32 rfl rfl ?_
        refine g_dup dX11_putBytes_33 rfl ?_
        refine g_getI dX11_putBytes_34 fl_X11_13 sh0 rfl ?_
        refine g_iconst (v := 1) dX11_putBytes_37 (by decide) ?_
        refine g_iadd dX11_putBytes_38 ?_
        refine g_putI dX11_putBytes_39 fl_X11_13 sh0 rfl rfl pf_11_1 ?_
        refine g_heap (fun h4 eh4 => ?_)
        have hw := hw h4 eh4
        exact hJ42 _ hw
def C_putBytes (x1 : Int32) (h : Hp) (Q : Hp → Prop) : Prop := ∃ n5, C_putBytes_L3 x1 Q n5 24 h
set_option maxHeartbeats 4000000 in
set_option maxRecDepth 20000 in
theorem c_C_putBytes {G : Gx}  {x1 : Int32} {h : Hp} {Q : Hp → Prop} (hw : C_putBytes x1 h Q) : Ct yX11_putBytes cX11_putBytes 3 none 1 G [.ref (gAd G 0), .int x1] h (QV G Q) := by
  refine ct_go [(0, .ref (gAd G 0)), (1, .int x1)] (plainFor_of_name (by decide)) rfl (Nat.le_of_ble_eq_true rfl) rfl ?_
  refine g_bipush (v := 24) dX11_putBytes_0 (by decide) ?_
  refine g_istore_n dX11_putBytes_2 rfl (by decide) (lv1 := [(0, .ref (gAd G 0)), (1, .int x1), (2, .int 24)]) rfl ?_
  obtain ⟨n5, hw⟩ := hw
  refine gl_C_putBytes_L3   _ _ _ hw
theorem dX11_feed_0 : decode cX11_feed 0 = .ok (.aload_n 0, 1) := by decide +kernel
theorem dX11_feed_1 : decode cX11_feed 1 = .ok (.getfield 13, 3) := by decide +kernel
theorem dX11_feed_4 : decode cX11_feed 4 = .ok (.bipush 20, 2) := by decide +kernel
theorem dX11_feed_6 : decode cX11_feed 6 = .ok (.iadd, 1) := by decide +kernel
theorem dX11_feed_7 : decode cX11_feed 7 = .ok (.sipush 900, 3) := by decide +kernel
theorem dX11_feed_10 : decode cX11_feed 10 = .ok (.if_icmp .le 6, 3) := by decide +kernel
theorem dX11_feed_13 : decode cX11_feed 13 = .ok (.bipush (-5), 2) := by decide +kernel
theorem dX11_feed_15 : decode cX11_feed 15 = .ok (.ireturn, 1) := by decide +kernel
theorem dX11_feed_16 : decode cX11_feed 16 = .ok (.aload_n 0, 1) := by decide +kernel
theorem dX11_feed_17 : decode cX11_feed 17 = .ok (.iload_n 1, 1) := by decide +kernel
theorem dX11_feed_18 : decode cX11_feed 18 = .ok (.invokevirtual 98, 3) := by decide +kernel
theorem dX11_feed_21 : decode cX11_feed 21 = .ok (.aload_n 0, 1) := by decide +kernel
theorem dX11_feed_22 : decode cX11_feed 22 = .ok (.iload_n 2, 1) := by decide +kernel
theorem dX11_feed_23 : decode cX11_feed 23 = .ok (.invokevirtual 98, 3) := by decide +kernel
theorem dX11_feed_26 : decode cX11_feed 26 = .ok (.aload_n 0, 1) := by decide +kernel
theorem dX11_feed_27 : decode cX11_feed 27 = .ok (.iload_n 3, 1) := by decide +kernel
theorem dX11_feed_28 : decode cX11_feed 28 = .ok (.invokevirtual 98, 3) := by decide +kernel
theorem dX11_feed_31 : decode cX11_feed 31 = .ok (.aload_n 0, 1) := by decide +kernel
theorem dX11_feed_32 : decode cX11_feed 32 = .ok (.iload 4, 2) := by decide +kernel
theorem dX11_feed_34 : decode cX11_feed 34 = .ok (.invokevirtual 98, 3) := by decide +kernel
theorem dX11_feed_37 : decode cX11_feed 37 = .ok (.aload_n 0, 1) := by decide +kernel
theorem dX11_feed_38 : decode cX11_feed 38 = .ok (.iload 5, 2) := by decide +kernel
theorem dX11_feed_40 : decode cX11_feed 40 = .ok (.invokevirtual 98, 3) := by decide +kernel
theorem dX11_feed_43 : decode cX11_feed 43 = .ok (.aload_n 0, 1) := by decide +kernel
theorem dX11_feed_44 : decode cX11_feed 44 = .ok (.getfield 13, 3) := by decide +kernel
theorem dX11_feed_47 : decode cX11_feed 47 = .ok (.ireturn, 1) := by decide +kernel
theorem ml_X11_98 : Cond.methodLink RX11 98 yX11_putBytes ∈ Wd := mW 432 (by decide +kernel) rfl
theorem mk_X11_putBytes : MokV yX11_putBytes cX11_putBytes 3 none 1 := ⟨⟨mW 1 (by decide +kernel) rfl, mW 435 (by decide +kernel) rfl, ⟨by decide, by decide, by decide +kernel⟩, by decide⟩, mW 434 (by decide +kernel) rfl, mS (q := (yX11_putBytes, 16)) 0 (by decide +kernel)⟩
def C_feed (x1 : Int32) (x2 : Int32) (x3 : Int32) (x4 : Int32) (x5 : Int32) (h : Hp) (Q : Int32 → Hp → Prop) : Prop := (((gI h 0 1) + 20) ≤ 900 → C_putBytes x1 h (fun h1 => C_putBytes x2 h1 (fun h2 => C_putBytes x3 h2 (fun h3 => C_putBytes x4 h3 (fun h4 => C_putBytes x5 h4 (fun h5 => Q (gI h5 0 1) h5)))))) ∧ (¬ ((gI h 0 1) + 20) ≤ 900 → Q (-5) h)
set_option maxHeartbeats 4000000 in
set_option maxRecDepth 20000 in
theorem c_C_feed {G : Gx}  {x1 : Int32} {x2 : Int32} {x3 : Int32} {x4 : Int32} {x5 : Int32} {h : Hp} {Q : Int32 → Hp → Prop} (hw : C_feed x1 x2 x3 x4 x5 h Q) : Ct yX11_feed cX11_feed 6 (some .int) 2 G [.ref (gAd G 0), .int x1, .int x2, .int x3, .int x4, .int x5] h (QI G Q) := by
  refine ct_go [(0, .ref (gAd G 0)), (1, .int x1), (2, .int x2), (3, .int x3), (4, .int x4), (5, .int x5)] (plainFor_of_name (by decide)) rfl (Nat.le_of_ble_eq_true rfl) rfl ?_
  refine g_aload_n dX11_feed_0 rfl rfl ?_
  refine g_getI dX11_feed_1 fl_X11_13 sh0 rfl ?_
  refine g_bipush (v := 20) dX11_feed_4 (by decide) ?_
  refine g_iadd dX11_feed_6 ?_
  refine g_sipush (v := 900) dX11_feed_7 (by decide) ?_
  refine g_icmp_le 16 dX11_feed_10 rfl (fun hc => ?_) (fun hc => ?_)
  · have hw := hw.1 hc
    refine g_aload_n dX11_feed_16 rfl rfl ?_
    refine g_iload_n dX11_feed_17 rfl rfl ?_
    refine g_callVV [.int x1] (ci := 11) dX11_feed_18 ml_X11_98 mk_X11_putBytes rfl rfl sh0 (Nat.le_of_ble_eq_true rfl) (Nat.le_of_ble_eq_true rfl) rfl (c_C_putBytes hw) (fun h1 hw => ?_)
    refine g_aload_n dX11_feed_21 rfl rfl ?_
    refine g_iload_n dX11_feed_22 rfl rfl ?_
    refine g_callVV [.int x2] (ci := 11) dX11_feed_23 ml_X11_98 mk_X11_putBytes rfl rfl sh0 (Nat.le_of_ble_eq_true rfl) (Nat.le_of_ble_eq_true rfl) rfl (c_C_putBytes hw) (fun h2 hw => ?_)
    refine g_aload_n dX11_feed_26 rfl rfl ?_
    refine g_iload_n dX11_feed_27 rfl rfl ?_
    refine g_callVV [.int x3] (ci := 11) dX11_feed_28 ml_X11_98 mk_X11_putBytes rfl rfl sh0 (Nat.le_of_ble_eq_true rfl) (Nat.le_of_ble_eq_true rfl) rfl (c_C_putBytes hw) (fun h3 hw => ?_)
    refine g_aload_n dX11_feed_31 rfl rfl ?_
    refine g_iload dX11_feed_32 rfl ?_
    refine g_callVV [.int x4] (ci := 11) dX11_feed_34 ml_X11_98 mk_X11_putBytes rfl rfl sh0 (Nat.le_of_ble_eq_true rfl) (Nat.le_of_ble_eq_true rfl) rfl (c_C_putBytes hw) (fun h4 hw => ?_)
    refine g_aload_n dX11_feed_37 rfl rfl ?_
    refine g_iload dX11_feed_38 rfl ?_
    refine g_callVV [.int x5] (ci := 11) dX11_feed_40 ml_X11_98 mk_X11_putBytes rfl rfl sh0 (Nat.le_of_ble_eq_true rfl) (Nat.le_of_ble_eq_true rfl) rfl (c_C_putBytes hw) (fun h5 hw => ?_)
    refine g_aload_n dX11_feed_43 rfl rfl ?_
    refine g_getI dX11_feed_44 fl_X11_13 sh0 rfl ?_
    exact g_iret dX11_feed_47 hw
  · have hw := hw.2 hc
    refine g_bipush (v := (-5)) dX11_feed_13 (by decide) ?_
    exact g_iret dX11_feed_15 hw
theorem dJ9_min_7cf53_0 : decode cJ9_min_7cf53 0 = .ok (.iload_n 0, 1) := by decide +kernel
theorem dJ9_min_7cf53_1 : decode cJ9_min_7cf53 1 = .ok (.iload_n 1, 1) := by decide +kernel
theorem dJ9_min_7cf53_2 : decode cJ9_min_7cf53 2 = .ok (.if_icmp .gt 7, 3) := by decide +kernel
theorem dJ9_min_7cf53_5 : decode cJ9_min_7cf53 5 = .ok (.iload_n 0, 1) := by decide +kernel
theorem dJ9_min_7cf53_6 : decode cJ9_min_7cf53 6 = .ok (.goto 4, 3) := by decide +kernel
theorem dJ9_min_7cf53_9 : decode cJ9_min_7cf53 9 = .ok (.iload_n 1, 1) := by decide +kernel
theorem dJ9_min_7cf53_10 : decode cJ9_min_7cf53 10 = .ok (.ireturn, 1) := by decide +kernel
def J9_min_7cf53 (x0 : Int32) (x1 : Int32) (h : Hp) (Q : Int32 → Hp → Prop) : Prop := (x1 < x0 → Q x1 h) ∧ (¬ x1 < x0 → Q x0 h)
set_option maxHeartbeats 4000000 in
set_option maxRecDepth 20000 in
theorem c_J9_min_7cf53 {G : Gx}  {x0 : Int32} {x1 : Int32} {h : Hp} {Q : Int32 → Hp → Prop} (hw : J9_min_7cf53 x0 x1 h Q) : Ct yJ9_min_7cf53 cJ9_min_7cf53 2 (some .int) 1 G [.int x0, .int x1] h (QI G Q) := by
  refine ct_go [(0, .int x0), (1, .int x1)] (by decide +kernel) rfl (Nat.le_of_ble_eq_true rfl) rfl ?_
  refine g_iload_n dJ9_min_7cf53_0 rfl rfl ?_
  refine g_iload_n dJ9_min_7cf53_1 rfl rfl ?_
  refine g_icmp_gt 9 dJ9_min_7cf53_2 rfl (fun hc => ?_) (fun hc => ?_)
  · have hw := hw.1 hc
    refine g_iload_n dJ9_min_7cf53_9 rfl rfl ?_
    exact g_iret dJ9_min_7cf53_10 hw
  · have hw := hw.2 hc
    refine g_iload_n dJ9_min_7cf53_5 rfl rfl ?_
    refine g_goto 10 dJ9_min_7cf53_6 rfl ?_
    exact g_iret dJ9_min_7cf53_10 hw
theorem dJ9_max_7cf53_0 : decode cJ9_max_7cf53 0 = .ok (.iload_n 0, 1) := by decide +kernel
theorem dJ9_max_7cf53_1 : decode cJ9_max_7cf53 1 = .ok (.iload_n 1, 1) := by decide +kernel
theorem dJ9_max_7cf53_2 : decode cJ9_max_7cf53 2 = .ok (.if_icmp .lt 7, 3) := by decide +kernel
theorem dJ9_max_7cf53_5 : decode cJ9_max_7cf53 5 = .ok (.iload_n 0, 1) := by decide +kernel
theorem dJ9_max_7cf53_6 : decode cJ9_max_7cf53 6 = .ok (.goto 4, 3) := by decide +kernel
theorem dJ9_max_7cf53_9 : decode cJ9_max_7cf53 9 = .ok (.iload_n 1, 1) := by decide +kernel
theorem dJ9_max_7cf53_10 : decode cJ9_max_7cf53 10 = .ok (.ireturn, 1) := by decide +kernel
def J9_max_7cf53 (x0 : Int32) (x1 : Int32) (h : Hp) (Q : Int32 → Hp → Prop) : Prop := (x0 < x1 → Q x1 h) ∧ (¬ x0 < x1 → Q x0 h)
set_option maxHeartbeats 4000000 in
set_option maxRecDepth 20000 in
theorem c_J9_max_7cf53 {G : Gx}  {x0 : Int32} {x1 : Int32} {h : Hp} {Q : Int32 → Hp → Prop} (hw : J9_max_7cf53 x0 x1 h Q) : Ct yJ9_max_7cf53 cJ9_max_7cf53 2 (some .int) 1 G [.int x0, .int x1] h (QI G Q) := by
  refine ct_go [(0, .int x0), (1, .int x1)] (by decide +kernel) rfl (Nat.le_of_ble_eq_true rfl) rfl ?_
  refine g_iload_n dJ9_max_7cf53_0 rfl rfl ?_
  refine g_iload_n dJ9_max_7cf53_1 rfl rfl ?_
  refine g_icmp_lt 9 dJ9_max_7cf53_2 rfl (fun hc => ?_) (fun hc => ?_)
  · have hw := hw.1 hc
    refine g_iload_n dJ9_max_7cf53_9 rfl rfl ?_
    exact g_iret dJ9_max_7cf53_10 hw
  · have hw := hw.2 hc
    refine g_iload_n dJ9_max_7cf53_5 rfl rfl ?_
    refine g_goto 10 dJ9_max_7cf53_6 rfl ?_
    exact g_iret dJ9_max_7cf53_10 hw
theorem dX9_isLetter_0 : decode cX9_isLetter 0 = .ok (.iload_n 0, 1) := by decide +kernel
theorem dX9_isLetter_1 : decode cX9_isLetter 1 = .ok (.bipush 97, 2) := by decide +kernel
theorem dX9_isLetter_3 : decode cX9_isLetter 3 = .ok (.if_icmp .lt 13, 3) := by decide +kernel
theorem dX9_isLetter_6 : decode cX9_isLetter 6 = .ok (.iload_n 0, 1) := by decide +kernel
theorem dX9_isLetter_7 : decode cX9_isLetter 7 = .ok (.bipush 122, 2) := by decide +kernel
theorem dX9_isLetter_9 : decode cX9_isLetter 9 = .ok (.if_icmp .gt 7, 3) := by decide +kernel
theorem dX9_isLetter_12 : decode cX9_isLetter 12 = .ok (.iconst 1, 1) := by decide +kernel
theorem dX9_isLetter_13 : decode cX9_isLetter 13 = .ok (.goto 4, 3) := by decide +kernel
theorem dX9_isLetter_16 : decode cX9_isLetter 16 = .ok (.iconst 0, 1) := by decide +kernel
theorem dX9_isLetter_17 : decode cX9_isLetter 17 = .ok (.ireturn, 1) := by decide +kernel
def Tokens_isLetter (x0 : Int32) (h : Hp) (Q : Int32 → Hp → Prop) : Prop := (x0 < 97 → Q 0 h) ∧ (¬ x0 < 97 → (122 < x0 → Q 0 h) ∧ (¬ 122 < x0 → Q 1 h))
set_option maxHeartbeats 4000000 in
set_option maxRecDepth 20000 in
theorem c_Tokens_isLetter {G : Gx}  {x0 : Int32} {h : Hp} {Q : Int32 → Hp → Prop} (hw : Tokens_isLetter x0 h Q) : Ct yX9_isLetter cX9_isLetter 1 (some .boolean) 1 G [.int x0] h (QI G Q) := by
  refine ct_go [(0, .int x0)] (plainFor_of_name (by decide)) rfl (Nat.le_of_ble_eq_true rfl) rfl ?_
  refine g_iload_n dX9_isLetter_0 rfl rfl ?_
  refine g_bipush (v := 97) dX9_isLetter_1 (by decide) ?_
  refine g_icmp_lt 16 dX9_isLetter_3 rfl (fun hc => ?_) (fun hc => ?_)
  · have hw := hw.1 hc
    refine g_iconst (v := 0) dX9_isLetter_16 (by decide) ?_
    exact g_zret dX9_isLetter_17 rfl hw
  · have hw := hw.2 hc
    refine g_iload_n dX9_isLetter_6 rfl rfl ?_
    refine g_bipush (v := 122) dX9_isLetter_7 (by decide) ?_
    refine g_icmp_gt 16 dX9_isLetter_9 rfl (fun hc => ?_) (fun hc => ?_)
    · have hw := hw.1 hc
      refine g_iconst (v := 0) dX9_isLetter_16 (by decide) ?_
      exact g_zret dX9_isLetter_17 rfl hw
    · have hw := hw.2 hc
      refine g_iconst (v := 1) dX9_isLetter_12 (by decide) ?_
      refine g_goto 17 dX9_isLetter_13 rfl ?_
      exact g_zret dX9_isLetter_17 rfl hw
theorem dX9_isDigit_0 : decode cX9_isDigit 0 = .ok (.iload_n 0, 1) := by decide +kernel
theorem dX9_isDigit_1 : decode cX9_isDigit 1 = .ok (.bipush 48, 2) := by decide +kernel
theorem dX9_isDigit_3 : decode cX9_isDigit 3 = .ok (.if_icmp .lt 13, 3) := by decide +kernel
theorem dX9_isDigit_6 : decode cX9_isDigit 6 = .ok (.iload_n 0, 1) := by decide +kernel
theorem dX9_isDigit_7 : decode cX9_isDigit 7 = .ok (.bipush 57, 2) := by decide +kernel
theorem dX9_isDigit_9 : decode cX9_isDigit 9 = .ok (.if_icmp .gt 7, 3) := by decide +kernel
theorem dX9_isDigit_12 : decode cX9_isDigit 12 = .ok (.iconst 1, 1) := by decide +kernel
theorem dX9_isDigit_13 : decode cX9_isDigit 13 = .ok (.goto 4, 3) := by decide +kernel
theorem dX9_isDigit_16 : decode cX9_isDigit 16 = .ok (.iconst 0, 1) := by decide +kernel
theorem dX9_isDigit_17 : decode cX9_isDigit 17 = .ok (.ireturn, 1) := by decide +kernel
def Tokens_isDigit (x0 : Int32) (h : Hp) (Q : Int32 → Hp → Prop) : Prop := (x0 < 48 → Q 0 h) ∧ (¬ x0 < 48 → (57 < x0 → Q 0 h) ∧ (¬ 57 < x0 → Q 1 h))
set_option maxHeartbeats 4000000 in
set_option maxRecDepth 20000 in
theorem c_Tokens_isDigit {G : Gx}  {x0 : Int32} {h : Hp} {Q : Int32 → Hp → Prop} (hw : Tokens_isDigit x0 h Q) : Ct yX9_isDigit cX9_isDigit 1 (some .boolean) 1 G [.int x0] h (QI G Q) := by
  refine ct_go [(0, .int x0)] (plainFor_of_name (by decide)) rfl (Nat.le_of_ble_eq_true rfl) rfl ?_
  refine g_iload_n dX9_isDigit_0 rfl rfl ?_
  refine g_bipush (v := 48) dX9_isDigit_1 (by decide) ?_
  refine g_icmp_lt 16 dX9_isDigit_3 rfl (fun hc => ?_) (fun hc => ?_)
  · have hw := hw.1 hc
    refine g_iconst (v := 0) dX9_isDigit_16 (by decide) ?_
    exact g_zret dX9_isDigit_17 rfl hw
  · have hw := hw.2 hc
    refine g_iload_n dX9_isDigit_6 rfl rfl ?_
    refine g_bipush (v := 57) dX9_isDigit_7 (by decide) ?_
    refine g_icmp_gt 16 dX9_isDigit_9 rfl (fun hc => ?_) (fun hc => ?_)
    · have hw := hw.1 hc
      refine g_iconst (v := 0) dX9_isDigit_16 (by decide) ?_
      exact g_zret dX9_isDigit_17 rfl hw
    · have hw := hw.2 hc
      refine g_iconst (v := 1) dX9_isDigit_12 (by decide) ?_
      refine g_goto 17 dX9_isDigit_13 rfl ?_
      exact g_zret dX9_isDigit_17 rfl hw
theorem dJ0_isLatin1_aae02_0 : decode cJ0_isLatin1_aae02 0 = .ok (.getstatic 38, 3) := by decide +kernel
theorem dJ0_isLatin1_aae02_3 : decode cJ0_isLatin1_aae02 3 = .ok (.ifCond .eq 14, 3) := by decide +kernel
theorem dJ0_isLatin1_aae02_6 : decode cJ0_isLatin1_aae02 6 = .ok (.aload_n 0, 1) := by decide +kernel
theorem dJ0_isLatin1_aae02_7 : decode cJ0_isLatin1_aae02 7 = .ok (.getfield 15, 3) := by decide +kernel
theorem dJ0_isLatin1_aae02_10 : decode cJ0_isLatin1_aae02 10 = .ok (.ifCond .ne 7, 3) := by decide +kernel
theorem dJ0_isLatin1_aae02_13 : decode cJ0_isLatin1_aae02 13 = .ok (.iconst 1, 1) := by decide +kernel
theorem dJ0_isLatin1_aae02_14 : decode cJ0_isLatin1_aae02 14 = .ok (.goto 4, 3) := by decide +kernel
theorem dJ0_isLatin1_aae02_17 : decode cJ0_isLatin1_aae02 17 = .ok (.iconst 0, 1) := by decide +kernel
theorem dJ0_isLatin1_aae02_18 : decode cJ0_isLatin1_aae02 18 = .ok (.ireturn, 1) := by decide +kernel
theorem fj_J0_38 : Cond.fieldLink RJ0 38 "java/lang/String" "COMPACT_STRINGS" "Z" ∈ Wd := mW 477 (by decide +kernel) rfl
theorem fj_J0_15 : Cond.fieldLink RJ0 15 "java/lang/String" "coder" "B" ∈ Wd := mW 2042 (by decide +kernel) rfl
def J0_isLatin1_aae02 (o0 : Nat) (h : Hp) (Q : Int32 → Hp → Prop) : Prop := Q 1 h
set_option maxHeartbeats 4000000 in
set_option maxRecDepth 20000 in
theorem c_J0_isLatin1_aae02 {G : Gx} {o0 : Nat} (ho0 : o0 < NS)  {h : Hp} {Q : Int32 → Hp → Prop} (hw : J0_isLatin1_aae02 o0 h Q) : Ct yJ0_isLatin1_aae02 cJ0_isLatin1_aae02 1 (some .boolean) 1 G [.ref (gSa G o0)] h (QI G Q) := by
  refine ct_go [(0, .ref (gSa G o0))] (plainFor_of_name (by decide)) rfl (Nat.le_of_ble_eq_true rfl) rfl ?_
  refine g_compact dJ0_isLatin1_aae02_0 fj_J0_38 ?_
  refine g_if_eq 17 dJ0_isLatin1_aae02_3 rfl (fun hc => absurd hc (by decide)) (fun _ => ?_)
  refine g_aload_n dJ0_isLatin1_aae02_6 rfl rfl ?_
  refine g_strC dJ0_isLatin1_aae02_7 ho0 fj_J0_15 ?_
  refine g_if_ne 17 dJ0_isLatin1_aae02_10 rfl (fun hc => absurd hc (by decide)) (fun _ => ?_)
  refine g_iconst (v := 1) dJ0_isLatin1_aae02_13 (by decide) ?_
  refine g_goto 18 dJ0_isLatin1_aae02_14 rfl ?_
  exact g_zret dJ0_isLatin1_aae02_18 rfl hw
theorem k_J0_isLatin1_aae02 {G : Gx} {o0 : Nat} (ho0 : o0 < NS) {h : Hp} : Ct yJ0_isLatin1_aae02 cJ0_isLatin1_aae02 1 (some .boolean) 1 G [.ref (gSa G o0)] h (QI G (fun r h1 => r = 1 ∧ h1 = h)) := c_J0_isLatin1_aae02 ho0 ⟨rfl, rfl⟩
theorem dJ0_coder_7d493_0 : decode cJ0_coder_7d493 0 = .ok (.getstatic 38, 3) := by decide +kernel
theorem dJ0_coder_7d493_3 : decode cJ0_coder_7d493 3 = .ok (.ifCond .eq 10, 3) := by decide +kernel
theorem dJ0_coder_7d493_6 : decode cJ0_coder_7d493 6 = .ok (.aload_n 0, 1) := by decide +kernel
theorem dJ0_coder_7d493_7 : decode cJ0_coder_7d493 7 = .ok (.getfield 15, 3) := by decide +kernel
theorem dJ0_coder_7d493_10 : decode cJ0_coder_7d493 10 = .ok (.goto 4, 3) := by decide +kernel
theorem dJ0_coder_7d493_13 : decode cJ0_coder_7d493 13 = .ok (.iconst 1, 1) := by decide +kernel
theorem dJ0_coder_7d493_14 : decode cJ0_coder_7d493 14 = .ok (.ireturn, 1) := by decide +kernel
def J0_coder_7d493 (o0 : Nat) (h : Hp) (Q : Int32 → Hp → Prop) : Prop := Q 0 h
set_option maxHeartbeats 4000000 in
set_option maxRecDepth 20000 in
theorem c_J0_coder_7d493 {G : Gx} {o0 : Nat} (ho0 : o0 < NS)  {h : Hp} {Q : Int32 → Hp → Prop} (hw : J0_coder_7d493 o0 h Q) : Ct yJ0_coder_7d493 cJ0_coder_7d493 1 (some .byte) 1 G [.ref (gSa G o0)] h (QI G Q) := by
  refine ct_go [(0, .ref (gSa G o0))] (plainFor_of_name (by decide)) rfl (Nat.le_of_ble_eq_true rfl) rfl ?_
  refine g_compact dJ0_coder_7d493_0 fj_J0_38 ?_
  refine g_if_eq 13 dJ0_coder_7d493_3 rfl (fun hc => absurd hc (by decide)) (fun _ => ?_)
  refine g_aload_n dJ0_coder_7d493_6 rfl rfl ?_
  refine g_strC dJ0_coder_7d493_7 ho0 fj_J0_15 ?_
  refine g_goto 14 dJ0_coder_7d493_10 rfl ?_
  exact g_zret dJ0_coder_7d493_14 rfl hw
theorem k_J0_coder_7d493 {G : Gx} {o0 : Nat} (ho0 : o0 < NS) {h : Hp} : Ct yJ0_coder_7d493 cJ0_coder_7d493 1 (some .byte) 1 G [.ref (gSa G o0)] h (QI G (fun r h1 => r = 0 ∧ h1 = h)) := c_J0_coder_7d493 ho0 ⟨rfl, rfl⟩
theorem dJ0_length_8abf5_0 : decode cJ0_length_8abf5 0 = .ok (.aload_n 0, 1) := by decide +kernel
theorem dJ0_length_8abf5_1 : decode cJ0_length_8abf5 1 = .ok (.getfield 9, 3) := by decide +kernel
theorem dJ0_length_8abf5_4 : decode cJ0_length_8abf5 4 = .ok (.arraylength, 1) := by decide +kernel
theorem dJ0_length_8abf5_5 : decode cJ0_length_8abf5 5 = .ok (.aload_n 0, 1) := by decide +kernel
theorem dJ0_length_8abf5_6 : decode cJ0_length_8abf5 6 = .ok (.invokevirtual 335, 3) := by decide +kernel
theorem dJ0_length_8abf5_9 : decode cJ0_length_8abf5 9 = .ok (.ishr, 1) := by decide +kernel
theorem dJ0_length_8abf5_10 : decode cJ0_length_8abf5 10 = .ok (.ireturn, 1) := by decide +kernel
theorem fj_J0_9 : Cond.fieldLink RJ0 9 "java/lang/String" "value" "[B" ∈ Wd := mW 2043 (by decide +kernel) rfl
theorem ml_J0_335 : Cond.methodLink RJ0 335 yJ0_coder_7d493 ∈ Wd := mW 483 (by decide +kernel) rfl
theorem mk_J0_coder_7d493 : MokV yJ0_coder_7d493 cJ0_coder_7d493 1 (some .byte) 0 := ⟨⟨mW 16 (by decide +kernel) rfl, mW 486 (by decide +kernel) rfl, ⟨by decide, by decide, by decide +kernel⟩, by decide⟩, mW 484 (by decide +kernel) rfl, mW 485 (by decide +kernel) rfl⟩
def J0_length_8abf5 (o0 : Nat) (h : Hp) (Q : Int32 → Hp → Prop) : Prop := Q ((Int32.ofNat (slen o0)) >>> (0 &&& 31)) h
set_option maxHeartbeats 4000000 in
set_option maxRecDepth 20000 in
theorem c_J0_length_8abf5 {G : Gx} {o0 : Nat} (ho0 : o0 < NS)  {h : Hp} {Q : Int32 → Hp → Prop} (hw : J0_length_8abf5 o0 h Q) : Ct yJ0_length_8abf5 cJ0_length_8abf5 1 (some .int) 2 G [.ref (gSa G o0)] h (QI G Q) := by
  refine ct_go [(0, .ref (gSa G o0))] (plainFor_of_name (by decide)) rfl (Nat.le_of_ble_eq_true rfl) rfl ?_
  refine g_aload_n dJ0_length_8abf5_0 rfl rfl ?_
  refine g_strV dJ0_length_8abf5_1 ho0 fj_J0_9 ?_
  refine g_strL dJ0_length_8abf5_4 ho0 rfl ?_
  refine g_aload_n dJ0_length_8abf5_5 rfl rfl ?_
  refine g_callTI [] dJ0_length_8abf5_6 ml_J0_335 mk_J0_coder_7d493 rfl rfl ho0 (Nat.le_of_ble_eq_true rfl) (Nat.le_of_ble_eq_true rfl) rfl (k_J0_coder_7d493 ho0) (fun r h9 hq => ?_)
  obtain ⟨rfl, rfl⟩ := hq
  refine g_ishr dJ0_length_8abf5_9 ?_
  exact g_iret dJ0_length_8abf5_10 hw
theorem dJ1_canEncode_9a6ad_0 : decode cJ1_canEncode_9a6ad 0 = .ok (.iload_n 0, 1) := by decide +kernel
theorem dJ1_canEncode_9a6ad_1 : decode cJ1_canEncode_9a6ad 1 = .ok (.ifCond .lt 14, 3) := by decide +kernel
theorem dJ1_canEncode_9a6ad_4 : decode cJ1_canEncode_9a6ad 4 = .ok (.iload_n 0, 1) := by decide +kernel
theorem dJ1_canEncode_9a6ad_5 : decode cJ1_canEncode_9a6ad 5 = .ok (.sipush 255, 3) := by decide +kernel
theorem dJ1_canEncode_9a6ad_8 : decode cJ1_canEncode_9a6ad 8 = .ok (.if_icmp .gt 7, 3) := by decide +kernel
theorem dJ1_canEncode_9a6ad_11 : decode cJ1_canEncode_9a6ad 11 = .ok (.iconst 1, 1) := by decide +kernel
theorem dJ1_canEncode_9a6ad_12 : decode cJ1_canEncode_9a6ad 12 = .ok (.goto 4, 3) := by decide +kernel
theorem dJ1_canEncode_9a6ad_15 : decode cJ1_canEncode_9a6ad 15 = .ok (.iconst 0, 1) := by decide +kernel
theorem dJ1_canEncode_9a6ad_16 : decode cJ1_canEncode_9a6ad 16 = .ok (.ireturn, 1) := by decide +kernel
def J1_canEncode_9a6ad (x0 : Int32) (h : Hp) (Q : Int32 → Hp → Prop) : Prop := (x0 < 0 → Q 0 h) ∧ (¬ x0 < 0 → (255 < x0 → Q 0 h) ∧ (¬ 255 < x0 → Q 1 h))
set_option maxHeartbeats 4000000 in
set_option maxRecDepth 20000 in
theorem c_J1_canEncode_9a6ad {G : Gx}  {x0 : Int32} {h : Hp} {Q : Int32 → Hp → Prop} (hw : J1_canEncode_9a6ad x0 h Q) : Ct yJ1_canEncode_9a6ad cJ1_canEncode_9a6ad 1 (some .boolean) 1 G [.int x0] h (QI G Q) := by
  refine ct_go [(0, .int x0)] (plainFor_of_name (by decide)) rfl (Nat.le_of_ble_eq_true rfl) rfl ?_
  refine g_iload_n dJ1_canEncode_9a6ad_0 rfl rfl ?_
  refine g_if_lt 15 dJ1_canEncode_9a6ad_1 rfl (fun hc => ?_) (fun hc => ?_)
  · have hw := hw.1 hc
    refine g_iconst (v := 0) dJ1_canEncode_9a6ad_15 (by decide) ?_
    exact g_zret dJ1_canEncode_9a6ad_16 rfl hw
  · have hw := hw.2 hc
    refine g_iload_n dJ1_canEncode_9a6ad_4 rfl rfl ?_
    refine g_sipush (v := 255) dJ1_canEncode_9a6ad_5 (by decide) ?_
    refine g_icmp_gt 15 dJ1_canEncode_9a6ad_8 rfl (fun hc => ?_) (fun hc => ?_)
    · have hw := hw.1 hc
      refine g_iconst (v := 0) dJ1_canEncode_9a6ad_15 (by decide) ?_
      exact g_zret dJ1_canEncode_9a6ad_16 rfl hw
    · have hw := hw.2 hc
      refine g_iconst (v := 1) dJ1_canEncode_9a6ad_11 (by decide) ?_
      refine g_goto 16 dJ1_canEncode_9a6ad_12 rfl ?_
      exact g_zret dJ1_canEncode_9a6ad_16 rfl hw
theorem dJ1_indexOfChar_4cfef_0 : decode cJ1_indexOfChar_4cfef 0 = .ok (.iload_n 1, 1) := by decide +kernel
theorem dJ1_indexOfChar_4cfef_1 : decode cJ1_indexOfChar_4cfef 1 = .ok (.i2b, 1) := by decide +kernel
theorem dJ1_indexOfChar_4cfef_2 : decode cJ1_indexOfChar_4cfef 2 = .ok (.istore 4, 2) := by decide +kernel
theorem dJ1_indexOfChar_4cfef_4 : decode cJ1_indexOfChar_4cfef 4 = .ok (.iload_n 2, 1) := by decide +kernel
theorem dJ1_indexOfChar_4cfef_5 : decode cJ1_indexOfChar_4cfef 5 = .ok (.istore 5, 2) := by decide +kernel
theorem dJ1_indexOfChar_4cfef_7 : decode cJ1_indexOfChar_4cfef 7 = .ok (.iload 5, 2) := by decide +kernel
theorem dJ1_indexOfChar_4cfef_9 : decode cJ1_indexOfChar_4cfef 9 = .ok (.iload_n 3, 1) := by decide +kernel
theorem dJ1_indexOfChar_4cfef_10 : decode cJ1_indexOfChar_4cfef 10 = .ok (.if_icmp .ge 21, 3) := by decide +kernel
theorem dJ1_indexOfChar_4cfef_13 : decode cJ1_indexOfChar_4cfef 13 = .ok (.aload_n 0, 1) := by decide +kernel
theorem dJ1_indexOfChar_4cfef_14 : decode cJ1_indexOfChar_4cfef 14 = .ok (.iload 5, 2) := by decide +kernel
theorem dJ1_indexOfChar_4cfef_16 : decode cJ1_indexOfChar_4cfef 16 = .ok (.baload, 1) := by decide +kernel
theorem dJ1_indexOfChar_4cfef_17 : decode cJ1_indexOfChar_4cfef 17 = .ok (.iload 4, 2) := by decide +kernel
theorem dJ1_indexOfChar_4cfef_19 : decode cJ1_indexOfChar_4cfef 19 = .ok (.if_icmp .ne 6, 3) := by decide +kernel
theorem dJ1_indexOfChar_4cfef_22 : decode cJ1_indexOfChar_4cfef 22 = .ok (.iload 5, 2) := by decide +kernel
theorem dJ1_indexOfChar_4cfef_24 : decode cJ1_indexOfChar_4cfef 24 = .ok (.ireturn, 1) := by decide +kernel
theorem dJ1_indexOfChar_4cfef_25 : decode cJ1_indexOfChar_4cfef 25 = .ok (.iinc 5 1, 3) := by decide +kernel
theorem dJ1_indexOfChar_4cfef_28 : decode cJ1_indexOfChar_4cfef 28 = .ok (.goto (-21), 3) := by decide +kernel
theorem dJ1_indexOfChar_4cfef_31 : decode cJ1_indexOfChar_4cfef 31 = .ok (.iconst (-1), 1) := by decide +kernel
theorem dJ1_indexOfChar_4cfef_32 : decode cJ1_indexOfChar_4cfef 32 = .ok (.ireturn, 1) := by decide +kernel
def J1_indexOfChar_4cfef_L7 (o0 : Nat) (x3 : Int32) (x4 : Int32) (Q : Int32 → Hp → Prop) : Nat → Int32 → Hp → Prop
  | 0, _, _ => False
  | n + 1, x5, h => (x3 ≤ x5 → Q (-1) h) ∧ (¬ x3 ≤ x5 → vp_in x5 (slen o0) ∧ (¬ (schr o0 (x5).toNatClampNeg) = x4 → ∀ v2 : Int32, v2 = (x5 + 1) → J1_indexOfChar_4cfef_L7 o0 x3 x4 Q n v2 h) ∧ ((schr o0 (x5).toNatClampNeg) = x4 → Q x5 h))
set_option maxHeartbeats 4000000 in
set_option maxRecDepth 20000 in
theorem gl_J1_indexOfChar_4cfef_L7 {G : Gx} {o0 : Nat} (ho0 : o0 < NS) {x3 : Int32} {x4 : Int32} {Q : Int32 → Hp → Prop} : ∀ (n : Nat) (x5 : Int32) (h : Hp), J1_indexOfChar_4cfef_L7 o0 x3 x4 Q n x5 h → Go cJ1_indexOfChar_4cfef 6 RJ1 (some .int) 1 G (QI G Q) 7 [(0, .ref (gSv G o0)), (3, .int x3), (4, .int x4), (5, .int x5)] [] h := by
  intro n
  induction n with
  | zero => intro _ h hw; exact False.elim hw
  | succ n ih =>
    intro x5 h hw
    refine g_iload dJ1_indexOfChar_4cfef_7 rfl ?_
    refine g_iload_n dJ1_indexOfChar_4cfef_9 rfl rfl ?_
    refine g_icmp_ge 31 dJ1_indexOfChar_4cfef_10 rfl (fun hc => ?_) (fun hc => ?_)
    · have hw := hw.1 hc
      refine g_iconst (v := (-1)) dJ1_indexOfChar_4cfef_31 (by decide) ?_
      exact g_iret dJ1_indexOfChar_4cfef_32 hw
    · have hw := hw.2 hc
      refine g_aload_n dJ1_indexOfChar_4cfef_13 rfl rfl ?_
      refine g_iload dJ1_indexOfChar_4cfef_14 rfl ?_
      refine g_strB dJ1_indexOfChar_4cfef_16 ho0 hw.1 ?_
      have hw := hw.2
      refine g_iload dJ1_indexOfChar_4cfef_17 rfl ?_
      refine g_icmp_ne 25 dJ1_indexOfChar_4cfef_19 rfl (fun hc => ?_) (fun hc => ?_)
      · have hw := hw.1 hc
        obtain ⟨v2, ev2⟩ : ∃ y : Int32, y = (x5 + 1) := ⟨_, rfl⟩
        have hw := hw v2 ev2
        refine g_iinc dJ1_indexOfChar_4cfef_25 rfl (by rw [ev2]; rfl) (by decide) (lv1 := [(0, .ref (gSv G o0)), (3, .int x3), (4, .int x4), (5, .int v2)]) rfl ?_
        refine g_goto 7 dJ1_indexOfChar_4cfef_28 rfl ?_
        exact ih _ _ hw
      · have hw := hw.2 hc
        refine g_iload dJ1_indexOfChar_4cfef_22 rfl ?_
        exact g_iret dJ1_indexOfChar_4cfef_24 hw
def J1_indexOfChar_4cfef (o0 : Nat) (x1 : Int32) (x2 : Int32) (x3 : Int32) (h : Hp) (Q : Int32 → Hp → Prop) : Prop := ∀ v1 : Int32, v1 = ((x1).toInt8.toInt32) → ∃ n3, J1_indexOfChar_4cfef_L7 o0 x3 v1 Q n3 x2 h
set_option maxHeartbeats 4000000 in
set_option maxRecDepth 20000 in
theorem c_J1_indexOfChar_4cfef {G : Gx} {o0 : Nat} (ho0 : o0 < NS) {x1 : Int32} {x2 : Int32} {x3 : Int32} {h : Hp} {Q : Int32 → Hp → Prop} (hw : J1_indexOfChar_4cfef o0 x1 x2 x3 h Q) : Ct yJ1_indexOfChar_4cfef cJ1_indexOfChar_4cfef 6 (some .int) 1 G [.ref (gSv G o0), .int x1, .int x2, .int x3] h (QI G Q) := by
  refine ct_go [(0, .ref (gSv G o0)), (1, .int x1), (2, .int x2), (3, .int x3)] (plainFor_of_name (by decide)) rfl (Nat.le_of_ble_eq_true rfl) rfl ?_
  refine g_iload_n dJ1_indexOfChar_4cfef_0 rfl rfl ?_
  refine g_i2b dJ1_indexOfChar_4cfef_1 ?_
  refine g_topi (fun v1 ev1 => ?_)
  have hw := hw v1 ev1
  refine g_istore dJ1_indexOfChar_4cfef_2 (by decide) (lv1 := [(0, .ref (gSv G o0)), (1, .int x1), (2, .int x2), (3, .int x3), (4, .int v1)]) rfl ?_
  refine g_iload_n dJ1_indexOfChar_4cfef_4 rfl rfl ?_
  refine g_istore dJ1_indexOfChar_4cfef_5 (by decide) (lv1 := [(0, .ref (gSv G o0)), (1, .int x1), (2, .int x2), (3, .int x3), (4, .int v1), (5, .int x2)]) rfl ?_
  obtain ⟨n3, hw⟩ := hw
  refine g_lv [0, 3, 4, 5] rfl ?_
  refine gl_J1_indexOfChar_4cfef_L7 ho0  _ _ _ hw
theorem dJ1_indexOf_4cfef_0 : decode cJ1_indexOf_4cfef 0 = .ok (.iload_n 1, 1) := by decide +kernel
theorem dJ1_indexOf_4cfef_1 : decode cJ1_indexOf_4cfef 1 = .ok (.invokestatic 88, 3) := by decide +kernel
theorem dJ1_indexOf_4cfef_4 : decode cJ1_indexOf_4cfef 4 = .ok (.ifCond .ne 5, 3) := by decide +kernel
theorem dJ1_indexOf_4cfef_7 : decode cJ1_indexOf_4cfef 7 = .ok (.iconst (-1), 1) := by decide +kernel
theorem dJ1_indexOf_4cfef_8 : decode cJ1_indexOf_4cfef 8 = .ok (.ireturn, 1) := by decide +kernel
theorem dJ1_indexOf_4cfef_9 : decode cJ1_indexOf_4cfef 9 = .ok (.iload_n 2, 1) := by decide +kernel
theorem dJ1_indexOf_4cfef_10 : decode cJ1_indexOf_4cfef 10 = .ok (.iconst 0, 1) := by decide +kernel
theorem dJ1_indexOf_4cfef_11 : decode cJ1_indexOf_4cfef 11 = .ok (.invokestatic 92, 3) := by decide +kernel
theorem dJ1_indexOf_4cfef_14 : decode cJ1_indexOf_4cfef 14 = .ok (.istore_n 2, 1) := by decide +kernel
theorem dJ1_indexOf_4cfef_15 : decode cJ1_indexOf_4cfef 15 = .ok (.iload_n 3, 1) := by decide +kernel
theorem dJ1_indexOf_4cfef_16 : decode cJ1_indexOf_4cfef 16 = .ok (.aload_n 0, 1) := by decide +kernel
theorem dJ1_indexOf_4cfef_17 : decode cJ1_indexOf_4cfef 17 = .ok (.arraylength, 1) := by decide +kernel
theorem dJ1_indexOf_4cfef_18 : decode cJ1_indexOf_4cfef 18 = .ok (.invokestatic 38, 3) := by decide +kernel
theorem dJ1_indexOf_4cfef_21 : decode cJ1_indexOf_4cfef 21 = .ok (.istore_n 3, 1) := by decide +kernel
theorem dJ1_indexOf_4cfef_22 : decode cJ1_indexOf_4cfef 22 = .ok (.iload_n 2, 1) := by decide +kernel
theorem dJ1_indexOf_4cfef_23 : decode cJ1_indexOf_4cfef 23 = .ok (.iload_n 3, 1) := by decide +kernel
theorem dJ1_indexOf_4cfef_24 : decode cJ1_indexOf_4cfef 24 = .ok (.if_icmp .lt 5, 3) := by decide +kernel
theorem dJ1_indexOf_4cfef_27 : decode cJ1_indexOf_4cfef 27 = .ok (.iconst (-1), 1) := by decide +kernel
theorem dJ1_indexOf_4cfef_28 : decode cJ1_indexOf_4cfef 28 = .ok (.ireturn, 1) := by decide +kernel
theorem dJ1_indexOf_4cfef_29 : decode cJ1_indexOf_4cfef 29 = .ok (.aload_n 0, 1) := by decide +kernel
theorem dJ1_indexOf_4cfef_30 : decode cJ1_indexOf_4cfef 30 = .ok (.iload_n 1, 1) := by decide +kernel
theorem dJ1_indexOf_4cfef_31 : decode cJ1_indexOf_4cfef 31 = .ok (.iload_n 2, 1) := by decide +kernel
theorem dJ1_indexOf_4cfef_32 : decode cJ1_indexOf_4cfef 32 = .ok (.iload_n 3, 1) := by decide +kernel
theorem dJ1_indexOf_4cfef_33 : decode cJ1_indexOf_4cfef 33 = .ok (.invokestatic 95, 3) := by decide +kernel
theorem dJ1_indexOf_4cfef_36 : decode cJ1_indexOf_4cfef 36 = .ok (.ireturn, 1) := by decide +kernel
theorem ml_J1_88 : Cond.methodLink RJ1 88 yJ1_canEncode_9a6ad ∈ Wd := mW 490 (by decide +kernel) rfl
theorem mk_J1_canEncode_9a6ad : MokS yJ1_canEncode_9a6ad cJ1_canEncode_9a6ad 1 (some .boolean) 1 := ⟨⟨mW 17 (by decide +kernel) rfl, mW 492 (by decide +kernel) rfl, ⟨by decide, by decide, by decide +kernel⟩, by decide⟩, mW 491 (by decide +kernel) rfl⟩
theorem ml_J1_92 : Cond.methodLink RJ1 92 yJ9_max_7cf53 ∈ Wd := mW 493 (by decide +kernel) rfl
theorem mk_J9_max_7cf53 : MokS yJ9_max_7cf53 cJ9_max_7cf53 2 (some .int) 2 := ⟨⟨mW 15 (by decide +kernel) rfl, mW 453 (by decide +kernel) rfl, ⟨by decide, by decide, by decide +kernel⟩, by decide⟩, mW 452 (by decide +kernel) rfl⟩
theorem ml_J1_38 : Cond.methodLink RJ1 38 yJ9_min_7cf53 ∈ Wd := mW 494 (by decide +kernel) rfl
theorem mk_J9_min_7cf53 : MokS yJ9_min_7cf53 cJ9_min_7cf53 2 (some .int) 2 := ⟨⟨mW 15 (by decide +kernel) rfl, mW 450 (by decide +kernel) rfl, ⟨by decide, by decide, by decide +kernel⟩, by decide⟩, mW 449 (by decide +kernel) rfl⟩
theorem ml_J1_95 : Cond.methodLink RJ1 95 yJ1_indexOfChar_4cfef ∈ Wd := mW 495 (by decide +kernel) rfl
theorem mk_J1_indexOfChar_4cfef : MokS yJ1_indexOfChar_4cfef cJ1_indexOfChar_4cfef 6 (some .int) 4 := ⟨⟨mW 17 (by decide +kernel) rfl, mW 497 (by decide +kernel) rfl, ⟨by decide, by decide, by decide +kernel⟩, by decide⟩, mW 496 (by decide +kernel) rfl⟩
def J1_indexOf_4cfef (o0 : Nat) (x1 : Int32) (x2 : Int32) (x3 : Int32) (h : Hp) (Q : Int32 → Hp → Prop) : Prop := J1_canEncode_9a6ad x1 h (fun r1 h2 => (¬ r1 = 0 → J9_max_7cf53 x2 0 h2 (fun r3 h4 => J9_min_7cf53 x3 (Int32.ofNat (slen o0)) h4 (fun r5 h6 => (r3 < r5 → J1_indexOfChar_4cfef o0 x1 r3 r5 h6 (fun r7 h8 => Q r7 h8)) ∧ (¬ r3 < r5 → Q (-1) h6)))) ∧ (r1 = 0 → Q (-1) h2))
set_option maxHeartbeats 4000000 in
set_option maxRecDepth 20000 in
theorem c_J1_indexOf_4cfef {G : Gx} {o0 : Nat} (ho0 : o0 < NS) {x1 : Int32} {x2 : Int32} {x3 : Int32} {h : Hp} {Q : Int32 → Hp → Prop} (hw : J1_indexOf_4cfef o0 x1 x2 x3 h Q) : Ct yJ1_indexOf_4cfef cJ1_indexOf_4cfef 4 (some .int) 2 G [.ref (gSv G o0), .int x1, .int x2, .int x3] h (QI G Q) := by
  refine ct_go [(0, .ref (gSv G o0)), (1, .int x1), (2, .int x2), (3, .int x3)] (plainFor_of_name (by decide)) rfl (Nat.le_of_ble_eq_true rfl) rfl ?_
  refine g_iload_n dJ1_indexOf_4cfef_0 rfl rfl ?_
  refine g_callSI [.int x1] dJ1_indexOf_4cfef_1 ml_J1_88 mk_J1_canEncode_9a6ad rfl (Nat.le_of_ble_eq_true rfl) (Nat.le_of_ble_eq_true rfl) rfl (c_J1_canEncode_9a6ad hw) (fun r1 h2 hw => ?_)
  refine g_if_ne 9 dJ1_indexOf_4cfef_4 rfl (fun hc => ?_) (fun hc => ?_)
  · have hw := hw.1 hc
    refine g_iload_n dJ1_indexOf_4cfef_9 rfl rfl ?_
    refine g_iconst (v := 0) dJ1_indexOf_4cfef_10 (by decide) ?_
    refine g_callSI [.int x2, .int 0] dJ1_indexOf_4cfef_11 ml_J1_92 mk_J9_max_7cf53 rfl (Nat.le_of_ble_eq_true rfl) (Nat.le_of_ble_eq_true rfl) rfl (c_J9_max_7cf53 hw) (fun r3 h4 hw => ?_)
    refine g_istore_n dJ1_indexOf_4cfef_14 rfl (by decide) (lv1 := [(0, .ref (gSv G o0)), (1, .int x1), (2, .int r3), (3, .int x3)]) rfl ?_
    refine g_iload_n dJ1_indexOf_4cfef_15 rfl rfl ?_
    refine g_aload_n dJ1_indexOf_4cfef_16 rfl rfl ?_
    refine g_strL dJ1_indexOf_4cfef_17 ho0 rfl ?_
    refine g_callSI [.int x3, .int (Int32.ofNat (slen o0))] dJ1_indexOf_4cfef_18 ml_J1_38 mk_J9_min_7cf53 rfl (Nat.le_of_ble_eq_true rfl) (Nat.le_of_ble_eq_true rfl) rfl (c_J9_min_7cf53 hw) (fun r5 h6 hw => ?_)
    refine g_istore_n dJ1_indexOf_4cfef_21 rfl (by decide) (lv1 := [(0, .ref (gSv G o0)), (1, .int x1), (2, .int r3), (3, .int r5)]) rfl ?_
    refine g_iload_n dJ1_indexOf_4cfef_22 rfl rfl ?_
    refine g_iload_n dJ1_indexOf_4cfef_23 rfl rfl ?_
    refine g_icmp_lt 29 dJ1_indexOf_4cfef_24 rfl (fun hc => ?_) (fun hc => ?_)
    · have hw := hw.1 hc
      refine g_aload_n dJ1_indexOf_4cfef_29 rfl rfl ?_
      refine g_iload_n dJ1_indexOf_4cfef_30 rfl rfl ?_
      refine g_iload_n dJ1_indexOf_4cfef_31 rfl rfl ?_
      refine g_iload_n dJ1_indexOf_4cfef_32 rfl rfl ?_
      refine g_callSI [.ref (gSv G o0), .int x1, .int r3, .int r5] dJ1_indexOf_4cfef_33 ml_J1_95 mk_J1_indexOfChar_4cfef rfl (Nat.le_of_ble_eq_true rfl) (Nat.le_of_ble_eq_true rfl) rfl (c_J1_indexOfChar_4cfef ho0 hw) (fun r7 h8 hw => ?_)
      exact g_iret dJ1_indexOf_4cfef_36 hw
    · have hw := hw.2 hc
      refine g_iconst (v := (-1)) dJ1_indexOf_4cfef_27 (by decide) ?_
      exact g_iret dJ1_indexOf_4cfef_28 hw
  · have hw := hw.2 hc
    refine g_iconst (v := (-1)) dJ1_indexOf_4cfef_7 (by decide) ?_
    exact g_iret dJ1_indexOf_4cfef_8 hw
theorem dJ0_indexOf_7cf53_0 : decode cJ0_indexOf_7cf53 0 = .ok (.aload_n 0, 1) := by decide +kernel
theorem dJ0_indexOf_7cf53_1 : decode cJ0_indexOf_7cf53 1 = .ok (.invokevirtual 492, 3) := by decide +kernel
theorem dJ0_indexOf_7cf53_4 : decode cJ0_indexOf_7cf53 4 = .ok (.ifCond .eq 19, 3) := by decide +kernel
theorem dJ0_indexOf_7cf53_7 : decode cJ0_indexOf_7cf53 7 = .ok (.aload_n 0, 1) := by decide +kernel
theorem dJ0_indexOf_7cf53_8 : decode cJ0_indexOf_7cf53 8 = .ok (.getfield 9, 3) := by decide +kernel
theorem dJ0_indexOf_7cf53_11 : decode cJ0_indexOf_7cf53 11 = .ok (.iload_n 1, 1) := by decide +kernel
theorem dJ0_indexOf_7cf53_12 : decode cJ0_indexOf_7cf53 12 = .ok (.iload_n 2, 1) := by decide +kernel
theorem dJ0_indexOf_7cf53_13 : decode cJ0_indexOf_7cf53 13 = .ok (.aload_n 0, 1) := by decide +kernel
theorem dJ0_indexOf_7cf53_14 : decode cJ0_indexOf_7cf53 14 = .ok (.invokevirtual 505, 3) := by decide +kernel
theorem dJ0_indexOf_7cf53_17 : decode cJ0_indexOf_7cf53 17 = .ok (.invokestatic 637, 3) := by decide +kernel
theorem dJ0_indexOf_7cf53_20 : decode cJ0_indexOf_7cf53 20 = .ok (.goto 16, 3) := by decide +kernel
theorem dJ0_indexOf_7cf53_23 : decode cJ0_indexOf_7cf53 23 = .ok (.aload_n 0, 1) := by decide +kernel
theorem dJ0_indexOf_7cf53_24 : decode cJ0_indexOf_7cf53 24 = .ok (.getfield 9, 3) := by decide +kernel
theorem dJ0_indexOf_7cf53_27 : decode cJ0_indexOf_7cf53 27 = .ok (.iload_n 1, 1) := by decide +kernel
theorem dJ0_indexOf_7cf53_28 : decode cJ0_indexOf_7cf53 28 = .ok (.iload_n 2, 1) := by decide +kernel
theorem dJ0_indexOf_7cf53_29 : decode cJ0_indexOf_7cf53 29 = .ok (.aload_n 0, 1) := by decide +kernel
theorem dJ0_indexOf_7cf53_30 : decode cJ0_indexOf_7cf53 30 = .ok (.invokevirtual 505, 3) := by decide +kernel
theorem dJ0_indexOf_7cf53_33 : decode cJ0_indexOf_7cf53 33 = .ok (.invokestatic 640, 3) := by decide +kernel
theorem dJ0_indexOf_7cf53_36 : decode cJ0_indexOf_7cf53 36 = .ok (.ireturn, 1) := by decide +kernel
theorem ml_J0_492 : Cond.methodLink RJ0 492 yJ0_isLatin1_aae02 ∈ Wd := mW 473 (by decide +kernel) rfl
theorem mk_J0_isLatin1_aae02 : MokV yJ0_isLatin1_aae02 cJ0_isLatin1_aae02 1 (some .boolean) 0 := ⟨⟨mW 16 (by decide +kernel) rfl, mW 476 (by decide +kernel) rfl, ⟨by decide, by decide, by decide +kernel⟩, by decide⟩, mW 474 (by decide +kernel) rfl, mW 475 (by decide +kernel) rfl⟩
theorem ml_J0_505 : Cond.methodLink RJ0 505 yJ0_length_8abf5 ∈ Wd := mW 479 (by decide +kernel) rfl
theorem mk_J0_length_8abf5 : MokV yJ0_length_8abf5 cJ0_length_8abf5 1 (some .int) 0 := ⟨⟨mW 16 (by decide +kernel) rfl, mW 482 (by decide +kernel) rfl, ⟨by decide, by decide, by decide +kernel⟩, by decide⟩, mW 480 (by decide +kernel) rfl, mW 481 (by decide +kernel) rfl⟩
theorem ml_J0_637 : Cond.methodLink RJ0 637 yJ1_indexOf_4cfef ∈ Wd := mW 487 (by decide +kernel) rfl
theorem mk_J1_indexOf_4cfef : MokS yJ1_indexOf_4cfef cJ1_indexOf_4cfef 4 (some .int) 4 := ⟨⟨mW 17 (by decide +kernel) rfl, mW 489 (by decide +kernel) rfl, ⟨by decide, by decide, by decide +kernel⟩, by decide⟩, mW 488 (by decide +kernel) rfl⟩
def J0_indexOf_7cf53 (o0 : Nat) (x1 : Int32) (x2 : Int32) (h : Hp) (Q : Int32 → Hp → Prop) : Prop := J0_length_8abf5 o0 h (fun r3 h4 => J1_indexOf_4cfef o0 x1 x2 r3 h4 (fun r5 h6 => Q r5 h6))
set_option maxHeartbeats 4000000 in
set_option maxRecDepth 20000 in
theorem c_J0_indexOf_7cf53 {G : Gx} {o0 : Nat} (ho0 : o0 < NS) {x1 : Int32} {x2 : Int32} {h : Hp} {Q : Int32 → Hp → Prop} (hw : J0_indexOf_7cf53 o0 x1 x2 h Q) : Ct yJ0_indexOf_7cf53 cJ0_indexOf_7cf53 3 (some .int) 6 G [.ref (gSa G o0), .int x1, .int x2] h (QI G Q) := by
  refine ct_go [(0, .ref (gSa G o0)), (1, .int x1), (2, .int x2)] (plainFor_of_name (by decide)) rfl (Nat.le_of_ble_eq_true rfl) rfl ?_
  refine g_aload_n dJ0_indexOf_7cf53_0 rfl rfl ?_
  refine g_callTI [] dJ0_indexOf_7cf53_1 ml_J0_492 mk_J0_isLatin1_aae02 rfl rfl ho0 (Nat.le_of_ble_eq_true rfl) (Nat.le_of_ble_eq_true rfl) rfl (k_J0_isLatin1_aae02 ho0) (fun r h9 hq => ?_)
  obtain ⟨rfl, rfl⟩ := hq
  refine g_if_eq 23 dJ0_indexOf_7cf53_4 rfl (fun hc => absurd hc (by decide)) (fun _ => ?_)
  refine g_aload_n dJ0_indexOf_7cf53_7 rfl rfl ?_
  refine g_strV dJ0_indexOf_7cf53_8 ho0 fj_J0_9 ?_
  refine g_iload_n dJ0_indexOf_7cf53_11 rfl rfl ?_
  refine g_iload_n dJ0_indexOf_7cf53_12 rfl rfl ?_
  refine g_aload_n dJ0_indexOf_7cf53_13 rfl rfl ?_
  refine g_callTI [] dJ0_indexOf_7cf53_14 ml_J0_505 mk_J0_length_8abf5 rfl rfl ho0 (Nat.le_of_ble_eq_true rfl) (Nat.le_of_ble_eq_true rfl) rfl (c_J0_length_8abf5 ho0 hw) (fun r3 h4 hw => ?_)
  refine g_callSI [.ref (gSv G o0), .int x1, .int x2, .int r3] dJ0_indexOf_7cf53_17 ml_J0_637 mk_J1_indexOf_4cfef rfl (Nat.le_of_ble_eq_true rfl) (Nat.le_of_ble_eq_true rfl) rfl (c_J1_indexOf_4cfef ho0 hw) (fun r5 h6 hw => ?_)
  refine g_goto 36 dJ0_indexOf_7cf53_20 rfl ?_
  exact g_iret dJ0_indexOf_7cf53_36 hw
theorem dJ0_indexOf_0f7a4_0 : decode cJ0_indexOf_0f7a4 0 = .ok (.aload_n 0, 1) := by decide +kernel
theorem dJ0_indexOf_0f7a4_1 : decode cJ0_indexOf_0f7a4 1 = .ok (.iload_n 1, 1) := by decide +kernel
theorem dJ0_indexOf_0f7a4_2 : decode cJ0_indexOf_0f7a4 2 = .ok (.iconst 0, 1) := by decide +kernel
theorem dJ0_indexOf_0f7a4_3 : decode cJ0_indexOf_0f7a4 3 = .ok (.invokevirtual 633, 3) := by decide +kernel
theorem dJ0_indexOf_0f7a4_6 : decode cJ0_indexOf_0f7a4 6 = .ok (.ireturn, 1) := by decide +kernel
theorem ml_J0_633 : Cond.methodLink RJ0 633 yJ0_indexOf_7cf53 ∈ Wd := mW 469 (by decide +kernel) rfl
theorem mk_J0_indexOf_7cf53 : MokV yJ0_indexOf_7cf53 cJ0_indexOf_7cf53 3 (some .int) 2 := ⟨⟨mW 16 (by decide +kernel) rfl, mW 472 (by decide +kernel) rfl, ⟨by decide, by decide, by decide +kernel⟩, by decide⟩, mW 470 (by decide +kernel) rfl, mW 471 (by decide +kernel) rfl⟩
def J0_indexOf_0f7a4 (o0 : Nat) (x1 : Int32) (h : Hp) (Q : Int32 → Hp → Prop) : Prop := J0_indexOf_7cf53 o0 x1 0 h (fun r1 h2 => Q r1 h2)
set_option maxHeartbeats 4000000 in
set_option maxRecDepth 20000 in
theorem c_J0_indexOf_0f7a4 {G : Gx} {o0 : Nat} (ho0 : o0 < NS) {x1 : Int32} {h : Hp} {Q : Int32 → Hp → Prop} (hw : J0_indexOf_0f7a4 o0 x1 h Q) : Ct yJ0_indexOf_0f7a4 cJ0_indexOf_0f7a4 2 (some .int) 7 G [.ref (gSa G o0), .int x1] h (QI G Q) := by
  refine ct_go [(0, .ref (gSa G o0)), (1, .int x1)] (plainFor_of_name (by decide)) rfl (Nat.le_of_ble_eq_true rfl) rfl ?_
  refine g_aload_n dJ0_indexOf_0f7a4_0 rfl rfl ?_
  refine g_iload_n dJ0_indexOf_0f7a4_1 rfl rfl ?_
  refine g_iconst (v := 0) dJ0_indexOf_0f7a4_2 (by decide) ?_
  refine g_callTI [.int x1, .int 0] dJ0_indexOf_0f7a4_3 ml_J0_633 mk_J0_indexOf_7cf53 rfl rfl ho0 (Nat.le_of_ble_eq_true rfl) (Nat.le_of_ble_eq_true rfl) rfl (c_J0_indexOf_7cf53 ho0 hw) (fun r1 h2 hw => ?_)
  exact g_iret dJ0_indexOf_0f7a4_6 hw
theorem dX9_advance_0 : decode cX9_advance 0 = .ok (.aload_n 0, 1) := by decide +kernel
theorem dX9_advance_1 : decode cX9_advance 1 = .ok (.aload_n 0, 1) := by decide +kernel
theorem dX9_advance_2 : decode cX9_advance 2 = .ok (.getfield 17, 3) := by decide +kernel
theorem dX9_advance_5 : decode cX9_advance 5 = .ok (.putfield 23, 3) := by decide +kernel
theorem dX9_advance_8 : decode cX9_advance 8 = .ok (.aload_n 0, 1) := by decide +kernel
theorem dX9_advance_9 : decode cX9_advance 9 = .ok (.getfield 23, 3) := by decide +kernel
theorem dX9_advance_12 : decode cX9_advance 12 = .ok (.aload_n 0, 1) := by decide +kernel
theorem dX9_advance_13 : decode cX9_advance 13 = .ok (.getfield 13, 3) := by decide +kernel
theorem dX9_advance_16 : decode cX9_advance 16 = .ok (.if_icmp .ge 44, 3) := by decide +kernel
theorem dX9_advance_19 : decode cX9_advance 19 = .ok (.aload_n 0, 1) := by decide +kernel
theorem dX9_advance_20 : decode cX9_advance 20 = .ok (.getfield 7, 3) := by decide +kernel
theorem dX9_advance_23 : decode cX9_advance 23 = .ok (.aload_n 0, 1) := by decide +kernel
theorem dX9_advance_24 : decode cX9_advance 24 = .ok (.getfield 23, 3) := by decide +kernel
theorem dX9_advance_27 : decode cX9_advance 27 = .ok (.baload, 1) := by decide +kernel
theorem dX9_advance_28 : decode cX9_advance 28 = .ok (.bipush 10, 2) := by decide +kernel
theorem dX9_advance_30 : decode cX9_advance 30 = .ok (.if_icmp .eq 17, 3) := by decide +kernel
theorem dX9_advance_33 : decode cX9_advance 33 = .ok (.aload_n 0, 1) := by decide +kernel
theorem dX9_advance_34 : decode cX9_advance 34 = .ok (.getfield 7, 3) := by decide +kernel
theorem dX9_advance_37 : decode cX9_advance 37 = .ok (.aload_n 0, 1) := by decide +kernel
theorem dX9_advance_38 : decode cX9_advance 38 = .ok (.getfield 23, 3) := by decide +kernel
theorem dX9_advance_41 : decode cX9_advance 41 = .ok (.baload, 1) := by decide +kernel
theorem dX9_advance_42 : decode cX9_advance 42 = .ok (.bipush 32, 2) := by decide +kernel
theorem dX9_advance_44 : decode cX9_advance 44 = .ok (.if_icmp .ne 16, 3) := by decide +kernel
theorem dX9_advance_47 : decode cX9_advance 47 = .ok (.aload_n 0, 1) := by decide +kernel
theorem dX9_advance_48 : decode cX9_advance 48 = .ok (.dup, 1) := by decide +kernel
theorem dX9_advance_49 : decode cX9_advance 49 = .ok (.getfield 23, 3) := by decide +kernel
theorem dX9_advance_52 : decode cX9_advance 52 = .ok (.iconst 1, 1) := by decide +kernel
theorem dX9_advance_53 : decode cX9_advance 53 = .ok (.iadd, 1) := by decide +kernel
theorem dX9_advance_54 : decode cX9_advance 54 = .ok (.putfield 23, 3) := by decide +kernel
theorem dX9_advance_57 : decode cX9_advance 57 = .ok (.goto (-49), 3) := by decide +kernel
theorem dX9_advance_60 : decode cX9_advance 60 = .ok (.aload_n 0, 1) := by decide +kernel
theorem dX9_advance_61 : decode cX9_advance 61 = .ok (.aload_n 0, 1) := by decide +kernel
theorem dX9_advance_62 : decode cX9_advance 62 = .ok (.getfield 23, 3) := by decide +kernel
theorem dX9_advance_65 : decode cX9_advance 65 = .ok (.putfield 17, 3) := by decide +kernel
theorem dX9_advance_68 : decode cX9_advance 68 = .ok (.aload_n 0, 1) := by decide +kernel
theorem dX9_advance_69 : decode cX9_advance 69 = .ok (.getfield 23, 3) := by decide +kernel
theorem dX9_advance_72 : decode cX9_advance 72 = .ok (.aload_n 0, 1) := by decide +kernel
theorem dX9_advance_73 : decode cX9_advance 73 = .ok (.getfield 13, 3) := by decide +kernel
theorem dX9_advance_76 : decode cX9_advance 76 = .ok (.if_icmp .lt 11, 3) := by decide +kernel
theorem dX9_advance_79 : decode cX9_advance 79 = .ok (.aload_n 0, 1) := by decide +kernel
theorem dX9_advance_80 : decode cX9_advance 80 = .ok (.iconst 0, 1) := by decide +kernel
theorem dX9_advance_81 : decode cX9_advance 81 = .ok (.putfield 20, 3) := by decide +kernel
theorem dX9_advance_84 : decode cX9_advance 84 = .ok (.goto 225, 3) := by decide +kernel
theorem dX9_advance_87 : decode cX9_advance 87 = .ok (.aload_n 0, 1) := by decide +kernel
theorem dX9_advance_88 : decode cX9_advance 88 = .ok (.getfield 7, 3) := by decide +kernel
theorem dX9_advance_91 : decode cX9_advance 91 = .ok (.aload_n 0, 1) := by decide +kernel
theorem dX9_advance_92 : decode cX9_advance 92 = .ok (.getfield 23, 3) := by decide +kernel
theorem dX9_advance_95 : decode cX9_advance 95 = .ok (.baload, 1) := by decide +kernel
theorem dX9_advance_96 : decode cX9_advance 96 = .ok (.invokestatic 41, 3) := by decide +kernel
theorem dX9_advance_99 : decode cX9_advance 99 = .ok (.ifCond .eq 47, 3) := by decide +kernel
theorem dX9_advance_102 : decode cX9_advance 102 = .ok (.aload_n 0, 1) := by decide +kernel
theorem dX9_advance_103 : decode cX9_advance 103 = .ok (.iconst 2, 1) := by decide +kernel
theorem dX9_advance_104 : decode cX9_advance 104 = .ok (.putfield 20, 3) := by decide +kernel
theorem dX9_advance_107 : decode cX9_advance 107 = .ok (.aload_n 0, 1) := by decide +kernel
theorem dX9_advance_108 : decode cX9_advance 108 = .ok (.getfield 17, 3) := by decide +kernel
theorem dX9_advance_111 : decode cX9_advance 111 = .ok (.aload_n 0, 1) := by decide +kernel
theorem dX9_advance_112 : decode cX9_advance 112 = .ok (.getfield 13, 3) := by decide +kernel
theorem dX9_advance_115 : decode cX9_advance 115 = .ok (.if_icmp .ge 194, 3) := by decide +kernel
theorem dX9_advance_118 : decode cX9_advance 118 = .ok (.aload_n 0, 1) := by decide +kernel
theorem dX9_advance_119 : decode cX9_advance 119 = .ok (.getfield 7, 3) := by decide +kernel
theorem dX9_advance_122 : decode cX9_advance 122 = .ok (.aload_n 0, 1) := by decide +kernel
theorem dX9_advance_123 : decode cX9_advance 123 = .ok (.getfield 17, 3) := by decide +kernel
theorem dX9_advance_126 : decode cX9_advance 126 = .ok (.baload, 1) := by decide +kernel
theorem dX9_advance_127 : decode cX9_advance 127 = .ok (.invokestatic 41, 3) := by decide +kernel
theorem dX9_advance_130 : decode cX9_advance 130 = .ok (.ifCond .eq 179, 3) := by decide +kernel
theorem dX9_advance_133 : decode cX9_advance 133 = .ok (.aload_n 0, 1) := by decide +kernel
theorem dX9_advance_134 : decode cX9_advance 134 = .ok (.dup, 1) := by decide +kernel
theorem dX9_advance_135 : decode cX9_advance 135 = .ok (.getfield 17, 3) := by decide +kernel
theorem dX9_advance_138 : decode cX9_advance 138 = .ok (.iconst 1, 1) := by decide +kernel
theorem dX9_advance_139 : decode cX9_advance 139 = .ok (.iadd, 1) := by decide +kernel
theorem dX9_advance_140 : decode cX9_advance 140 = .ok (.putfield 17, 3) := by decide +kernel
theorem dX9_advance_143 : decode cX9_advance 143 = .ok (.goto (-36), 3) := by decide +kernel
theorem dX9_advance_146 : decode cX9_advance 146 = .ok (.aload_n 0, 1) := by decide +kernel
theorem dX9_advance_147 : decode cX9_advance 147 = .ok (.getfield 7, 3) := by decide +kernel
theorem dX9_advance_150 : decode cX9_advance 150 = .ok (.aload_n 0, 1) := by decide +kernel
theorem dX9_advance_151 : decode cX9_advance 151 = .ok (.getfield 23, 3) := by decide +kernel
theorem dX9_advance_154 : decode cX9_advance 154 = .ok (.baload, 1) := by decide +kernel
theorem dX9_advance_155 : decode cX9_advance 155 = .ok (.invokestatic 45, 3) := by decide +kernel
theorem dX9_advance_158 : decode cX9_advance 158 = .ok (.ifCond .eq 102, 3) := by decide +kernel
theorem dX9_advance_161 : decode cX9_advance 161 = .ok (.aload_n 0, 1) := by decide +kernel
theorem dX9_advance_162 : decode cX9_advance 162 = .ok (.iconst 0, 1) := by decide +kernel
theorem dX9_advance_163 : decode cX9_advance 163 = .ok (.putfield 26, 3) := by decide +kernel
theorem dX9_advance_166 : decode cX9_advance 166 = .ok (.aload_n 0, 1) := by decide +kernel
theorem dX9_advance_167 : decode cX9_advance 167 = .ok (.getfield 17, 3) := by decide +kernel
theorem dX9_advance_170 : decode cX9_advance 170 = .ok (.aload_n 0, 1) := by decide +kernel
theorem dX9_advance_171 : decode cX9_advance 171 = .ok (.getfield 13, 3) := by decide +kernel
theorem dX9_advance_174 : decode cX9_advance 174 = .ok (.if_icmp .ge 61, 3) := by decide +kernel
theorem dX9_advance_177 : decode cX9_advance 177 = .ok (.aload_n 0, 1) := by decide +kernel
theorem dX9_advance_178 : decode cX9_advance 178 = .ok (.getfield 7, 3) := by decide +kernel
theorem dX9_advance_181 : decode cX9_advance 181 = .ok (.aload_n 0, 1) := by decide +kernel
theorem dX9_advance_182 : decode cX9_advance 182 = .ok (.getfield 17, 3) := by decide +kernel
theorem dX9_advance_185 : decode cX9_advance 185 = .ok (.baload, 1) := by decide +kernel
theorem dX9_advance_186 : decode cX9_advance 186 = .ok (.invokestatic 45, 3) := by decide +kernel
theorem dX9_advance_189 : decode cX9_advance 189 = .ok (.ifCond .eq 46, 3) := by decide +kernel
theorem dX9_advance_192 : decode cX9_advance 192 = .ok (.aload_n 0, 1) := by decide +kernel
theorem dX9_advance_193 : decode cX9_advance 193 = .ok (.aload_n 0, 1) := by decide +kernel
theorem dX9_advance_194 : decode cX9_advance 194 = .ok (.getfield 26, 3) := by decide +kernel
theorem dX9_advance_197 : decode cX9_advance 197 = .ok (.bipush 10, 2) := by decide +kernel
theorem dX9_advance_199 : decode cX9_advance 199 = .ok (.imul, 1) := by decide +kernel
theorem dX9_advance_200 : decode cX9_advance 200 = .ok (.aload_n 0, 1) := by decide +kernel
theorem dX9_advance_201 : decode cX9_advance 201 = .ok (.getfield 7, 3) := by decide +kernel
theorem dX9_advance_204 : decode cX9_advance 204 = .ok (.aload_n 0, 1) := by decide +kernel
theorem dX9_advance_205 : decode cX9_advance 205 = .ok (.getfield 17, 3) := by decide +kernel
theorem dX9_advance_208 : decode cX9_advance 208 = .ok (.baload, 1) := by decide +kernel
theorem dX9_advance_209 : decode cX9_advance 209 = .ok (.iadd, 1) := by decide +kernel
theorem dX9_advance_210 : decode cX9_advance 210 = .ok (.bipush 48, 2) := by decide +kernel
theorem dX9_advance_212 : decode cX9_advance 212 = .ok (.isub, 1) := by decide +kernel
theorem dX9_advance_213 : decode cX9_advance 213 = .ok (.sipush 9999, 3) := by decide +kernel
theorem dX9_advance_216 : decode cX9_advance 216 = .ok (.invokestatic 29, 3) := by decide +kernel
theorem dX9_advance_219 : decode cX9_advance 219 = .ok (.putfield 26, 3) := by decide +kernel
theorem dX9_advance_222 : decode cX9_advance 222 = .ok (.aload_n 0, 1) := by decide +kernel
theorem dX9_advance_223 : decode cX9_advance 223 = .ok (.dup, 1) := by decide +kernel
theorem dX9_advance_224 : decode cX9_advance 224 = .ok (.getfield 17, 3) := by decide +kernel
theorem dX9_advance_227 : decode cX9_advance 227 = .ok (.iconst 1, 1) := by decide +kernel
theorem dX9_advance_228 : decode cX9_advance 228 = .ok (.iadd, 1) := by decide +kernel
theorem dX9_advance_229 : decode cX9_advance 229 = .ok (.putfield 17, 3) := by decide +kernel
theorem dX9_advance_232 : decode cX9_advance 232 = .ok (.goto (-66), 3) := by decide +kernel
theorem dX9_advance_235 : decode cX9_advance 235 = .ok (.aload_n 0, 1) := by decide +kernel
theorem dX9_advance_236 : decode cX9_advance 236 = .ok (.aload_n 0, 1) := by decide +kernel
theorem dX9_advance_237 : decode cX9_advance 237 = .ok (.getfield 17, 3) := by decide +kernel
theorem dX9_advance_240 : decode cX9_advance 240 = .ok (.aload_n 0, 1) := by decide +kernel
theorem dX9_advance_241 : decode cX9_advance 241 = .ok (.getfield 23, 3) := by decide +kernel
theorem dX9_advance_244 : decode cX9_advance 244 = .ok (.isub, 1) := by decide +kernel
theorem dX9_advance_245 : decode cX9_advance 245 = .ok (.iconst 3, 1) := by decide +kernel
theorem dX9_advance_246 : decode cX9_advance 246 = .ok (.if_icmp .le 7, 3) := by decide +kernel
theorem dX9_advance_249 : decode cX9_advance 249 = .ok (.iconst 1, 1) := by decide +kernel
theorem dX9_advance_250 : decode cX9_advance 250 = .ok (.goto 4, 3) := by decide +kernel
theorem dX9_advance_253 : decode cX9_advance 253 = .ok (.iconst 3, 1) := by decide +kernel
theorem dX9_advance_254 : decode cX9_advance 254 = .ok (.putfield 20, 3) := by decide +kernel
theorem dX9_advance_257 : decode cX9_advance 257 = .ok (.goto 52, 3) := by decide +kernel
theorem dX9_advance_260 : decode cX9_advance 260 = .ok (.aload_n 0, 1) := by decide +kernel
theorem dX9_advance_261 : decode cX9_advance 261 = .ok (.aload_n 0, 1) := by decide +kernel
theorem dX9_advance_262 : decode cX9_advance 262 = .ok (.getfield 7, 3) := by decide +kernel
theorem dX9_advance_265 : decode cX9_advance 265 = .ok (.aload_n 0, 1) := by decide +kernel
theorem dX9_advance_266 : decode cX9_advance 266 = .ok (.getfield 23, 3) := by decide +kernel
theorem dX9_advance_269 : decode cX9_advance 269 = .ok (.baload, 1) := by decide +kernel
theorem dX9_advance_270 : decode cX9_advance 270 = .ok (.ifCond .le 25, 3) := by decide +kernel
theorem dX9_advance_273 : decode cX9_advance 273 = .ok (.ldc 48, 2) := by decide +kernel
theorem dX9_advance_275 : decode cX9_advance 275 = .ok (.aload_n 0, 1) := by decide +kernel
theorem dX9_advance_276 : decode cX9_advance 276 = .ok (.getfield 7, 3) := by decide +kernel
theorem dX9_advance_279 : decode cX9_advance 279 = .ok (.aload_n 0, 1) := by decide +kernel
theorem dX9_advance_280 : decode cX9_advance 280 = .ok (.getfield 23, 3) := by decide +kernel
theorem dX9_advance_283 : decode cX9_advance 283 = .ok (.baload, 1) := by decide +kernel
theorem dX9_advance_284 : decode cX9_advance 284 = .ok (.i2c, 1) := by decide +kernel
theorem dX9_advance_285 : decode cX9_advance 285 = .ok (.invokevirtual 50, 3) := by decide +kernel
theorem dX9_advance_288 : decode cX9_advance 288 = .ok (.ifCond .lt 7, 3) := by decide +kernel
theorem dX9_advance_291 : decode cX9_advance 291 = .ok (.iconst 4, 1) := by decide +kernel
theorem dX9_advance_292 : decode cX9_advance 292 = .ok (.goto 4, 3) := by decide +kernel
theorem dX9_advance_295 : decode cX9_advance 295 = .ok (.iconst 1, 1) := by decide +kernel
theorem dX9_advance_296 : decode cX9_advance 296 = .ok (.putfield 20, 3) := by decide +kernel
theorem dX9_advance_299 : decode cX9_advance 299 = .ok (.aload_n 0, 1) := by decide +kernel
theorem dX9_advance_300 : decode cX9_advance 300 = .ok (.dup, 1) := by decide +kernel
theorem dX9_advance_301 : decode cX9_advance 301 = .ok (.getfield 17, 3) := by decide +kernel
theorem dX9_advance_304 : decode cX9_advance 304 = .ok (.iconst 1, 1) := by decide +kernel
theorem dX9_advance_305 : decode cX9_advance 305 = .ok (.iadd, 1) := by decide +kernel
theorem dX9_advance_306 : decode cX9_advance 306 = .ok (.putfield 17, 3) := by decide +kernel
theorem dX9_advance_309 : decode cX9_advance 309 = .ok (.return_, 1) := by decide +kernel
theorem fl_X9_17 : FLk RX9 17 9 2 := ⟨_, rfl, by decide, mW 45 (by decide +kernel) rfl⟩
theorem fl_X9_23 : FLk RX9 23 9 4 := ⟨_, rfl, by decide, mW 47 (by decide +kernel) rfl⟩
theorem pf_9_4 : parseFieldDescriptor (uD 9 4) = some .int := by decide +kernel
theorem fl_X9_13 : FLk RX9 13 9 1 := ⟨_, rfl, by decide, mW 44 (by decide +kernel) rfl⟩
theorem fl_X9_7 : FLk RX9 7 9 0 := ⟨_, rfl, by decide, mW 43 (by decide +kernel) rfl⟩
theorem pf_9_2 : parseFieldDescriptor (uD 9 2) = some .int := by decide +kernel
theorem ml_X9_41 : Cond.methodLink RX9 41 yX9_isLetter ∈ Wd := mW 458 (by decide +kernel) rfl
theorem mk_X9_isLetter : MokS yX9_isLetter cX9_isLetter 1 (some .boolean) 1 := ⟨⟨mW 3 (by decide +kernel) rfl, mW 460 (by decide +kernel) rfl, ⟨by decide, by decide, by decide +kernel⟩, by decide⟩, mW 459 (by decide +kernel) rfl⟩
theorem ml_X9_45 : Cond.methodLink RX9 45 yX9_isDigit ∈ Wd := mW 461 (by decide +kernel) rfl
theorem mk_X9_isDigit : MokS yX9_isDigit cX9_isDigit 1 (some .boolean) 1 := ⟨⟨mW 3 (by decide +kernel) rfl, mW 463 (by decide +kernel) rfl, ⟨by decide, by decide, by decide +kernel⟩, by decide⟩, mW 462 (by decide +kernel) rfl⟩
theorem fl_X9_20 : FLk RX9 20 9 3 := ⟨_, rfl, by decide, mW 46 (by decide +kernel) rfl⟩
theorem pf_9_3 : parseFieldDescriptor (uD 9 3) = some .int := by decide +kernel
theorem ml_X9_50 : Cond.methodLink RX9 50 yJ0_indexOf_0f7a4 ∈ Wd := mW 465 (by decide +kernel) rfl
theorem mk_J0_indexOf_0f7a4 : MokV yJ0_indexOf_0f7a4 cJ0_indexOf_0f7a4 2 (some .int) 1 := ⟨⟨mW 16 (by decide +kernel) rfl, mW 468 (by decide +kernel) rfl, ⟨by decide, by decide, by decide +kernel⟩, by decide⟩, mW 466 (by decide +kernel) rfl, mW 467 (by decide +kernel) rfl⟩
theorem fl_X9_26 : FLk RX9 26 9 5 := ⟨_, rfl, by decide, mW 49 (by decide +kernel) rfl⟩
theorem pf_9_5 : parseFieldDescriptor (uD 9 5) = some .int := by decide +kernel
theorem ml_X9_29 : Cond.methodLink RX9 29 yJ9_min_7cf53 ∈ Wd := mW 448 (by decide +kernel) rfl
def Tokens_advance_L8 (K60 : Hp → Prop) : Nat → Hp → Prop
  | 0, _ => False
  | n + 1, h => ((gI h 3 1) ≤ (gI h 3 4) → K60 h) ∧ (¬ (gI h 3 1) ≤ (gI h 3 4) → gR h 0 = some 1 ∧ vp_in (gI h 3 4) 900 ∧ ∀ J47 : Hp → Prop, J47 = (fun h3 => ∀ h4 : Hp, h4 = sI h3 3 4 ((gI h3 3 4) + 1) → Tokens_advance_L8 K60 n  h4) → ((gI h 1 ((gI h 3 4)).toNatClampNeg) = 10 → J47 h) ∧ (¬ (gI h 1 ((gI h 3 4)).toNatClampNeg) = 10 → gR h 0 = some 1 ∧ vp_in (gI h 3 4) 900 ∧ (¬ (gI h 1 ((gI h 3 4)).toNatClampNeg) = 32 → K60 h) ∧ ((gI h 1 ((gI h 3 4)).toNatClampNeg) = 32 → J47 h)))
set_option maxHeartbeats 4000000 in
set_option maxRecDepth 20000 in
theorem gl_Tokens_advance_L8 {G : Gx}  {Q : Hp → Prop} {K60 : Hp → Prop} (hK60 : ∀  (h1 : Hp), K60  h1 → Go cX9_advance 1 RX9 none 8 G (QV G Q) 60 [(0, .ref (gAd G 3))] [] h1) : ∀ (n : Nat)  (h : Hp), Tokens_advance_L8 K60 n  h → Go cX9_advance 1 RX9 none 8 G (QV G Q) 8 [(0, .ref (gAd G 3))] [] h := by
  intro n
  induction n with
  | zero => intro  h hw; exact False.elim hw
  | succ n ih =>
    intro  h hw
    refine g_aload_n dX9_advance_8 rfl rfl ?_
    refine g_getI dX9_advance_9 fl_X9_23 sh3 rfl ?_
    refine g_aload_n dX9_advance_12 rfl rfl ?_
    refine g_getI dX9_advance_13 fl_X9_13 sh3 rfl ?_
    refine g_icmp_ge 60 dX9_advance_16 rfl (fun hc => ?_) (fun hc => ?_)
    · have hw := hw.1 hc
      exact hK60 _ hw
    · have hw := hw.2 hc
      refine g_aload_n dX9_advance_19 rfl rfl ?_
      refine g_getM dX9_advance_20 fl_X9_7 sh3 rfl hw.1 ?_
      have hw := hw.2
      refine g_aload_n dX9_advance_23 rfl rfl ?_
      refine g_getI dX9_advance_24 fl_X9_23 sh3 rfl ?_
      refine g_bald dX9_advance_27 ia1 al1 hw.1 ?_
      have hw := hw.2
      refine g_bipush (v := 10) dX9_advance_28 (by decide) ?_
      refine jn_el hw (fun J47 eJ47 hw => ?_)
      have hJ47 : ∀ (h3 : Hp), J47 h3 → Go cX9_advance 1 RX9 none 8 G (QV G Q) 47 [(0, .ref (gAd G 3))] [] h3 := by
        intro h3 hw
        subst eJ47
        refine g_aload_n dX9_advance_47 rfl rfl ?_
        refine g_dup dX9_advance_48 rfl ?_
        refine g_getI dX9_advance_49 fl_X9_23 sh3 rfl ?_
        refine g_iconst (v := 1) dX9_advance_52 (by decide) ?_
        refine g_iadd dX9_advance_53 ?_
        refine g_putI dX9_advance_54 fl_X9_23 sh3 rfl rfl pf_9_4 ?_
        refine g_heap (fun h4 eh4 => ?_)
        have hw := hw h4 eh4
        refine g_goto 8 dX9_advance_57 rfl ?_
        exact ih _ hw
      refine g_icmp_eq 47 dX9_advance_30 rfl (fun hc => ?_) (fun hc => ?_)
      · have hw := hw.1 hc
        exact hJ47 _ hw
      · have hw := hw.2 hc
        refine g_aload_n dX9_advance_33 rfl rfl ?_
        refine g_getM dX9_advance_34 fl_X9_7 sh3 rfl hw.1 ?_
        have hw := hw.2
        refine g_aload_n dX9_advance_37 rfl rfl ?_
        refine g_getI dX9_advance_38 fl_X9_23 sh3 rfl ?_
        refine g_bald dX9_advance_41 ia1 al1 hw.1 ?_
        have hw := hw.2
        refine g_bipush (v := 32) dX9_advance_42 (by decide) ?_
        refine g_icmp_ne 60 dX9_advance_44 rfl (fun hc => ?_) (fun hc => ?_)
        · have hw := hw.1 hc
          exact hK60 _ hw
        · have hw := hw.2 hc
          exact hJ47 _ hw
def Tokens_advance_L166 (K235 : Hp → Prop) : Nat → Hp → Prop
  | 0, _ => False
  | n + 1, h => ((gI h 3 1) ≤ (gI h 3 2) → K235 h) ∧ (¬ (gI h 3 1) ≤ (gI h 3 2) → gR h 0 = some 1 ∧ vp_in (gI h 3 2) 900 ∧ Tokens_isDigit (gI h 1 ((gI h 3 2)).toNatClampNeg) h (fun r26 h27 => (r26 = 0 → K235 h27) ∧ (¬ r26 = 0 → gR h27 0 = some 1 ∧ vp_in (gI h27 3 2) 900 ∧ J9_min_7cf53 ((((gI h27 3 5) * 10) + (gI h27 1 ((gI h27 3 2)).toNatClampNeg)) - 48) 9999 h27 (fun r29 h30 => ∀ h31 : Hp, h31 = sI h30 3 5 r29 → ∀ h32 : Hp, h32 = sI h31 3 2 ((gI h31 3 2) + 1) → Tokens_advance_L166 K235 n  h32))))
set_option maxHeartbeats 4000000 in
set_option maxRecDepth 20000 in
theorem gl_Tokens_advance_L166 {G : Gx}  {Q : Hp → Prop} {K235 : Hp → Prop} (hK235 : ∀  (h1 : Hp), K235  h1 → Go cX9_advance 1 RX9 none 8 G (QV G Q) 235 [(0, .ref (gAd G 3))] [] h1) : ∀ (n : Nat)  (h : Hp), Tokens_advance_L166 K235 n  h → Go cX9_advance 1 RX9 none 8 G (QV G Q) 166 [(0, .ref (gAd G 3))] [] h := by
  intro n
  induction n with
  | zero => intro  h hw; exact False.elim hw
  | succ n ih =>
    intro  h hw
    refine g_aload_n dX9_advance_166 rfl rfl ?_
    refine g_getI dX9_advance_167 fl_X9_17 sh3 rfl ?_
    refine g_aload_n dX9_advance_170 rfl rfl ?_
    refine g_getI dX9_advance_171 fl_X9_13 sh3 rfl ?_
    refine g_icmp_ge 235 dX9_advance_174 rfl (fun hc => ?_) (fun hc => ?_)
    · have hw := hw.1 hc
      exact hK235 _ hw
    · have hw := hw.2 hc
      refine g_aload_n dX9_advance_177 rfl rfl ?_
      refine g_getM dX9_advance_178 fl_X9_7 sh3 rfl hw.1 ?_
      have hw := hw.2
      refine g_aload_n dX9_advance_181 rfl rfl ?_
      refine g_getI dX9_advance_182 fl_X9_17 sh3 rfl ?_
      refine g_bald dX9_advance_185 ia1 al1 hw.1 ?_
      have hw := hw.2
      refine g_callSI [.int (gI h 1 ((gI h 3 2)).toNatClampNeg)] dX9_advance_186 ml_X9_45 mk_X9_isDigit rfl (Nat.le_of_ble_eq_true rfl) (Nat.le_of_ble_eq_true rfl) rfl (c_Tokens_isDigit hw) (fun r26 h27 hw => ?_)
      refine g_if_eq 235 dX9_advance_189 rfl (fun hc => ?_) (fun hc => ?_)
      · have hw := hw.1 hc
        exact hK235 _ hw
      · have hw := hw.2 hc
        refine g_aload_n dX9_advance_192 rfl rfl ?_
        refine g_aload_n dX9_advance_193 rfl rfl ?_
        refine g_getI dX9_advance_194 fl_X9_26 sh3 rfl ?_
        refine g_bipush (v := 10) dX9_advance_197 (by decide) ?_
        refine g_imul dX9_advance_199 ?_
        refine g_aload_n dX9_advance_200 rfl rfl ?_
        refine g_getM dX9_advance_201 fl_X9_7 sh3 rfl hw.1 ?_
        have hw := hw.2
        refine g_aload_n dX9_advance_204 rfl rfl ?_
        refine g_getI dX9_advance_205 fl_X9_17 sh3 rfl ?_
        refine g_bald dX9_advance_208 ia1 al1 hw.1 ?_
        have hw := hw.2
        refine g_iadd dX9_advance_209 ?_
        refine g_bipush (v := 48) dX9_advance_210 (by decide) ?_
        refine g_isub dX9_advance_212 ?_
        refine g_sipush (v := 9999) dX9_advance_213 (by decide) ?_
        refine g_callSI [.int ((((gI h27 3 5) * 10) + (gI h27 1 ((gI h27 3 2)).toNatClampNeg)) - 48), .int 9999] dX9_advance_216 ml_X9_29 mk_J9_min_7cf53 rfl (Nat.le_of_ble_eq_true rfl) (Nat.le_of_ble_eq_true rfl) rfl (c_J9_min_7cf53 hw) (fun r29 h30 hw => ?_)
        refine g_putI dX9_advance_219 fl_X9_26 sh3 rfl rfl pf_9_5 ?_
        refine g_heap (fun h31 eh31 => ?_)
        have hw := hw h31 eh31
        refine g_aload_n dX9_advance_222 rfl rfl ?_
        refine g_dup dX9_advance_223 rfl ?_
        refine g_getI dX9_advance_224 fl_X9_17 sh3 rfl ?_
        refine g_iconst (v := 1) dX9_advance_227 (by decide) ?_
        refine g_iadd dX9_advance_228 ?_
        refine g_putI dX9_advance_229 fl_X9_17 sh3 rfl rfl pf_9_2 ?_
        refine g_heap (fun h32 eh32 => ?_)
        have hw := hw h32 eh32
        refine g_goto 166 dX9_advance_232 rfl ?_
        exact ih _ hw
def Tokens_advance_L107 (Q : Hp → Prop) : Nat → Hp → Prop
  | 0, _ => False
  | n + 1, h => ((gI h 3 1) ≤ (gI h 3 2) → Q h) ∧ (¬ (gI h 3 1) ≤ (gI h 3 2) → gR h 0 = some 1 ∧ vp_in (gI h 3 2) 900 ∧ Tokens_isLetter (gI h 1 ((gI h 3 2)).toNatClampNeg) h (fun r40 h41 => (r40 = 0 → Q h41) ∧ (¬ r40 = 0 → ∀ h42 : Hp, h42 = sI h41 3 2 ((gI h41 3 2) + 1) → Tokens_advance_L107 Q n  h42)))
set_option maxHeartbeats 4000000 in
set_option maxRecDepth 20000 in
theorem gl_Tokens_advance_L107 {G : Gx}  {Q : Hp → Prop} : ∀ (n : Nat)  (h : Hp), Tokens_advance_L107 Q n  h → Go cX9_advance 1 RX9 none 8 G (QV G Q) 107 [(0, .ref (gAd G 3))] [] h := by
  intro n
  induction n with
  | zero => intro  h hw; exact False.elim hw
  | succ n ih =>
    intro  h hw
    refine g_aload_n dX9_advance_107 rfl rfl ?_
    refine g_getI dX9_advance_108 fl_X9_17 sh3 rfl ?_
    refine g_aload_n dX9_advance_111 rfl rfl ?_
    refine g_getI dX9_advance_112 fl_X9_13 sh3 rfl ?_
    refine g_icmp_ge 309 dX9_advance_115 rfl (fun hc => ?_) (fun hc => ?_)
    · have hw := hw.1 hc
      exact g_vret dX9_advance_309 hw
    · have hw := hw.2 hc
      refine g_aload_n dX9_advance_118 rfl rfl ?_
      refine g_getM dX9_advance_119 fl_X9_7 sh3 rfl hw.1 ?_
      have hw := hw.2
      refine g_aload_n dX9_advance_122 rfl rfl ?_
      refine g_getI dX9_advance_123 fl_X9_17 sh3 rfl ?_
      refine g_bald dX9_advance_126 ia1 al1 hw.1 ?_
      have hw := hw.2
      refine g_callSI [.int (gI h 1 ((gI h 3 2)).toNatClampNeg)] dX9_advance_127 ml_X9_41 mk_X9_isLetter rfl (Nat.le_of_ble_eq_true rfl) (Nat.le_of_ble_eq_true rfl) rfl (c_Tokens_isLetter hw) (fun r40 h41 hw => ?_)
      refine g_if_eq 309 dX9_advance_130 rfl (fun hc => ?_) (fun hc => ?_)
      · have hw := hw.1 hc
        exact g_vret dX9_advance_309 hw
      · have hw := hw.2 hc
        refine g_aload_n dX9_advance_133 rfl rfl ?_
        refine g_dup dX9_advance_134 rfl ?_
        refine g_getI dX9_advance_135 fl_X9_17 sh3 rfl ?_
        refine g_iconst (v := 1) dX9_advance_138 (by decide) ?_
        refine g_iadd dX9_advance_139 ?_
        refine g_putI dX9_advance_140 fl_X9_17 sh3 rfl rfl pf_9_2 ?_
        refine g_heap (fun h42 eh42 => ?_)
        have hw := hw h42 eh42
        refine g_goto 107 dX9_advance_143 rfl ?_
        exact ih _ hw
def Tokens_advance  (h : Hp) (Q : Hp → Prop) : Prop := ∀ h1 : Hp, h1 = sI h 3 4 (gI h 3 2) → ∃ n6, Tokens_advance_L8 (fun h7 => ∀ h8 : Hp, h8 = sI h7 3 2 (gI h7 3 4) → ((gI h8 3 4) < (gI h8 3 1) → gR h8 0 = some 1 ∧ vp_in (gI h8 3 4) 900 ∧ Tokens_isLetter (gI h8 1 ((gI h8 3 4)).toNatClampNeg) h8 (fun r10 h11 => (r10 = 0 → gR h11 0 = some 1 ∧ vp_in (gI h11 3 4) 900 ∧ Tokens_isDigit (gI h11 1 ((gI h11 3 4)).toNatClampNeg) h11 (fun r13 h14 => (r13 = 0 → gR h14 0 = some 1 ∧ vp_in (gI h14 3 4) 900 ∧ ∀ J296 : Int32 → Hp → Prop, J296 = (fun s16 h17 => ∀ h18 : Hp, h18 = sI h17 3 3 s16 → ∀ h19 : Hp, h19 = sI h18 3 2 ((gI h18 3 2) + 1) → Q h19) → ∀ J295 : Hp → Prop, J295 = (fun h20 => J296 1 h20) → ((gI h14 1 ((gI h14 3 4)).toNatClampNeg) ≤ 0 → J295 h14) ∧ (¬ (gI h14 1 ((gI h14 3 4)).toNatClampNeg) ≤ 0 → gR h14 0 = some 1 ∧ vp_in (gI h14 3 4) 900 ∧ J0_indexOf_0f7a4 0 ((((gI h14 1 ((gI h14 3 4)).toNatClampNeg)).toUInt32 % 65536).toInt32) h14 (fun r22 h23 => (r22 < 0 → J295 h23) ∧ (¬ r22 < 0 → J296 4 h23)))) ∧ (¬ r13 = 0 → ∀ h24 : Hp, h24 = sI h14 3 5 0 → ∃ n33, Tokens_advance_L166 (fun h34 => ∀ J254 : Int32 → Hp → Prop, J254 = (fun s35 h36 => ∀ h37 : Hp, h37 = sI h36 3 3 s35 → Q h37) → (((gI h34 3 2) - (gI h34 3 4)) ≤ 3 → J254 3 h34) ∧ (¬ ((gI h34 3 2) - (gI h34 3 4)) ≤ 3 → J254 1 h34)) n33  h24))) ∧ (¬ r10 = 0 → ∀ h38 : Hp, h38 = sI h11 3 3 2 → ∃ n43, Tokens_advance_L107 Q n43  h38))) ∧ (¬ (gI h8 3 4) < (gI h8 3 1) → ∀ h44 : Hp, h44 = sI h8 3 3 0 → Q h44)) n6  h1
set_option maxHeartbeats 4000000 in
set_option maxRecDepth 20000 in
theorem c_Tokens_advance {G : Gx}   {h : Hp} {Q : Hp → Prop} (hw : Tokens_advance  h Q) : Ct yX9_advance cX9_advance 1 none 8 G [.ref (gAd G 3)] h (QV G Q) := by
  refine ct_go [(0, .ref (gAd G 3))] (plainFor_of_name (by decide)) rfl (Nat.le_of_ble_eq_true rfl) rfl ?_
  refine g_aload_n dX9_advance_0 rfl rfl ?_
  refine g_aload_n dX9_advance_1 rfl rfl ?_
  refine g_getI dX9_advance_2 fl_X9_17 sh3 rfl ?_
  refine g_putI dX9_advance_5 fl_X9_23 sh3 rfl rfl pf_9_4 ?_
  refine g_heap (fun h1 eh1 => ?_)
  have hw := hw h1 eh1
  obtain ⟨n6, hw⟩ := hw
  refine gl_Tokens_advance_L8  ?_ _ _ hw
  · intro h7 hw
    refine g_aload_n dX9_advance_60 rfl rfl ?_
    refine g_aload_n dX9_advance_61 rfl rfl ?_
    refine g_getI dX9_advance_62 fl_X9_23 sh3 rfl ?_
    refine g_putI dX9_advance_65 fl_X9_17 sh3 rfl rfl pf_9_2 ?_
    refine g_heap (fun h8 eh8 => ?_)
    have hw := hw h8 eh8
    refine g_aload_n dX9_advance_68 rfl rfl ?_
    refine g_getI dX9_advance_69 fl_X9_23 sh3 rfl ?_
    refine g_aload_n dX9_advance_72 rfl rfl ?_
    refine g_getI dX9_advance_73 fl_X9_13 sh3 rfl ?_
    refine g_icmp_lt 87 dX9_advance_76 rfl (fun hc => ?_) (fun hc => ?_)
    · have hw := hw.1 hc
      refine g_aload_n dX9_advance_87 rfl rfl ?_
      refine g_getM dX9_advance_88 fl_X9_7 sh3 rfl hw.1 ?_
      have hw := hw.2
      refine g_aload_n dX9_advance_91 rfl rfl ?_
      refine g_getI dX9_advance_92 fl_X9_23 sh3 rfl ?_
      refine g_bald dX9_advance_95 ia1 al1 hw.1 ?_
      have hw := hw.2
      refine g_callSI [.int (gI h8 1 ((gI h8 3 4)).toNatClampNeg)] dX9_advance_96 ml_X9_41 mk_X9_isLetter rfl (Nat.le_of_ble_eq_true rfl) (Nat.le_of_ble_eq_true rfl) rfl (c_Tokens_isLetter hw) (fun r10 h11 hw => ?_)
      refine g_if_eq 146 dX9_advance_99 rfl (fun hc => ?_) (fun hc => ?_)
      · have hw := hw.1 hc
        refine g_aload_n dX9_advance_146 rfl rfl ?_
        refine g_getM dX9_advance_147 fl_X9_7 sh3 rfl hw.1 ?_
        have hw := hw.2
        refine g_aload_n dX9_advance_150 rfl rfl ?_
        refine g_getI dX9_advance_151 fl_X9_23 sh3 rfl ?_
        refine g_bald dX9_advance_154 ia1 al1 hw.1 ?_
        have hw := hw.2
        refine g_callSI [.int (gI h11 1 ((gI h11 3 4)).toNatClampNeg)] dX9_advance_155 ml_X9_45 mk_X9_isDigit rfl (Nat.le_of_ble_eq_true rfl) (Nat.le_of_ble_eq_true rfl) rfl (c_Tokens_isDigit hw) (fun r13 h14 hw => ?_)
        refine g_if_eq 260 dX9_advance_158 rfl (fun hc => ?_) (fun hc => ?_)
        · have hw := hw.1 hc
          refine g_aload_n dX9_advance_260 rfl rfl ?_
          refine g_aload_n dX9_advance_261 rfl rfl ?_
          refine g_getM dX9_advance_262 fl_X9_7 sh3 rfl hw.1 ?_
          have hw := hw.2
          refine g_aload_n dX9_advance_265 rfl rfl ?_
          refine g_getI dX9_advance_266 fl_X9_23 sh3 rfl ?_
          refine g_bald dX9_advance_269 ia1 al1 hw.1 ?_
          have hw := hw.2
          refine jn_el hw (fun J296 eJ296 hw => ?_)
          have hJ296 : ∀ (s16 : Int32) (h17 : Hp), J296 s16 h17 → Go cX9_advance 1 RX9 none 8 G (QV G Q) 296 [(0, .ref (gAd G 3))] [.int s16, .ref (gAd G 3)] h17 := by
            intro s16 h17 hw
            subst eJ296
            refine g_putI dX9_advance_296 fl_X9_20 sh3 rfl rfl pf_9_3 ?_
            refine g_heap (fun h18 eh18 => ?_)
            have hw := hw h18 eh18
            refine g_aload_n dX9_advance_299 rfl rfl ?_
            refine g_dup dX9_advance_300 rfl ?_
            refine g_getI dX9_advance_301 fl_X9_17 sh3 rfl ?_
            refine g_iconst (v := 1) dX9_advance_304 (by decide) ?_
            refine g_iadd dX9_advance_305 ?_
            refine g_putI dX9_advance_306 fl_X9_17 sh3 rfl rfl pf_9_2 ?_
            refine g_heap (fun h19 eh19 => ?_)
            have hw := hw h19 eh19
            exact g_vret dX9_advance_309 hw
          refine jn_el hw (fun J295 eJ295 hw => ?_)
          have hJ295 : ∀ (h20 : Hp), J295 h20 → Go cX9_advance 1 RX9 none 8 G (QV G Q) 295 [(0, .ref (gAd G 3))] [.ref (gAd G 3)] h20 := by
            intro h20 hw
            subst eJ295
            refine g_iconst (v := 1) dX9_advance_295 (by decide) ?_
            exact hJ296 _ _ hw
          refine g_if_le 295 dX9_advance_270 rfl (fun hc => ?_) (fun hc => ?_)
          · have hw := hw.1 hc
            exact hJ295 _ hw
          · have hw := hw.2 hc
            refine g_ldcS (i := 0) dX9_advance_273 (by decide) rfl ?_
            refine g_aload_n dX9_advance_275 rfl rfl ?_
            refine g_getM dX9_advance_276 fl_X9_7 sh3 rfl hw.1 ?_
            have hw := hw.2
            refine g_aload_n dX9_advance_279 rfl rfl ?_
            refine g_getI dX9_advance_280 fl_X9_23 sh3 rfl ?_
            refine g_bald dX9_advance_283 ia1 al1 hw.1 ?_
            have hw := hw.2
            refine g_i2c dX9_advance_284 ?_
            refine g_callTI [.int ((((gI h14 1 ((gI h14 3 4)).toNatClampNeg)).toUInt32 % 65536).toInt32)] dX9_advance_285 ml_X9_50 mk_J0_indexOf_0f7a4 rfl rfl (by decide) (Nat.le_of_ble_eq_true rfl) (Nat.le_of_ble_eq_true rfl) rfl (c_J0_indexOf_0f7a4 (by decide) hw) (fun r22 h23 hw => ?_)
            refine g_if_lt 295 dX9_advance_288 rfl (fun hc => ?_) (fun hc => ?_)
            · have hw := hw.1 hc
              exact hJ295 _ hw
            · have hw := hw.2 hc
              refine g_iconst (v := 4) dX9_advance_291 (by decide) ?_
              refine g_goto 296 dX9_advance_292 rfl ?_
              exact hJ296 _ _ hw
        · have hw := hw.2 hc
          refine g_aload_n dX9_advance_161 rfl rfl ?_
          refine g_iconst (v := 0) dX9_advance_162 (by decide) ?_
          refine g_putI dX9_advance_163 fl_X9_26 sh3 rfl rfl pf_9_5 ?_
          refine g_heap (fun h24 eh24 => ?_)
          have hw := hw h24 eh24
          obtain ⟨n33, hw⟩ := hw
          refine gl_Tokens_advance_L166  ?_ _ _ hw
          · intro h34 hw
            refine g_aload_n dX9_advance_235 rfl rfl ?_
            refine g_aload_n dX9_advance_236 rfl rfl ?_
            refine g_getI dX9_advance_237 fl_X9_17 sh3 rfl ?_
            refine g_aload_n dX9_advance_240 rfl rfl ?_
            refine g_getI dX9_advance_241 fl_X9_23 sh3 rfl ?_
            refine g_isub dX9_advance_244 ?_
            refine g_iconst (v := 3) dX9_advance_245 (by decide) ?_
            refine jn_el hw (fun J254 eJ254 hw => ?_)
            have hJ254 : ∀ (s35 : Int32) (h36 : Hp), J254 s35 h36 → Go cX9_advance 1 RX9 none 8 G (QV G Q) 254 [] [.int s35, .ref (gAd G 3)] h36 := by
              intro s35 h36 hw
              subst eJ254
              refine g_putI dX9_advance_254 fl_X9_20 sh3 rfl rfl pf_9_3 ?_
              refine g_heap (fun h37 eh37 => ?_)
              have hw := hw h37 eh37
              refine g_goto 309 dX9_advance_257 rfl ?_
              exact g_vret dX9_advance_309 hw
            refine g_icmp_le 253 dX9_advance_246 rfl (fun hc => ?_) (fun hc => ?_)
            · have hw := hw.1 hc
              refine g_iconst (v := 3) dX9_advance_253 (by decide) ?_
              refine g_lv [] rfl ?_
              exact hJ254 _ _ hw
            · have hw := hw.2 hc
              refine g_iconst (v := 1) dX9_advance_249 (by decide) ?_
              refine g_goto 254 dX9_advance_250 rfl ?_
              refine g_lv [] rfl ?_
              exact hJ254 _ _ hw
      · have hw := hw.2 hc
        refine g_aload_n dX9_advance_102 rfl rfl ?_
        refine g_iconst (v := 2) dX9_advance_103 (by decide) ?_
        refine g_putI dX9_advance_104 fl_X9_20 sh3 rfl rfl pf_9_3 ?_
        refine g_heap (fun h38 eh38 => ?_)
        have hw := hw h38 eh38
        obtain ⟨n43, hw⟩ := hw
        refine gl_Tokens_advance_L107   _ _ hw
    · have hw := hw.2 hc
      refine g_aload_n dX9_advance_79 rfl rfl ?_
      refine g_iconst (v := 0) dX9_advance_80 (by decide) ?_
      refine g_putI dX9_advance_81 fl_X9_20 sh3 rfl rfl pf_9_3 ?_
      refine g_heap (fun h44 eh44 => ?_)
      have hw := hw h44 eh44
      refine g_goto 309 dX9_advance_84 rfl ?_
      exact g_vret dX9_advance_309 hw
theorem dX9_begin_0 : decode cX9_begin 0 = .ok (.aload_n 0, 1) := by decide +kernel
theorem dX9_begin_1 : decode cX9_begin 1 = .ok (.aload_n 1, 1) := by decide +kernel
theorem dX9_begin_2 : decode cX9_begin 2 = .ok (.putfield 7, 3) := by decide +kernel
theorem dX9_begin_5 : decode cX9_begin 5 = .ok (.aload_n 0, 1) := by decide +kernel
theorem dX9_begin_6 : decode cX9_begin 6 = .ok (.iconst 0, 1) := by decide +kernel
theorem dX9_begin_7 : decode cX9_begin 7 = .ok (.iload_n 2, 1) := by decide +kernel
theorem dX9_begin_8 : decode cX9_begin 8 = .ok (.aload_n 1, 1) := by decide +kernel
theorem dX9_begin_9 : decode cX9_begin 9 = .ok (.arraylength, 1) := by decide +kernel
theorem dX9_begin_10 : decode cX9_begin 10 = .ok (.invokestatic 29, 3) := by decide +kernel
theorem dX9_begin_13 : decode cX9_begin 13 = .ok (.invokestatic 35, 3) := by decide +kernel
theorem dX9_begin_16 : decode cX9_begin 16 = .ok (.putfield 13, 3) := by decide +kernel
theorem dX9_begin_19 : decode cX9_begin 19 = .ok (.aload_n 0, 1) := by decide +kernel
theorem dX9_begin_20 : decode cX9_begin 20 = .ok (.iconst 0, 1) := by decide +kernel
theorem dX9_begin_21 : decode cX9_begin 21 = .ok (.putfield 17, 3) := by decide +kernel
theorem dX9_begin_24 : decode cX9_begin 24 = .ok (.aload_n 0, 1) := by decide +kernel
theorem dX9_begin_25 : decode cX9_begin 25 = .ok (.invokevirtual 38, 3) := by decide +kernel
theorem dX9_begin_28 : decode cX9_begin 28 = .ok (.return_, 1) := by decide +kernel
theorem pf_9_0 : parseFieldDescriptor (uD 9 0) = some (.array .byte) := by decide +kernel
theorem ml_X9_35 : Cond.methodLink RX9 35 yJ9_max_7cf53 ∈ Wd := mW 451 (by decide +kernel) rfl
theorem pf_9_1 : parseFieldDescriptor (uD 9 1) = some .int := by decide +kernel
theorem ml_X9_38 : Cond.methodLink RX9 38 yX9_advance ∈ Wd := mW 454 (by decide +kernel) rfl
theorem mk_X9_advance : MokV yX9_advance cX9_advance 1 none 0 := ⟨⟨mW 3 (by decide +kernel) rfl, mW 457 (by decide +kernel) rfl, ⟨by decide, by decide, by decide +kernel⟩, by decide⟩, mW 455 (by decide +kernel) rfl, mW 456 (by decide +kernel) rfl⟩
def Tokens_begin (x2 : Int32) (h : Hp) (Q : Hp → Prop) : Prop := Mu 0 = (3, 0) ∧ ∀ h1 : Hp, h1 = sR h 0 (some 1) → J9_min_7cf53 x2 900 h1 (fun r2 h3 => J9_max_7cf53 0 r2 h3 (fun r4 h5 => ∀ h6 : Hp, h6 = sI h5 3 1 r4 → ∀ h7 : Hp, h7 = sI h6 3 2 0 → Tokens_advance  h7 (fun h8 => Q h8)))
set_option maxHeartbeats 4000000 in
set_option maxRecDepth 20000 in
theorem c_Tokens_begin {G : Gx}  {x2 : Int32} {h : Hp} {Q : Hp → Prop} (hw : Tokens_begin x2 h Q) : Ct yX9_begin cX9_begin 3 none 9 G [.ref (gAd G 3), .ref (gAd G 1), .int x2] h (QV G Q) := by
  refine ct_go [(0, .ref (gAd G 3)), (1, .ref (gAd G 1)), (2, .int x2)] (plainFor_of_name (by decide)) rfl (Nat.le_of_ble_eq_true rfl) rfl ?_
  refine g_aload_n dX9_begin_0 rfl rfl ?_
  refine g_aload_n dX9_begin_1 rfl rfl ?_
  refine g_putM dX9_begin_2 fl_X9_7 sh3 rfl hw.1 rfl pf_9_0 (fun _ => rfl) (fun _ => rfl) ?_
  have hw := hw.2
  refine g_heap (fun h1 eh1 => ?_)
  have hw := hw h1 eh1
  refine g_aload_n dX9_begin_5 rfl rfl ?_
  refine g_iconst (v := 0) dX9_begin_6 (by decide) ?_
  refine g_iload_n dX9_begin_7 rfl rfl ?_
  refine g_aload_n dX9_begin_8 rfl rfl ?_
  refine g_alen dX9_begin_9 ia1 (by decide) al1 (v := 900) (by decide) ?_
  refine g_callSI [.int x2, .int 900] dX9_begin_10 ml_X9_29 mk_J9_min_7cf53 rfl (Nat.le_of_ble_eq_true rfl) (Nat.le_of_ble_eq_true rfl) rfl (c_J9_min_7cf53 hw) (fun r2 h3 hw => ?_)
  refine g_callSI [.int 0, .int r2] dX9_begin_13 ml_X9_35 mk_J9_max_7cf53 rfl (Nat.le_of_ble_eq_true rfl) (Nat.le_of_ble_eq_true rfl) rfl (c_J9_max_7cf53 hw) (fun r4 h5 hw => ?_)
  refine g_putI dX9_begin_16 fl_X9_13 sh3 rfl rfl pf_9_1 ?_
  refine g_heap (fun h6 eh6 => ?_)
  have hw := hw h6 eh6
  refine g_aload_n dX9_begin_19 rfl rfl ?_
  refine g_iconst (v := 0) dX9_begin_20 (by decide) ?_
  refine g_putI dX9_begin_21 fl_X9_17 sh3 rfl rfl pf_9_2 ?_
  refine g_heap (fun h7 eh7 => ?_)
  have hw := hw h7 eh7
  refine g_aload_n dX9_begin_24 rfl rfl ?_
  refine g_callVV [] (ci := 9) dX9_begin_25 ml_X9_38 mk_X9_advance rfl rfl sh3 (Nat.le_of_ble_eq_true rfl) (Nat.le_of_ble_eq_true rfl) rfl (c_Tokens_advance hw) (fun h8 hw => ?_)
  exact g_vret dX9_begin_28 hw
theorem dJ3_checkIndex_8e157_0 : decode cJ3_checkIndex_8e157 0 = .ok (.iload_n 0, 1) := by decide +kernel
theorem dJ3_checkIndex_8e157_1 : decode cJ3_checkIndex_8e157 1 = .ok (.ifCond .lt 8, 3) := by decide +kernel
theorem dJ3_checkIndex_8e157_4 : decode cJ3_checkIndex_8e157 4 = .ok (.iload_n 0, 1) := by decide +kernel
theorem dJ3_checkIndex_8e157_5 : decode cJ3_checkIndex_8e157 5 = .ok (.iload_n 1, 1) := by decide +kernel
theorem dJ3_checkIndex_8e157_6 : decode cJ3_checkIndex_8e157 6 = .ok (.if_icmp .lt 10, 3) := by decide +kernel
theorem dJ3_checkIndex_8e157_9 : decode cJ3_checkIndex_8e157 9 = .ok (.aload_n 2, 1) := by decide +kernel
theorem dJ3_checkIndex_8e157_10 : decode cJ3_checkIndex_8e157 10 = .ok (.iload_n 0, 1) := by decide +kernel
theorem dJ3_checkIndex_8e157_11 : decode cJ3_checkIndex_8e157 11 = .ok (.iload_n 1, 1) := by decide +kernel
theorem dJ3_checkIndex_8e157_12 : decode cJ3_checkIndex_8e157 12 = .ok (.invokestatic 95, 3) := by decide +kernel
theorem dJ3_checkIndex_8e157_15 : decode cJ3_checkIndex_8e157 15 = .ok (.athrow, 1) := by decide +kernel
theorem dJ3_checkIndex_8e157_16 : decode cJ3_checkIndex_8e157 16 = .ok (.iload_n 0, 1) := by decide +kernel
theorem dJ3_checkIndex_8e157_17 : decode cJ3_checkIndex_8e157 17 = .ok (.ireturn, 1) := by decide +kernel
def J3_checkIndex_8e157_n (x0 : Int32) (x1 : Int32) (h : Hp) (Q : Int32 → Hp → Prop) : Prop := ∀ J9 : Hp → Prop, J9 = (fun h1 => False) → (x0 < 0 → J9 h) ∧ (¬ x0 < 0 → (x0 < x1 → Q x0 h) ∧ (¬ x0 < x1 → J9 h))
set_option maxHeartbeats 4000000 in
set_option maxRecDepth 20000 in
theorem c_J3_checkIndex_8e157_n {G : Gx}  {x0 : Int32} {x1 : Int32} {h : Hp} {Q : Int32 → Hp → Prop} (hw : J3_checkIndex_8e157_n x0 x1 h Q) : Ct yJ3_checkIndex_8e157 cJ3_checkIndex_8e157 3 (some .int) 1 G [.int x0, .int x1, .null] h (QI G Q) := by
  refine ct_go [(0, .int x0), (1, .int x1), (2, .null)] (plainFor_of_name (by decide)) rfl (Nat.le_of_ble_eq_true rfl) rfl ?_
  refine g_iload_n dJ3_checkIndex_8e157_0 rfl rfl ?_
  refine jn_el hw (fun J9 eJ9 hw => ?_)
  have hJ9 : ∀ (h1 : Hp), J9 h1 → Go cJ3_checkIndex_8e157 3 RJ3 (some .int) 1 G (QI G Q) 9 [(0, .int x0), (1, .int x1), (2, .null)] [] h1 := by
    intro h1 hw
    subst eJ9
    exact False.elim hw
  refine g_if_lt 9 dJ3_checkIndex_8e157_1 rfl (fun hc => ?_) (fun hc => ?_)
  · have hw := hw.1 hc
    exact hJ9 _ hw
  · have hw := hw.2 hc
    refine g_iload_n dJ3_checkIndex_8e157_4 rfl rfl ?_
    refine g_iload_n dJ3_checkIndex_8e157_5 rfl rfl ?_
    refine g_icmp_lt 16 dJ3_checkIndex_8e157_6 rfl (fun hc => ?_) (fun hc => ?_)
    · have hw := hw.1 hc
      refine g_iload_n dJ3_checkIndex_8e157_16 rfl rfl ?_
      exact g_iret dJ3_checkIndex_8e157_17 hw
    · have hw := hw.2 hc
      exact hJ9 _ hw
def J3_checkIndex_8e157_r (x0 : Int32) (x1 : Int32) (h : Hp) (Q : Int32 → Hp → Prop) : Prop := ∀ J9 : Hp → Prop, J9 = (fun h1 => False) → (x0 < 0 → J9 h) ∧ (¬ x0 < 0 → (x0 < x1 → Q x0 h) ∧ (¬ x0 < x1 → J9 h))
set_option maxHeartbeats 4000000 in
set_option maxRecDepth 20000 in
theorem c_J3_checkIndex_8e157_r {G : Gx}  {x0 : Int32} {x1 : Int32} {o2 : Nat} {h : Hp} {Q : Int32 → Hp → Prop} (hw : J3_checkIndex_8e157_r x0 x1 h Q) : Ct yJ3_checkIndex_8e157 cJ3_checkIndex_8e157 3 (some .int) 1 G [.int x0, .int x1, .ref o2] h (QI G Q) := by
  refine ct_go [(0, .int x0), (1, .int x1), (2, .ref o2)] (plainFor_of_name (by decide)) rfl (Nat.le_of_ble_eq_true rfl) rfl ?_
  refine g_iload_n dJ3_checkIndex_8e157_0 rfl rfl ?_
  refine jn_el hw (fun J9 eJ9 hw => ?_)
  have hJ9 : ∀ (h1 : Hp), J9 h1 → Go cJ3_checkIndex_8e157 3 RJ3 (some .int) 1 G (QI G Q) 9 [(0, .int x0), (1, .int x1), (2, .ref o2)] [] h1 := by
    intro h1 hw
    subst eJ9
    exact False.elim hw
  refine g_if_lt 9 dJ3_checkIndex_8e157_1 rfl (fun hc => ?_) (fun hc => ?_)
  · have hw := hw.1 hc
    exact hJ9 _ hw
  · have hw := hw.2 hc
    refine g_iload_n dJ3_checkIndex_8e157_4 rfl rfl ?_
    refine g_iload_n dJ3_checkIndex_8e157_5 rfl rfl ?_
    refine g_icmp_lt 16 dJ3_checkIndex_8e157_6 rfl (fun hc => ?_) (fun hc => ?_)
    · have hw := hw.1 hc
      refine g_iload_n dJ3_checkIndex_8e157_16 rfl rfl ?_
      exact g_iret dJ3_checkIndex_8e157_17 hw
    · have hw := hw.2 hc
      exact hJ9 _ hw
theorem dJ0_checkIndex_df160_0 : decode cJ0_checkIndex_df160 0 = .ok (.iload_n 0, 1) := by decide +kernel
theorem dJ0_checkIndex_df160_1 : decode cJ0_checkIndex_df160 1 = .ok (.iload_n 1, 1) := by decide +kernel
theorem dJ0_checkIndex_df160_2 : decode cJ0_checkIndex_df160 2 = .ok (.getstatic 1053, 3) := by decide +kernel
theorem dJ0_checkIndex_df160_5 : decode cJ0_checkIndex_df160 5 = .ok (.invokestatic 1059, 3) := by decide +kernel
theorem dJ0_checkIndex_df160_8 : decode cJ0_checkIndex_df160 8 = .ok (.pop, 1) := by decide +kernel
theorem dJ0_checkIndex_df160_9 : decode cJ0_checkIndex_df160 9 = .ok (.return_, 1) := by decide +kernel
theorem fj_J0_1053 : Cond.fieldLink RJ0 1053 "jdk/internal/util/Preconditions" "SIOOBE_FORMATTER" "Ljava/util/function/BiFunction;" ∈ Wd := mW 516 (by decide +kernel) rfl
theorem ml_J0_1059 : Cond.methodLink RJ0 1059 yJ3_checkIndex_8e157 ∈ Wd := mW 567 (by decide +kernel) rfl
theorem mk_J3_checkIndex_8e157 : MokS yJ3_checkIndex_8e157 cJ3_checkIndex_8e157 3 (some .int) 3 := ⟨⟨mW 19 (by decide +kernel) rfl, mW 569 (by decide +kernel) rfl, ⟨by decide, by decide, by decide +kernel⟩, by decide⟩, mW 568 (by decide +kernel) rfl⟩
def J0_checkIndex_df160 (x0 : Int32) (x1 : Int32) (h : Hp) (Q : Hp → Prop) : Prop := (J3_checkIndex_8e157_n x0 x1 h (fun r2 h3 => Q h3)) ∧ (J3_checkIndex_8e157_r x0 x1 h (fun r4 h5 => Q h5))
set_option maxHeartbeats 4000000 in
set_option maxRecDepth 20000 in
theorem c_J0_checkIndex_df160 {G : Gx}  {x0 : Int32} {x1 : Int32} {h : Hp} {Q : Hp → Prop} (hw : J0_checkIndex_df160 x0 x1 h Q) : Ct yJ0_checkIndex_df160 cJ0_checkIndex_df160 2 none 2 G [.int x0, .int x1] h (QV G Q) := by
  refine ct_go [(0, .int x0), (1, .int x1)] (plainFor_of_name (by decide)) rfl (Nat.le_of_ble_eq_true rfl) rfl ?_
  refine g_iload_n dJ0_checkIndex_df160_0 rfl rfl ?_
  refine g_iload_n dJ0_checkIndex_df160_1 rfl rfl ?_
  refine g_getsV dJ0_checkIndex_df160_2 fj_J0_1053 ?_ (fun t1 => ?_)
  · have hw := hw.1
    refine g_callSI [.int x0, .int x1, .null] dJ0_checkIndex_df160_5 ml_J0_1059 mk_J3_checkIndex_8e157 rfl (Nat.le_of_ble_eq_true rfl) (Nat.le_of_ble_eq_true rfl) rfl (c_J3_checkIndex_8e157_n hw) (fun r2 h3 hw => ?_)
    refine g_pop dJ0_checkIndex_df160_8 rfl ?_
    exact g_vret dJ0_checkIndex_df160_9 hw
  · have hw := hw.2
    refine g_callSI [.int x0, .int x1, .ref t1] dJ0_checkIndex_df160_5 ml_J0_1059 mk_J3_checkIndex_8e157 rfl (Nat.le_of_ble_eq_true rfl) (Nat.le_of_ble_eq_true rfl) rfl (c_J3_checkIndex_8e157_r hw) (fun r4 h5 hw => ?_)
    refine g_pop dJ0_checkIndex_df160_8 rfl ?_
    exact g_vret dJ0_checkIndex_df160_9 hw
theorem dJ1_charAt_3b067_0 : decode cJ1_charAt_3b067 0 = .ok (.iload_n 1, 1) := by decide +kernel
theorem dJ1_charAt_3b067_1 : decode cJ1_charAt_3b067 1 = .ok (.aload_n 0, 1) := by decide +kernel
theorem dJ1_charAt_3b067_2 : decode cJ1_charAt_3b067 2 = .ok (.arraylength, 1) := by decide +kernel
theorem dJ1_charAt_3b067_3 : decode cJ1_charAt_3b067 3 = .ok (.invokestatic 9, 3) := by decide +kernel
theorem dJ1_charAt_3b067_6 : decode cJ1_charAt_3b067 6 = .ok (.aload_n 0, 1) := by decide +kernel
theorem dJ1_charAt_3b067_7 : decode cJ1_charAt_3b067 7 = .ok (.iload_n 1, 1) := by decide +kernel
theorem dJ1_charAt_3b067_8 : decode cJ1_charAt_3b067 8 = .ok (.baload, 1) := by decide +kernel
theorem dJ1_charAt_3b067_9 : decode cJ1_charAt_3b067 9 = .ok (.sipush 255, 3) := by decide +kernel
theorem dJ1_charAt_3b067_12 : decode cJ1_charAt_3b067 12 = .ok (.iand, 1) := by decide +kernel
theorem dJ1_charAt_3b067_13 : decode cJ1_charAt_3b067 13 = .ok (.i2c, 1) := by decide +kernel
theorem dJ1_charAt_3b067_14 : decode cJ1_charAt_3b067 14 = .ok (.ireturn, 1) := by decide +kernel
theorem ml_J1_9 : Cond.methodLink RJ1 9 yJ0_checkIndex_df160 ∈ Wd := mW 564 (by decide +kernel) rfl
theorem mk_J0_checkIndex_df160 : MokS yJ0_checkIndex_df160 cJ0_checkIndex_df160 2 none 2 := ⟨⟨mW 16 (by decide +kernel) rfl, mW 566 (by decide +kernel) rfl, ⟨by decide, by decide, by decide +kernel⟩, by decide⟩, mW 565 (by decide +kernel) rfl⟩
def J1_charAt_3b067 (o0 : Nat) (x1 : Int32) (h : Hp) (Q : Int32 → Hp → Prop) : Prop := J0_checkIndex_df160 x1 (Int32.ofNat (slen o0)) h (fun h1 => vp_in x1 (slen o0) ∧ Q (((((schr o0 (x1).toNatClampNeg) &&& 255)).toUInt32 % 65536).toInt32) h1)
set_option maxHeartbeats 4000000 in
set_option maxRecDepth 20000 in
theorem c_J1_charAt_3b067 {G : Gx} {o0 : Nat} (ho0 : o0 < NS) {x1 : Int32} {h : Hp} {Q : Int32 → Hp → Prop} (hw : J1_charAt_3b067 o0 x1 h Q) : Ct yJ1_charAt_3b067 cJ1_charAt_3b067 2 (some .char) 3 G [.ref (gSv G o0), .int x1] h (QI G Q) := by
  refine ct_go [(0, .ref (gSv G o0)), (1, .int x1)] (plainFor_of_name (by decide)) rfl (Nat.le_of_ble_eq_true rfl) rfl ?_
  refine g_iload_n dJ1_charAt_3b067_0 rfl rfl ?_
  refine g_aload_n dJ1_charAt_3b067_1 rfl rfl ?_
  refine g_strL dJ1_charAt_3b067_2 ho0 rfl ?_
  refine g_callSV [.int x1, .int (Int32.ofNat (slen o0))] dJ1_charAt_3b067_3 ml_J1_9 mk_J0_checkIndex_df160 rfl (Nat.le_of_ble_eq_true rfl) (Nat.le_of_ble_eq_true rfl) rfl (c_J0_checkIndex_df160 hw) (fun h1 hw => ?_)
  refine g_aload_n dJ1_charAt_3b067_6 rfl rfl ?_
  refine g_iload_n dJ1_charAt_3b067_7 rfl rfl ?_
  refine g_strB dJ1_charAt_3b067_8 ho0 hw.1 ?_
  have hw := hw.2
  refine g_sipush (v := 255) dJ1_charAt_3b067_9 (by decide) ?_
  refine g_iand dJ1_charAt_3b067_12 ?_
  refine g_i2c dJ1_charAt_3b067_13 ?_
  exact g_zret dJ1_charAt_3b067_14 (pk_nc _) hw
theorem dJ0_charAt_5068e_0 : decode cJ0_charAt_5068e 0 = .ok (.aload_n 0, 1) := by decide +kernel
theorem dJ0_charAt_5068e_1 : decode cJ0_charAt_5068e 1 = .ok (.invokevirtual 492, 3) := by decide +kernel
theorem dJ0_charAt_5068e_4 : decode cJ0_charAt_5068e 4 = .ok (.ifCond .eq 12, 3) := by decide +kernel
theorem dJ0_charAt_5068e_7 : decode cJ0_charAt_5068e 7 = .ok (.aload_n 0, 1) := by decide +kernel
theorem dJ0_charAt_5068e_8 : decode cJ0_charAt_5068e 8 = .ok (.getfield 9, 3) := by decide +kernel
theorem dJ0_charAt_5068e_11 : decode cJ0_charAt_5068e 11 = .ok (.iload_n 1, 1) := by decide +kernel
theorem dJ0_charAt_5068e_12 : decode cJ0_charAt_5068e 12 = .ok (.invokestatic 495, 3) := by decide +kernel
theorem dJ0_charAt_5068e_15 : decode cJ0_charAt_5068e 15 = .ok (.ireturn, 1) := by decide +kernel
theorem dJ0_charAt_5068e_16 : decode cJ0_charAt_5068e 16 = .ok (.aload_n 0, 1) := by decide +kernel
theorem dJ0_charAt_5068e_17 : decode cJ0_charAt_5068e 17 = .ok (.getfield 9, 3) := by decide +kernel
theorem dJ0_charAt_5068e_20 : decode cJ0_charAt_5068e 20 = .ok (.iload_n 1, 1) := by decide +kernel
theorem dJ0_charAt_5068e_21 : decode cJ0_charAt_5068e 21 = .ok (.invokestatic 498, 3) := by decide +kernel
theorem dJ0_charAt_5068e_24 : decode cJ0_charAt_5068e 24 = .ok (.ireturn, 1) := by decide +kernel
theorem ml_J0_495 : Cond.methodLink RJ0 495 yJ1_charAt_3b067 ∈ Wd := mW 561 (by decide +kernel) rfl
theorem mk_J1_charAt_3b067 : MokS yJ1_charAt_3b067 cJ1_charAt_3b067 2 (some .char) 2 := ⟨⟨mW 17 (by decide +kernel) rfl, mW 563 (by decide +kernel) rfl, ⟨by decide, by decide, by decide +kernel⟩, by decide⟩, mW 562 (by decide +kernel) rfl⟩
def J0_charAt_5068e (o0 : Nat) (x1 : Int32) (h : Hp) (Q : Int32 → Hp → Prop) : Prop := J1_charAt_3b067 o0 x1 h (fun r3 h4 => narrow .char (.int r3) = .int r3 ∧ Q r3 h4)
set_option maxHeartbeats 4000000 in
set_option maxRecDepth 20000 in
theorem c_J0_charAt_5068e {G : Gx} {o0 : Nat} (ho0 : o0 < NS) {x1 : Int32} {h : Hp} {Q : Int32 → Hp → Prop} (hw : J0_charAt_5068e o0 x1 h Q) : Ct yJ0_charAt_5068e cJ0_charAt_5068e 2 (some .char) 5 G [.ref (gSa G o0), .int x1] h (QI G Q) := by
  refine ct_go [(0, .ref (gSa G o0)), (1, .int x1)] (plainFor_of_name (by decide)) rfl (Nat.le_of_ble_eq_true rfl) rfl ?_
  refine g_aload_n dJ0_charAt_5068e_0 rfl rfl ?_
  refine g_callTI [] dJ0_charAt_5068e_1 ml_J0_492 mk_J0_isLatin1_aae02 rfl rfl ho0 (Nat.le_of_ble_eq_true rfl) (Nat.le_of_ble_eq_true rfl) rfl (k_J0_isLatin1_aae02 ho0) (fun r h9 hq => ?_)
  obtain ⟨rfl, rfl⟩ := hq
  refine g_if_eq 16 dJ0_charAt_5068e_4 rfl (fun hc => absurd hc (by decide)) (fun _ => ?_)
  refine g_aload_n dJ0_charAt_5068e_7 rfl rfl ?_
  refine g_strV dJ0_charAt_5068e_8 ho0 fj_J0_9 ?_
  refine g_iload_n dJ0_charAt_5068e_11 rfl rfl ?_
  refine g_callSI [.ref (gSv G o0), .int x1] dJ0_charAt_5068e_12 ml_J0_495 mk_J1_charAt_3b067 rfl (Nat.le_of_ble_eq_true rfl) (Nat.le_of_ble_eq_true rfl) rfl (c_J1_charAt_3b067 ho0 hw) (fun r3 h4 hw => ?_)
  exact g_zret dJ0_charAt_5068e_15 hw.1 hw.2
theorem dX9_is_0 : decode cX9_is 0 = .ok (.aload_n 0, 1) := by decide +kernel
theorem dX9_is_1 : decode cX9_is 1 = .ok (.getfield 20, 3) := by decide +kernel
theorem dX9_is_4 : decode cX9_is 4 = .ok (.iconst 2, 1) := by decide +kernel
theorem dX9_is_5 : decode cX9_is 5 = .ok (.if_icmp .eq 11, 3) := by decide +kernel
theorem dX9_is_8 : decode cX9_is 8 = .ok (.aload_n 0, 1) := by decide +kernel
theorem dX9_is_9 : decode cX9_is 9 = .ok (.getfield 20, 3) := by decide +kernel
theorem dX9_is_12 : decode cX9_is 12 = .ok (.iconst 4, 1) := by decide +kernel
theorem dX9_is_13 : decode cX9_is 13 = .ok (.if_icmp .ne 19, 3) := by decide +kernel
theorem dX9_is_16 : decode cX9_is 16 = .ok (.aload_n 0, 1) := by decide +kernel
theorem dX9_is_17 : decode cX9_is 17 = .ok (.getfield 17, 3) := by decide +kernel
theorem dX9_is_20 : decode cX9_is 20 = .ok (.aload_n 0, 1) := by decide +kernel
theorem dX9_is_21 : decode cX9_is 21 = .ok (.getfield 23, 3) := by decide +kernel
theorem dX9_is_24 : decode cX9_is 24 = .ok (.isub, 1) := by decide +kernel
theorem dX9_is_25 : decode cX9_is 25 = .ok (.aload_n 1, 1) := by decide +kernel
theorem dX9_is_26 : decode cX9_is 26 = .ok (.invokevirtual 56, 3) := by decide +kernel
theorem dX9_is_29 : decode cX9_is 29 = .ok (.if_icmp .eq 5, 3) := by decide +kernel
theorem dX9_is_32 : decode cX9_is 32 = .ok (.iconst 0, 1) := by decide +kernel
theorem dX9_is_33 : decode cX9_is 33 = .ok (.ireturn, 1) := by decide +kernel
theorem dX9_is_34 : decode cX9_is 34 = .ok (.iconst 0, 1) := by decide +kernel
theorem dX9_is_35 : decode cX9_is 35 = .ok (.istore_n 2, 1) := by decide +kernel
theorem dX9_is_36 : decode cX9_is 36 = .ok (.iload_n 2, 1) := by decide +kernel
theorem dX9_is_37 : decode cX9_is 37 = .ok (.aload_n 1, 1) := by decide +kernel
theorem dX9_is_38 : decode cX9_is 38 = .ok (.invokevirtual 56, 3) := by decide +kernel
theorem dX9_is_41 : decode cX9_is 41 = .ok (.if_icmp .ge 43, 3) := by decide +kernel
theorem dX9_is_44 : decode cX9_is 44 = .ok (.aload_n 0, 1) := by decide +kernel
theorem dX9_is_45 : decode cX9_is 45 = .ok (.getfield 23, 3) := by decide +kernel
theorem dX9_is_48 : decode cX9_is 48 = .ok (.iload_n 2, 1) := by decide +kernel
theorem dX9_is_49 : decode cX9_is 49 = .ok (.iadd, 1) := by decide +kernel
theorem dX9_is_50 : decode cX9_is 50 = .ok (.aload_n 0, 1) := by decide +kernel
theorem dX9_is_51 : decode cX9_is 51 = .ok (.getfield 13, 3) := by decide +kernel
theorem dX9_is_54 : decode cX9_is 54 = .ok (.if_icmp .ge 30, 3) := by decide +kernel
theorem dX9_is_57 : decode cX9_is 57 = .ok (.aload_n 0, 1) := by decide +kernel
theorem dX9_is_58 : decode cX9_is 58 = .ok (.getfield 7, 3) := by decide +kernel
theorem dX9_is_61 : decode cX9_is 61 = .ok (.aload_n 0, 1) := by decide +kernel
theorem dX9_is_62 : decode cX9_is 62 = .ok (.getfield 23, 3) := by decide +kernel
theorem dX9_is_65 : decode cX9_is 65 = .ok (.iload_n 2, 1) := by decide +kernel
theorem dX9_is_66 : decode cX9_is 66 = .ok (.iadd, 1) := by decide +kernel
theorem dX9_is_67 : decode cX9_is 67 = .ok (.baload, 1) := by decide +kernel
theorem dX9_is_68 : decode cX9_is 68 = .ok (.aload_n 1, 1) := by decide +kernel
theorem dX9_is_69 : decode cX9_is 69 = .ok (.iload_n 2, 1) := by decide +kernel
theorem dX9_is_70 : decode cX9_is 70 = .ok (.invokevirtual 60, 3) := by decide +kernel
theorem dX9_is_73 : decode cX9_is 73 = .ok (.if_icmp .eq 5, 3) := by decide +kernel
theorem dX9_is_76 : decode cX9_is 76 = .ok (.iconst 0, 1) := by decide +kernel
theorem dX9_is_77 : decode cX9_is 77 = .ok (.ireturn, 1) := by decide +kernel
theorem dX9_is_78 : decode cX9_is 78 = .ok (.iinc 2 1, 3) := by decide +kernel
theorem dX9_is_81 : decode cX9_is 81 = .ok (.goto (-45), 3) := by decide +kernel
theorem dX9_is_84 : decode cX9_is 84 = .ok (.iconst 1, 1) := by decide +kernel
theorem dX9_is_85 : decode cX9_is 85 = .ok (.ireturn, 1) := by decide +kernel
theorem ml_X9_56 : Cond.methodLink RX9 56 yJ0_length_8abf5 ∈ Wd := mW 556 (by decide +kernel) rfl
theorem ml_X9_60 : Cond.methodLink RX9 60 yJ0_charAt_5068e ∈ Wd := mW 557 (by decide +kernel) rfl
theorem mk_J0_charAt_5068e : MokV yJ0_charAt_5068e cJ0_charAt_5068e 2 (some .char) 1 := ⟨⟨mW 16 (by decide +kernel) rfl, mW 560 (by decide +kernel) rfl, ⟨by decide, by decide, by decide +kernel⟩, by decide⟩, mW 558 (by decide +kernel) rfl, mW 559 (by decide +kernel) rfl⟩
def Tokens_is_L36 (o1 : Nat) (Q : Int32 → Hp → Prop) : Nat → Int32 → Hp → Prop
  | 0, _, _ => False
  | n + 1, x2, h => J0_length_8abf5 o1 h (fun r4 h5 => (r4 ≤ x2 → Q 1 h5) ∧ (¬ r4 ≤ x2 → ((gI h5 3 1) ≤ ((gI h5 3 4) + x2) → Q 1 h5) ∧ (¬ (gI h5 3 1) ≤ ((gI h5 3 4) + x2) → gR h5 0 = some 1 ∧ vp_in ((gI h5 3 4) + x2) 900 ∧ J0_charAt_5068e o1 x2 h5 (fun r7 h8 => ((gI h5 1 (((gI h5 3 4) + x2)).toNatClampNeg) = r7 → ∀ v9 : Int32, v9 = (x2 + 1) → Tokens_is_L36 o1 Q n v9 h8) ∧ (¬ (gI h5 1 (((gI h5 3 4) + x2)).toNatClampNeg) = r7 → Q 0 h8)))))
set_option maxHeartbeats 4000000 in
set_option maxRecDepth 20000 in
theorem gl_Tokens_is_L36 {G : Gx} {o1 : Nat} (ho1 : o1 < NS) {Q : Int32 → Hp → Prop} : ∀ (n : Nat) (x2 : Int32) (h : Hp), Tokens_is_L36 o1 Q n x2 h → Go cX9_is 3 RX9 (some .boolean) 6 G (QI G Q) 36 [(0, .ref (gAd G 3)), (1, .ref (gSa G o1)), (2, .int x2)] [] h := by
  intro n
  induction n with
  | zero => intro _ h hw; exact False.elim hw
  | succ n ih =>
    intro x2 h hw
    refine g_iload_n dX9_is_36 rfl rfl ?_
    refine g_aload_n dX9_is_37 rfl rfl ?_
    refine g_callTI [] dX9_is_38 ml_X9_56 mk_J0_length_8abf5 rfl rfl ho1 (Nat.le_of_ble_eq_true rfl) (Nat.le_of_ble_eq_true rfl) rfl (c_J0_length_8abf5 ho1 hw) (fun r4 h5 hw => ?_)
    refine g_icmp_ge 84 dX9_is_41 rfl (fun hc => ?_) (fun hc => ?_)
    · have hw := hw.1 hc
      refine g_iconst (v := 1) dX9_is_84 (by decide) ?_
      exact g_zret dX9_is_85 rfl hw
    · have hw := hw.2 hc
      refine g_aload_n dX9_is_44 rfl rfl ?_
      refine g_getI dX9_is_45 fl_X9_23 sh3 rfl ?_
      refine g_iload_n dX9_is_48 rfl rfl ?_
      refine g_iadd dX9_is_49 ?_
      refine g_aload_n dX9_is_50 rfl rfl ?_
      refine g_getI dX9_is_51 fl_X9_13 sh3 rfl ?_
      refine g_icmp_ge 84 dX9_is_54 rfl (fun hc => ?_) (fun hc => ?_)
      · have hw := hw.1 hc
        refine g_iconst (v := 1) dX9_is_84 (by decide) ?_
        exact g_zret dX9_is_85 rfl hw
      · have hw := hw.2 hc
        refine g_aload_n dX9_is_57 rfl rfl ?_
        refine g_getM dX9_is_58 fl_X9_7 sh3 rfl hw.1 ?_
        have hw := hw.2
        refine g_aload_n dX9_is_61 rfl rfl ?_
        refine g_getI dX9_is_62 fl_X9_23 sh3 rfl ?_
        refine g_iload_n dX9_is_65 rfl rfl ?_
        refine g_iadd dX9_is_66 ?_
        refine g_bald dX9_is_67 ia1 al1 hw.1 ?_
        have hw := hw.2
        refine g_aload_n dX9_is_68 rfl rfl ?_
        refine g_iload_n dX9_is_69 rfl rfl ?_
        refine g_callTI [.int x2] dX9_is_70 ml_X9_60 mk_J0_charAt_5068e rfl rfl ho1 (Nat.le_of_ble_eq_true rfl) (Nat.le_of_ble_eq_true rfl) rfl (c_J0_charAt_5068e ho1 hw) (fun r7 h8 hw => ?_)
        refine g_icmp_eq 78 dX9_is_73 rfl (fun hc => ?_) (fun hc => ?_)
        · have hw := hw.1 hc
          obtain ⟨v9, ev9⟩ : ∃ y : Int32, y = (x2 + 1) := ⟨_, rfl⟩
          have hw := hw v9 ev9
          refine g_iinc dX9_is_78 rfl (by rw [ev9]; rfl) (by decide) (lv1 := [(0, .ref (gAd G 3)), (1, .ref (gSa G o1)), (2, .int v9)]) rfl ?_
          refine g_goto 36 dX9_is_81 rfl ?_
          exact ih _ _ hw
        · have hw := hw.2 hc
          refine g_iconst (v := 0) dX9_is_76 (by decide) ?_
          exact g_zret dX9_is_77 rfl hw
def Tokens_is (o1 : Nat) (h : Hp) (Q : Int32 → Hp → Prop) : Prop := ∀ J16 : Hp → Prop, J16 = (fun h1 => J0_length_8abf5 o1 h1 (fun r2 h3 => (((gI h1 3 2) - (gI h1 3 4)) = r2 → ∃ n10, Tokens_is_L36 o1 Q n10 0 h3) ∧ (¬ ((gI h1 3 2) - (gI h1 3 4)) = r2 → Q 0 h3))) → ((gI h 3 3) = 2 → J16 h) ∧ (¬ (gI h 3 3) = 2 → (¬ (gI h 3 3) = 4 → Q 0 h) ∧ ((gI h 3 3) = 4 → J16 h))
set_option maxHeartbeats 4000000 in
set_option maxRecDepth 20000 in
theorem c_Tokens_is {G : Gx} {o1 : Nat} (ho1 : o1 < NS)  {h : Hp} {Q : Int32 → Hp → Prop} (hw : Tokens_is o1 h Q) : Ct yX9_is cX9_is 3 (some .boolean) 6 G [.ref (gAd G 3), .ref (gSa G o1)] h (QI G Q) := by
  refine ct_go [(0, .ref (gAd G 3)), (1, .ref (gSa G o1))] (plainFor_of_name (by decide)) rfl (Nat.le_of_ble_eq_true rfl) rfl ?_
  refine g_aload_n dX9_is_0 rfl rfl ?_
  refine g_getI dX9_is_1 fl_X9_20 sh3 rfl ?_
  refine g_iconst (v := 2) dX9_is_4 (by decide) ?_
  refine jn_el hw (fun J16 eJ16 hw => ?_)
  have hJ16 : ∀ (h1 : Hp), J16 h1 → Go cX9_is 3 RX9 (some .boolean) 6 G (QI G Q) 16 [(0, .ref (gAd G 3)), (1, .ref (gSa G o1))] [] h1 := by
    intro h1 hw
    subst eJ16
    refine g_aload_n dX9_is_16 rfl rfl ?_
    refine g_getI dX9_is_17 fl_X9_17 sh3 rfl ?_
    refine g_aload_n dX9_is_20 rfl rfl ?_
    refine g_getI dX9_is_21 fl_X9_23 sh3 rfl ?_
    refine g_isub dX9_is_24 ?_
    refine g_aload_n dX9_is_25 rfl rfl ?_
    refine g_callTI [] dX9_is_26 ml_X9_56 mk_J0_length_8abf5 rfl rfl ho1 (Nat.le_of_ble_eq_true rfl) (Nat.le_of_ble_eq_true rfl) rfl (c_J0_length_8abf5 ho1 hw) (fun r2 h3 hw => ?_)
    refine g_icmp_eq 34 dX9_is_29 rfl (fun hc => ?_) (fun hc => ?_)
    · have hw := hw.1 hc
      refine g_iconst (v := 0) dX9_is_34 (by decide) ?_
      refine g_istore_n dX9_is_35 rfl (by decide) (lv1 := [(0, .ref (gAd G 3)), (1, .ref (gSa G o1)), (2, .int 0)]) rfl ?_
      obtain ⟨n10, hw⟩ := hw
      refine gl_Tokens_is_L36 ho1  _ _ _ hw
    · have hw := hw.2 hc
      refine g_iconst (v := 0) dX9_is_32 (by decide) ?_
      exact g_zret dX9_is_33 rfl hw
  refine g_icmp_eq 16 dX9_is_5 rfl (fun hc => ?_) (fun hc => ?_)
  · have hw := hw.1 hc
    exact hJ16 _ hw
  · have hw := hw.2 hc
    refine g_aload_n dX9_is_8 rfl rfl ?_
    refine g_getI dX9_is_9 fl_X9_20 sh3 rfl ?_
    refine g_iconst (v := 4) dX9_is_12 (by decide) ?_
    refine g_icmp_ne 32 dX9_is_13 rfl (fun hc => ?_) (fun hc => ?_)
    · have hw := hw.1 hc
      refine g_iconst (v := 0) dX9_is_32 (by decide) ?_
      exact g_zret dX9_is_33 rfl hw
    · have hw := hw.2 hc
      exact hJ16 _ hw
theorem dX9_isBad_0 : decode cX9_isBad 0 = .ok (.aload_n 0, 1) := by decide +kernel
theorem dX9_isBad_1 : decode cX9_isBad 1 = .ok (.getfield 20, 3) := by decide +kernel
theorem dX9_isBad_4 : decode cX9_isBad 4 = .ok (.iconst 1, 1) := by decide +kernel
theorem dX9_isBad_5 : decode cX9_isBad 5 = .ok (.if_icmp .ne 7, 3) := by decide +kernel
theorem dX9_isBad_8 : decode cX9_isBad 8 = .ok (.iconst 1, 1) := by decide +kernel
theorem dX9_isBad_9 : decode cX9_isBad 9 = .ok (.goto 4, 3) := by decide +kernel
theorem dX9_isBad_12 : decode cX9_isBad 12 = .ok (.iconst 0, 1) := by decide +kernel
theorem dX9_isBad_13 : decode cX9_isBad 13 = .ok (.ireturn, 1) := by decide +kernel
def Tokens_isBad  (h : Hp) (Q : Int32 → Hp → Prop) : Prop := (¬ (gI h 3 3) = 1 → Q 0 h) ∧ ((gI h 3 3) = 1 → Q 1 h)
set_option maxHeartbeats 4000000 in
set_option maxRecDepth 20000 in
theorem c_Tokens_isBad {G : Gx}   {h : Hp} {Q : Int32 → Hp → Prop} (hw : Tokens_isBad  h Q) : Ct yX9_isBad cX9_isBad 1 (some .boolean) 1 G [.ref (gAd G 3)] h (QI G Q) := by
  refine ct_go [(0, .ref (gAd G 3))] (plainFor_of_name (by decide)) rfl (Nat.le_of_ble_eq_true rfl) rfl ?_
  refine g_aload_n dX9_isBad_0 rfl rfl ?_
  refine g_getI dX9_isBad_1 fl_X9_20 sh3 rfl ?_
  refine g_iconst (v := 1) dX9_isBad_4 (by decide) ?_
  refine g_icmp_ne 12 dX9_isBad_5 rfl (fun hc => ?_) (fun hc => ?_)
  · have hw := hw.1 hc
    refine g_iconst (v := 0) dX9_isBad_12 (by decide) ?_
    exact g_zret dX9_isBad_13 rfl hw
  · have hw := hw.2 hc
    refine g_iconst (v := 1) dX9_isBad_8 (by decide) ?_
    refine g_goto 13 dX9_isBad_9 rfl ?_
    exact g_zret dX9_isBad_13 rfl hw
theorem dX5_refuse_0 : decode cX5_refuse 0 = .ok (.aload_n 0, 1) := by decide +kernel
theorem dX5_refuse_1 : decode cX5_refuse 1 = .ok (.getfield 60, 3) := by decide +kernel
theorem dX5_refuse_4 : decode cX5_refuse 4 = .ok (.ifCond .ne 33, 3) := by decide +kernel
theorem dX5_refuse_7 : decode cX5_refuse 7 = .ok (.aload_n 0, 1) := by decide +kernel
theorem dX5_refuse_8 : decode cX5_refuse 8 = .ok (.aload_n 0, 1) := by decide +kernel
theorem dX5_refuse_9 : decode cX5_refuse 9 = .ok (.getfield 12, 3) := by decide +kernel
theorem dX5_refuse_12 : decode cX5_refuse 12 = .ok (.invokevirtual 94, 3) := by decide +kernel
theorem dX5_refuse_15 : decode cX5_refuse 15 = .ok (.ifCond .eq 7, 3) := by decide +kernel
theorem dX5_refuse_18 : decode cX5_refuse 18 = .ok (.iconst 1, 1) := by decide +kernel
theorem dX5_refuse_19 : decode cX5_refuse 19 = .ok (.goto 4, 3) := by decide +kernel
theorem dX5_refuse_22 : decode cX5_refuse 22 = .ok (.iload_n 1, 1) := by decide +kernel
theorem dX5_refuse_23 : decode cX5_refuse 23 = .ok (.putfield 60, 3) := by decide +kernel
theorem dX5_refuse_26 : decode cX5_refuse 26 = .ok (.aload_n 0, 1) := by decide +kernel
theorem dX5_refuse_27 : decode cX5_refuse 27 = .ok (.aload_n 0, 1) := by decide +kernel
theorem dX5_refuse_28 : decode cX5_refuse 28 = .ok (.getfield 12, 3) := by decide +kernel
theorem dX5_refuse_31 : decode cX5_refuse 31 = .ok (.getfield 97, 3) := by decide +kernel
theorem dX5_refuse_34 : decode cX5_refuse 34 = .ok (.putfield 63, 3) := by decide +kernel
theorem dX5_refuse_37 : decode cX5_refuse 37 = .ok (.return_, 1) := by decide +kernel
theorem fl_X5_60 : FLk RX5 60 5 13 := ⟨_, rfl, by decide, mW 100 (by decide +kernel) rfl⟩
theorem fl_X5_12 : FLk RX5 12 5 0 := ⟨_, rfl, by decide, mW 86 (by decide +kernel) rfl⟩
theorem ml_X5_94 : Cond.methodLink RX5 94 yX9_isBad ∈ Wd := mW 582 (by decide +kernel) rfl
theorem mk_X9_isBad : MokV yX9_isBad cX9_isBad 1 (some .boolean) 0 := ⟨⟨mW 3 (by decide +kernel) rfl, mW 585 (by decide +kernel) rfl, ⟨by decide, by decide, by decide +kernel⟩, by decide⟩, mW 583 (by decide +kernel) rfl, mW 584 (by decide +kernel) rfl⟩
theorem pf_5_13 : parseFieldDescriptor (uD 5 13) = some .int := by decide +kernel
theorem fl_X5_97 : FLk RX5 97 9 4 := ⟨_, rfl, by decide, mW 48 (by decide +kernel) rfl⟩
theorem fl_X5_63 : FLk RX5 63 5 14 := ⟨_, rfl, by decide, mW 102 (by decide +kernel) rfl⟩
theorem pf_5_14 : parseFieldDescriptor (uD 5 14) = some .int := by decide +kernel
def Reader_refuse (x1 : Int32) (h : Hp) (Q : Hp → Prop) : Prop := (¬ (gI h 2 13) = 0 → Q h) ∧ ((gI h 2 13) = 0 → Tokens_isBad  h (fun r1 h2 => ∀ J23 : Int32 → Hp → Prop, J23 = (fun s3 h4 => ∀ h5 : Hp, h5 = sI h4 2 13 s3 → ∀ h6 : Hp, h6 = sI h5 2 14 (gI h5 3 4) → Q h6) → (r1 = 0 → J23 x1 h2) ∧ (¬ r1 = 0 → J23 1 h2)))
set_option maxHeartbeats 4000000 in
set_option maxRecDepth 20000 in
theorem c_Reader_refuse {G : Gx}  {x1 : Int32} {h : Hp} {Q : Hp → Prop} (hw : Reader_refuse x1 h Q) : Ct yX5_refuse cX5_refuse 2 none 2 G [.ref (gAd G 2), .int x1] h (QV G Q) := by
  refine ct_go [(0, .ref (gAd G 2)), (1, .int x1)] (plainFor_of_name (by decide)) rfl (Nat.le_of_ble_eq_true rfl) rfl ?_
  refine g_aload_n dX5_refuse_0 rfl rfl ?_
  refine g_getI dX5_refuse_1 fl_X5_60 sh2 rfl ?_
  refine g_if_ne 37 dX5_refuse_4 rfl (fun hc => ?_) (fun hc => ?_)
  · have hw := hw.1 hc
    exact g_vret dX5_refuse_37 hw
  · have hw := hw.2 hc
    refine g_aload_n dX5_refuse_7 rfl rfl ?_
    refine g_aload_n dX5_refuse_8 rfl rfl ?_
    refine g_getO dX5_refuse_9 fl_X5_12 sh2 rfl ?_
    refine g_callVI [] (ci := 9) dX5_refuse_12 ml_X5_94 mk_X9_isBad rfl rfl sh3 (Nat.le_of_ble_eq_true rfl) (Nat.le_of_ble_eq_true rfl) rfl (c_Tokens_isBad hw) (fun r1 h2 hw => ?_)
    refine jn_el hw (fun J23 eJ23 hw => ?_)
    have hJ23 : ∀ (s3 : Int32) (h4 : Hp), J23 s3 h4 → Go cX5_refuse 2 RX5 none 2 G (QV G Q) 23 [(0, .ref (gAd G 2))] [.int s3, .ref (gAd G 2)] h4 := by
      intro s3 h4 hw
      subst eJ23
      refine g_putI dX5_refuse_23 fl_X5_60 sh2 rfl rfl pf_5_13 ?_
      refine g_heap (fun h5 eh5 => ?_)
      have hw := hw h5 eh5
      refine g_aload_n dX5_refuse_26 rfl rfl ?_
      refine g_aload_n dX5_refuse_27 rfl rfl ?_
      refine g_getO dX5_refuse_28 fl_X5_12 sh2 rfl ?_
      refine g_getI dX5_refuse_31 fl_X5_97 sh3 rfl ?_
      refine g_putI dX5_refuse_34 fl_X5_63 sh2 rfl rfl pf_5_14 ?_
      refine g_heap (fun h6 eh6 => ?_)
      have hw := hw h6 eh6
      exact g_vret dX5_refuse_37 hw
    refine g_if_eq 22 dX5_refuse_15 rfl (fun hc => ?_) (fun hc => ?_)
    · have hw := hw.1 hc
      refine g_iload_n dX5_refuse_22 rfl rfl ?_
      refine g_lv [0] rfl ?_
      exact hJ23 _ _ hw
    · have hw := hw.2 hc
      refine g_iconst (v := 1) dX5_refuse_18 (by decide) ?_
      refine g_goto 23 dX5_refuse_19 rfl ?_
      refine g_lv [0] rfl ?_
      exact hJ23 _ _ hw
theorem dX5_expect_0 : decode cX5_expect 0 = .ok (.aload_n 0, 1) := by decide +kernel
theorem dX5_expect_1 : decode cX5_expect 1 = .ok (.getfield 12, 3) := by decide +kernel
theorem dX5_expect_4 : decode cX5_expect 4 = .ok (.aload_n 1, 1) := by decide +kernel
theorem dX5_expect_5 : decode cX5_expect 5 = .ok (.invokevirtual 100, 3) := by decide +kernel
theorem dX5_expect_8 : decode cX5_expect 8 = .ok (.ifCond .eq 20, 3) := by decide +kernel
theorem dX5_expect_11 : decode cX5_expect 11 = .ok (.aload_n 0, 1) := by decide +kernel
theorem dX5_expect_12 : decode cX5_expect 12 = .ok (.getfield 60, 3) := by decide +kernel
theorem dX5_expect_15 : decode cX5_expect 15 = .ok (.ifCond .ne 13, 3) := by decide +kernel
theorem dX5_expect_18 : decode cX5_expect 18 = .ok (.aload_n 0, 1) := by decide +kernel
theorem dX5_expect_19 : decode cX5_expect 19 = .ok (.getfield 12, 3) := by decide +kernel
theorem dX5_expect_22 : decode cX5_expect 22 = .ok (.invokevirtual 104, 3) := by decide +kernel
theorem dX5_expect_25 : decode cX5_expect 25 = .ok (.goto 8, 3) := by decide +kernel
theorem dX5_expect_28 : decode cX5_expect 28 = .ok (.aload_n 0, 1) := by decide +kernel
theorem dX5_expect_29 : decode cX5_expect 29 = .ok (.iconst 2, 1) := by decide +kernel
theorem dX5_expect_30 : decode cX5_expect 30 = .ok (.invokevirtual 107, 3) := by decide +kernel
theorem dX5_expect_33 : decode cX5_expect 33 = .ok (.return_, 1) := by decide +kernel
theorem ml_X5_100 : Cond.methodLink RX5 100 yX9_is ∈ Wd := mW 552 (by decide +kernel) rfl
theorem mk_X9_is : MokV yX9_is cX9_is 3 (some .boolean) 1 := ⟨⟨mW 3 (by decide +kernel) rfl, mW 555 (by decide +kernel) rfl, ⟨by decide, by decide, by decide +kernel⟩, by decide⟩, mW 553 (by decide +kernel) rfl, mW 554 (by decide +kernel) rfl⟩
theorem ml_X5_107 : Cond.methodLink RX5 107 yX5_refuse ∈ Wd := mW 578 (by decide +kernel) rfl
theorem mk_X5_refuse : MokV yX5_refuse cX5_refuse 2 none 1 := ⟨⟨mW 2 (by decide +kernel) rfl, mW 581 (by decide +kernel) rfl, ⟨by decide, by decide, by decide +kernel⟩, by decide⟩, mW 580 (by decide +kernel) rfl, mS (q := (yX5_refuse, 15)) 2 (by decide +kernel)⟩
theorem ml_X5_104 : Cond.methodLink RX5 104 yX9_advance ∈ Wd := mW 577 (by decide +kernel) rfl
def Reader_expect (o1 : Nat) (h : Hp) (Q : Hp → Prop) : Prop := Tokens_is o1 h (fun r1 h2 => ∀ J28 : Hp → Prop, J28 = (fun h3 => Reader_refuse 2 h3 (fun h4 => Q h4)) → (r1 = 0 → J28 h2) ∧ (¬ r1 = 0 → (¬ (gI h2 2 13) = 0 → J28 h2) ∧ ((gI h2 2 13) = 0 → Tokens_advance  h2 (fun h5 => Q h5))))
set_option maxHeartbeats 4000000 in
set_option maxRecDepth 20000 in
theorem c_Reader_expect {G : Gx} {o1 : Nat} (ho1 : o1 < NS)  {h : Hp} {Q : Hp → Prop} (hw : Reader_expect o1 h Q) : Ct yX5_expect cX5_expect 2 none 9 G [.ref (gAd G 2), .ref (gSa G o1)] h (QV G Q) := by
  refine ct_go [(0, .ref (gAd G 2)), (1, .ref (gSa G o1))] (plainFor_of_name (by decide)) rfl (Nat.le_of_ble_eq_true rfl) rfl ?_
  refine g_aload_n dX5_expect_0 rfl rfl ?_
  refine g_getO dX5_expect_1 fl_X5_12 sh2 rfl ?_
  refine g_aload_n dX5_expect_4 rfl rfl ?_
  refine g_callVI [.ref (gSa G o1)] (ci := 9) dX5_expect_5 ml_X5_100 mk_X9_is rfl rfl sh3 (Nat.le_of_ble_eq_true rfl) (Nat.le_of_ble_eq_true rfl) rfl (c_Tokens_is ho1 hw) (fun r1 h2 hw => ?_)
  refine jn_el hw (fun J28 eJ28 hw => ?_)
  have hJ28 : ∀ (h3 : Hp), J28 h3 → Go cX5_expect 2 RX5 none 9 G (QV G Q) 28 [(0, .ref (gAd G 2))] [] h3 := by
    intro h3 hw
    subst eJ28
    refine g_aload_n dX5_expect_28 rfl rfl ?_
    refine g_iconst (v := 2) dX5_expect_29 (by decide) ?_
    refine g_callVV [.int 2] (ci := 5) dX5_expect_30 ml_X5_107 mk_X5_refuse rfl rfl sh2 (Nat.le_of_ble_eq_true rfl) (Nat.le_of_ble_eq_true rfl) rfl (c_Reader_refuse hw) (fun h4 hw => ?_)
    exact g_vret dX5_expect_33 hw
  refine g_if_eq 28 dX5_expect_8 rfl (fun hc => ?_) (fun hc => ?_)
  · have hw := hw.1 hc
    refine g_lv [0] rfl ?_
    exact hJ28 _ hw
  · have hw := hw.2 hc
    refine g_aload_n dX5_expect_11 rfl rfl ?_
    refine g_getI dX5_expect_12 fl_X5_60 sh2 rfl ?_
    refine g_if_ne 28 dX5_expect_15 rfl (fun hc => ?_) (fun hc => ?_)
    · have hw := hw.1 hc
      refine g_lv [0] rfl ?_
      exact hJ28 _ hw
    · have hw := hw.2 hc
      refine g_aload_n dX5_expect_18 rfl rfl ?_
      refine g_getO dX5_expect_19 fl_X5_12 sh2 rfl ?_
      refine g_callVV [] (ci := 9) dX5_expect_22 ml_X5_104 mk_X9_advance rfl rfl sh3 (Nat.le_of_ble_eq_true rfl) (Nat.le_of_ble_eq_true rfl) rfl (c_Tokens_advance hw) (fun h5 hw => ?_)
      refine g_goto 33 dX5_expect_25 rfl ?_
      exact g_vret dX5_expect_33 hw
theorem dX9_isNumber_0 : decode cX9_isNumber 0 = .ok (.aload_n 0, 1) := by decide +kernel
theorem dX9_isNumber_1 : decode cX9_isNumber 1 = .ok (.getfield 20, 3) := by decide +kernel
theorem dX9_isNumber_4 : decode cX9_isNumber 4 = .ok (.iconst 3, 1) := by decide +kernel
theorem dX9_isNumber_5 : decode cX9_isNumber 5 = .ok (.if_icmp .ne 7, 3) := by decide +kernel
theorem dX9_isNumber_8 : decode cX9_isNumber 8 = .ok (.iconst 1, 1) := by decide +kernel
theorem dX9_isNumber_9 : decode cX9_isNumber 9 = .ok (.goto 4, 3) := by decide +kernel
theorem dX9_isNumber_12 : decode cX9_isNumber 12 = .ok (.iconst 0, 1) := by decide +kernel
theorem dX9_isNumber_13 : decode cX9_isNumber 13 = .ok (.ireturn, 1) := by decide +kernel
def Tokens_isNumber  (h : Hp) (Q : Int32 → Hp → Prop) : Prop := (¬ (gI h 3 3) = 3 → Q 0 h) ∧ ((gI h 3 3) = 3 → Q 1 h)
set_option maxHeartbeats 4000000 in
set_option maxRecDepth 20000 in
theorem c_Tokens_isNumber {G : Gx}   {h : Hp} {Q : Int32 → Hp → Prop} (hw : Tokens_isNumber  h Q) : Ct yX9_isNumber cX9_isNumber 1 (some .boolean) 1 G [.ref (gAd G 3)] h (QI G Q) := by
  refine ct_go [(0, .ref (gAd G 3))] (plainFor_of_name (by decide)) rfl (Nat.le_of_ble_eq_true rfl) rfl ?_
  refine g_aload_n dX9_isNumber_0 rfl rfl ?_
  refine g_getI dX9_isNumber_1 fl_X9_20 sh3 rfl ?_
  refine g_iconst (v := 3) dX9_isNumber_4 (by decide) ?_
  refine g_icmp_ne 12 dX9_isNumber_5 rfl (fun hc => ?_) (fun hc => ?_)
  · have hw := hw.1 hc
    refine g_iconst (v := 0) dX9_isNumber_12 (by decide) ?_
    exact g_zret dX9_isNumber_13 rfl hw
  · have hw := hw.2 hc
    refine g_iconst (v := 1) dX9_isNumber_8 (by decide) ?_
    refine g_goto 13 dX9_isNumber_9 rfl ?_
    exact g_zret dX9_isNumber_13 rfl hw
theorem dX5_number_0 : decode cX5_number 0 = .ok (.aload_n 0, 1) := by decide +kernel
theorem dX5_number_1 : decode cX5_number 1 = .ok (.getfield 60, 3) := by decide +kernel
theorem dX5_number_4 : decode cX5_number 4 = .ok (.ifCond .ne 13, 3) := by decide +kernel
theorem dX5_number_7 : decode cX5_number 7 = .ok (.aload_n 0, 1) := by decide +kernel
theorem dX5_number_8 : decode cX5_number 8 = .ok (.getfield 12, 3) := by decide +kernel
theorem dX5_number_11 : decode cX5_number 11 = .ok (.invokevirtual 111, 3) := by decide +kernel
theorem dX5_number_14 : decode cX5_number 14 = .ok (.ifCond .ne 10, 3) := by decide +kernel
theorem dX5_number_17 : decode cX5_number 17 = .ok (.aload_n 0, 1) := by decide +kernel
theorem dX5_number_18 : decode cX5_number 18 = .ok (.iconst 2, 1) := by decide +kernel
theorem dX5_number_19 : decode cX5_number 19 = .ok (.invokevirtual 107, 3) := by decide +kernel
theorem dX5_number_22 : decode cX5_number 22 = .ok (.iconst 0, 1) := by decide +kernel
theorem dX5_number_23 : decode cX5_number 23 = .ok (.ireturn, 1) := by decide +kernel
theorem dX5_number_24 : decode cX5_number 24 = .ok (.aload_n 0, 1) := by decide +kernel
theorem dX5_number_25 : decode cX5_number 25 = .ok (.getfield 12, 3) := by decide +kernel
theorem dX5_number_28 : decode cX5_number 28 = .ok (.getfield 114, 3) := by decide +kernel
theorem dX5_number_31 : decode cX5_number 31 = .ok (.istore_n 2, 1) := by decide +kernel
theorem dX5_number_32 : decode cX5_number 32 = .ok (.iload_n 2, 1) := by decide +kernel
theorem dX5_number_33 : decode cX5_number 33 = .ok (.iload_n 1, 1) := by decide +kernel
theorem dX5_number_34 : decode cX5_number 34 = .ok (.if_icmp .le 10, 3) := by decide +kernel
theorem dX5_number_37 : decode cX5_number 37 = .ok (.aload_n 0, 1) := by decide +kernel
theorem dX5_number_38 : decode cX5_number 38 = .ok (.iconst 3, 1) := by decide +kernel
theorem dX5_number_39 : decode cX5_number 39 = .ok (.invokevirtual 107, 3) := by decide +kernel
theorem dX5_number_42 : decode cX5_number 42 = .ok (.iconst 0, 1) := by decide +kernel
theorem dX5_number_43 : decode cX5_number 43 = .ok (.ireturn, 1) := by decide +kernel
theorem dX5_number_44 : decode cX5_number 44 = .ok (.aload_n 0, 1) := by decide +kernel
theorem dX5_number_45 : decode cX5_number 45 = .ok (.getfield 12, 3) := by decide +kernel
theorem dX5_number_48 : decode cX5_number 48 = .ok (.invokevirtual 104, 3) := by decide +kernel
theorem dX5_number_51 : decode cX5_number 51 = .ok (.iload_n 2, 1) := by decide +kernel
theorem dX5_number_52 : decode cX5_number 52 = .ok (.ireturn, 1) := by decide +kernel
theorem ml_X5_111 : Cond.methodLink RX5 111 yX9_isNumber ∈ Wd := mW 591 (by decide +kernel) rfl
theorem mk_X9_isNumber : MokV yX9_isNumber cX9_isNumber 1 (some .boolean) 0 := ⟨⟨mW 3 (by decide +kernel) rfl, mW 594 (by decide +kernel) rfl, ⟨by decide, by decide, by decide +kernel⟩, by decide⟩, mW 592 (by decide +kernel) rfl, mW 593 (by decide +kernel) rfl⟩
theorem fl_X5_114 : FLk RX5 114 9 5 := ⟨_, rfl, by decide, mW 50 (by decide +kernel) rfl⟩
def Reader_number (x1 : Int32) (h : Hp) (Q : Int32 → Hp → Prop) : Prop := ∀ J17 : Hp → Prop, J17 = (fun h1 => Reader_refuse 2 h1 (fun h2 => Q 0 h2)) → (¬ (gI h 2 13) = 0 → J17 h) ∧ ((gI h 2 13) = 0 → Tokens_isNumber  h (fun r3 h4 => (¬ r3 = 0 → ∀ v5 : Int32, v5 = (gI h4 3 5) → (v5 ≤ x1 → Tokens_advance  h4 (fun h6 => Q v5 h6)) ∧ (¬ v5 ≤ x1 → Reader_refuse 3 h4 (fun h7 => Q 0 h7))) ∧ (r3 = 0 → J17 h4)))
set_option maxHeartbeats 4000000 in
set_option maxRecDepth 20000 in
theorem c_Reader_number {G : Gx}  {x1 : Int32} {h : Hp} {Q : Int32 → Hp → Prop} (hw : Reader_number x1 h Q) : Ct yX5_number cX5_number 3 (some .int) 9 G [.ref (gAd G 2), .int x1] h (QI G Q) := by
  refine ct_go [(0, .ref (gAd G 2)), (1, .int x1)] (plainFor_of_name (by decide)) rfl (Nat.le_of_ble_eq_true rfl) rfl ?_
  refine g_aload_n dX5_number_0 rfl rfl ?_
  refine g_getI dX5_number_1 fl_X5_60 sh2 rfl ?_
  refine jn_el hw (fun J17 eJ17 hw => ?_)
  have hJ17 : ∀ (h1 : Hp), J17 h1 → Go cX5_number 3 RX5 (some .int) 9 G (QI G Q) 17 [(0, .ref (gAd G 2))] [] h1 := by
    intro h1 hw
    subst eJ17
    refine g_aload_n dX5_number_17 rfl rfl ?_
    refine g_iconst (v := 2) dX5_number_18 (by decide) ?_
    refine g_callVV [.int 2] (ci := 5) dX5_number_19 ml_X5_107 mk_X5_refuse rfl rfl sh2 (Nat.le_of_ble_eq_true rfl) (Nat.le_of_ble_eq_true rfl) rfl (c_Reader_refuse hw) (fun h2 hw => ?_)
    refine g_iconst (v := 0) dX5_number_22 (by decide) ?_
    exact g_iret dX5_number_23 hw
  refine g_if_ne 17 dX5_number_4 rfl (fun hc => ?_) (fun hc => ?_)
  · have hw := hw.1 hc
    refine g_lv [0] rfl ?_
    exact hJ17 _ hw
  · have hw := hw.2 hc
    refine g_aload_n dX5_number_7 rfl rfl ?_
    refine g_getO dX5_number_8 fl_X5_12 sh2 rfl ?_
    refine g_callVI [] (ci := 9) dX5_number_11 ml_X5_111 mk_X9_isNumber rfl rfl sh3 (Nat.le_of_ble_eq_true rfl) (Nat.le_of_ble_eq_true rfl) rfl (c_Tokens_isNumber hw) (fun r3 h4 hw => ?_)
    refine g_if_ne 24 dX5_number_14 rfl (fun hc => ?_) (fun hc => ?_)
    · have hw := hw.1 hc
      refine g_aload_n dX5_number_24 rfl rfl ?_
      refine g_getO dX5_number_25 fl_X5_12 sh2 rfl ?_
      refine g_getI dX5_number_28 fl_X5_114 sh3 rfl ?_
      refine g_topi (fun v5 ev5 => ?_)
      have hw := hw v5 ev5
      refine g_istore_n dX5_number_31 rfl (by decide) (lv1 := [(0, .ref (gAd G 2)), (1, .int x1), (2, .int v5)]) rfl ?_
      refine g_iload_n dX5_number_32 rfl rfl ?_
      refine g_iload_n dX5_number_33 rfl rfl ?_
      refine g_icmp_le 44 dX5_number_34 rfl (fun hc => ?_) (fun hc => ?_)
      · have hw := hw.1 hc
        refine g_aload_n dX5_number_44 rfl rfl ?_
        refine g_getO dX5_number_45 fl_X5_12 sh2 rfl ?_
        refine g_callVV [] (ci := 9) dX5_number_48 ml_X5_104 mk_X9_advance rfl rfl sh3 (Nat.le_of_ble_eq_true rfl) (Nat.le_of_ble_eq_true rfl) rfl (c_Tokens_advance hw) (fun h6 hw => ?_)
        refine g_iload_n dX5_number_51 rfl rfl ?_
        exact g_iret dX5_number_52 hw
      · have hw := hw.2 hc
        refine g_aload_n dX5_number_37 rfl rfl ?_
        refine g_iconst (v := 3) dX5_number_38 (by decide) ?_
        refine g_callVV [.int 3] (ci := 5) dX5_number_39 ml_X5_107 mk_X5_refuse rfl rfl sh2 (Nat.le_of_ble_eq_true rfl) (Nat.le_of_ble_eq_true rfl) rfl (c_Reader_refuse hw) (fun h7 hw => ?_)
        refine g_iconst (v := 0) dX5_number_42 (by decide) ?_
        exact g_iret dX5_number_43 hw
    · have hw := hw.2 hc
      refine g_lv [0] rfl ?_
      exact hJ17 _ hw
theorem dX9_isEnd_0 : decode cX9_isEnd 0 = .ok (.aload_n 0, 1) := by decide +kernel
theorem dX9_isEnd_1 : decode cX9_isEnd 1 = .ok (.getfield 20, 3) := by decide +kernel
theorem dX9_isEnd_4 : decode cX9_isEnd 4 = .ok (.ifCond .ne 7, 3) := by decide +kernel
theorem dX9_isEnd_7 : decode cX9_isEnd 7 = .ok (.iconst 1, 1) := by decide +kernel
theorem dX9_isEnd_8 : decode cX9_isEnd 8 = .ok (.goto 4, 3) := by decide +kernel
theorem dX9_isEnd_11 : decode cX9_isEnd 11 = .ok (.iconst 0, 1) := by decide +kernel
theorem dX9_isEnd_12 : decode cX9_isEnd 12 = .ok (.ireturn, 1) := by decide +kernel
def Tokens_isEnd  (h : Hp) (Q : Int32 → Hp → Prop) : Prop := (¬ (gI h 3 3) = 0 → Q 0 h) ∧ ((gI h 3 3) = 0 → Q 1 h)
set_option maxHeartbeats 4000000 in
set_option maxRecDepth 20000 in
theorem c_Tokens_isEnd {G : Gx}   {h : Hp} {Q : Int32 → Hp → Prop} (hw : Tokens_isEnd  h Q) : Ct yX9_isEnd cX9_isEnd 1 (some .boolean) 1 G [.ref (gAd G 3)] h (QI G Q) := by
  refine ct_go [(0, .ref (gAd G 3))] (plainFor_of_name (by decide)) rfl (Nat.le_of_ble_eq_true rfl) rfl ?_
  refine g_aload_n dX9_isEnd_0 rfl rfl ?_
  refine g_getI dX9_isEnd_1 fl_X9_20 sh3 rfl ?_
  refine g_if_ne 11 dX9_isEnd_4 rfl (fun hc => ?_) (fun hc => ?_)
  · have hw := hw.1 hc
    refine g_iconst (v := 0) dX9_isEnd_11 (by decide) ?_
    exact g_zret dX9_isEnd_12 rfl hw
  · have hw := hw.2 hc
    refine g_iconst (v := 1) dX9_isEnd_7 (by decide) ?_
    refine g_goto 12 dX9_isEnd_8 rfl ?_
    exact g_zret dX9_isEnd_12 rfl hw
theorem dX5_take_0 : decode cX5_take 0 = .ok (.aload_n 0, 1) := by decide +kernel
theorem dX5_take_1 : decode cX5_take 1 = .ok (.getfield 60, 3) := by decide +kernel
theorem dX5_take_4 : decode cX5_take 4 = .ok (.ifCond .ne 23, 3) := by decide +kernel
theorem dX5_take_7 : decode cX5_take 7 = .ok (.aload_n 0, 1) := by decide +kernel
theorem dX5_take_8 : decode cX5_take 8 = .ok (.getfield 12, 3) := by decide +kernel
theorem dX5_take_11 : decode cX5_take 11 = .ok (.aload_n 1, 1) := by decide +kernel
theorem dX5_take_12 : decode cX5_take 12 = .ok (.invokevirtual 100, 3) := by decide +kernel
theorem dX5_take_15 : decode cX5_take 15 = .ok (.ifCond .eq 12, 3) := by decide +kernel
theorem dX5_take_18 : decode cX5_take 18 = .ok (.aload_n 0, 1) := by decide +kernel
theorem dX5_take_19 : decode cX5_take 19 = .ok (.getfield 12, 3) := by decide +kernel
theorem dX5_take_22 : decode cX5_take 22 = .ok (.invokevirtual 104, 3) := by decide +kernel
theorem dX5_take_25 : decode cX5_take 25 = .ok (.iconst 1, 1) := by decide +kernel
theorem dX5_take_26 : decode cX5_take 26 = .ok (.ireturn, 1) := by decide +kernel
theorem dX5_take_27 : decode cX5_take 27 = .ok (.iconst 0, 1) := by decide +kernel
theorem dX5_take_28 : decode cX5_take 28 = .ok (.ireturn, 1) := by decide +kernel
def Reader_take (o1 : Nat) (h : Hp) (Q : Int32 → Hp → Prop) : Prop := (¬ (gI h 2 13) = 0 → Q 0 h) ∧ ((gI h 2 13) = 0 → Tokens_is o1 h (fun r1 h2 => (r1 = 0 → Q 0 h2) ∧ (¬ r1 = 0 → Tokens_advance  h2 (fun h3 => Q 1 h3))))
set_option maxHeartbeats 4000000 in
set_option maxRecDepth 20000 in
theorem c_Reader_take {G : Gx} {o1 : Nat} (ho1 : o1 < NS)  {h : Hp} {Q : Int32 → Hp → Prop} (hw : Reader_take o1 h Q) : Ct yX5_take cX5_take 2 (some .boolean) 9 G [.ref (gAd G 2), .ref (gSa G o1)] h (QI G Q) := by
  refine ct_go [(0, .ref (gAd G 2)), (1, .ref (gSa G o1))] (plainFor_of_name (by decide)) rfl (Nat.le_of_ble_eq_true rfl) rfl ?_
  refine g_aload_n dX5_take_0 rfl rfl ?_
  refine g_getI dX5_take_1 fl_X5_60 sh2 rfl ?_
  refine g_if_ne 27 dX5_take_4 rfl (fun hc => ?_) (fun hc => ?_)
  · have hw := hw.1 hc
    refine g_iconst (v := 0) dX5_take_27 (by decide) ?_
    exact g_zret dX5_take_28 rfl hw
  · have hw := hw.2 hc
    refine g_aload_n dX5_take_7 rfl rfl ?_
    refine g_getO dX5_take_8 fl_X5_12 sh2 rfl ?_
    refine g_aload_n dX5_take_11 rfl rfl ?_
    refine g_callVI [.ref (gSa G o1)] (ci := 9) dX5_take_12 ml_X5_100 mk_X9_is rfl rfl sh3 (Nat.le_of_ble_eq_true rfl) (Nat.le_of_ble_eq_true rfl) rfl (c_Tokens_is ho1 hw) (fun r1 h2 hw => ?_)
    refine g_if_eq 27 dX5_take_15 rfl (fun hc => ?_) (fun hc => ?_)
    · have hw := hw.1 hc
      refine g_iconst (v := 0) dX5_take_27 (by decide) ?_
      exact g_zret dX5_take_28 rfl hw
    · have hw := hw.2 hc
      refine g_aload_n dX5_take_18 rfl rfl ?_
      refine g_getO dX5_take_19 fl_X5_12 sh2 rfl ?_
      refine g_callVV [] (ci := 9) dX5_take_22 ml_X5_104 mk_X9_advance rfl rfl sh3 (Nat.le_of_ble_eq_true rfl) (Nat.le_of_ble_eq_true rfl) rfl (c_Tokens_advance hw) (fun h3 hw => ?_)
      refine g_iconst (v := 1) dX5_take_25 (by decide) ?_
      exact g_zret dX5_take_26 rfl hw
theorem dX5_readPlace_0 : decode cX5_readPlace 0 = .ok (.aload_n 0, 1) := by decide +kernel
theorem dX5_readPlace_1 : decode cX5_readPlace 1 = .ok (.getfield 31, 3) := by decide +kernel
theorem dX5_readPlace_4 : decode cX5_readPlace 4 = .ok (.bipush 8, 2) := by decide +kernel
theorem dX5_readPlace_6 : decode cX5_readPlace 6 = .ok (.if_icmp .lt 9, 3) := by decide +kernel
theorem dX5_readPlace_9 : decode cX5_readPlace 9 = .ok (.aload_n 0, 1) := by decide +kernel
theorem dX5_readPlace_10 : decode cX5_readPlace 10 = .ok (.iconst 4, 1) := by decide +kernel
theorem dX5_readPlace_11 : decode cX5_readPlace 11 = .ok (.invokevirtual 107, 3) := by decide +kernel
theorem dX5_readPlace_14 : decode cX5_readPlace 14 = .ok (.return_, 1) := by decide +kernel
theorem dX5_readPlace_15 : decode cX5_readPlace 15 = .ok (.aload_n 0, 1) := by decide +kernel
theorem dX5_readPlace_16 : decode cX5_readPlace 16 = .ok (.getfield 12, 3) := by decide +kernel
theorem dX5_readPlace_19 : decode cX5_readPlace 19 = .ok (.invokevirtual 104, 3) := by decide +kernel
theorem dX5_readPlace_22 : decode cX5_readPlace 22 = .ok (.aload_n 0, 1) := by decide +kernel
theorem dX5_readPlace_23 : decode cX5_readPlace 23 = .ok (.ldc 144, 2) := by decide +kernel
theorem dX5_readPlace_25 : decode cX5_readPlace 25 = .ok (.invokevirtual 128, 3) := by decide +kernel
theorem dX5_readPlace_28 : decode cX5_readPlace 28 = .ok (.ifCond .eq 21, 3) := by decide +kernel
theorem dX5_readPlace_31 : decode cX5_readPlace 31 = .ok (.aload_n 0, 1) := by decide +kernel
theorem dX5_readPlace_32 : decode cX5_readPlace 32 = .ok (.dup, 1) := by decide +kernel
theorem dX5_readPlace_33 : decode cX5_readPlace 33 = .ok (.getfield 35, 3) := by decide +kernel
theorem dX5_readPlace_36 : decode cX5_readPlace 36 = .ok (.iconst 1, 1) := by decide +kernel
theorem dX5_readPlace_37 : decode cX5_readPlace 37 = .ok (.aload_n 0, 1) := by decide +kernel
theorem dX5_readPlace_38 : decode cX5_readPlace 38 = .ok (.getfield 31, 3) := by decide +kernel
theorem dX5_readPlace_41 : decode cX5_readPlace 41 = .ok (.ishl, 1) := by decide +kernel
theorem dX5_readPlace_42 : decode cX5_readPlace 42 = .ok (.ior, 1) := by decide +kernel
theorem dX5_readPlace_43 : decode cX5_readPlace 43 = .ok (.putfield 35, 3) := by decide +kernel
theorem dX5_readPlace_46 : decode cX5_readPlace 46 = .ok (.goto 9, 3) := by decide +kernel
theorem dX5_readPlace_49 : decode cX5_readPlace 49 = .ok (.aload_n 0, 1) := by decide +kernel
theorem dX5_readPlace_50 : decode cX5_readPlace 50 = .ok (.ldc 145, 2) := by decide +kernel
theorem dX5_readPlace_52 : decode cX5_readPlace 52 = .ok (.invokevirtual 75, 3) := by decide +kernel
theorem dX5_readPlace_55 : decode cX5_readPlace 55 = .ok (.aload_n 0, 1) := by decide +kernel
theorem dX5_readPlace_56 : decode cX5_readPlace 56 = .ok (.dup, 1) := by decide +kernel
theorem dX5_readPlace_57 : decode cX5_readPlace 57 = .ok (.getfield 31, 3) := by decide +kernel
theorem dX5_readPlace_60 : decode cX5_readPlace 60 = .ok (.iconst 1, 1) := by decide +kernel
theorem dX5_readPlace_61 : decode cX5_readPlace 61 = .ok (.iadd, 1) := by decide +kernel
theorem dX5_readPlace_62 : decode cX5_readPlace 62 = .ok (.putfield 31, 3) := by decide +kernel
theorem dX5_readPlace_65 : decode cX5_readPlace 65 = .ok (.return_, 1) := by decide +kernel
theorem fl_X5_31 : FLk RX5 31 5 4 := ⟨_, rfl, by decide, mW 90 (by decide +kernel) rfl⟩
theorem ml_X5_128 : Cond.methodLink RX5 128 yX5_take ∈ Wd := mW 610 (by decide +kernel) rfl
theorem mk_X5_take : MokV yX5_take cX5_take 2 (some .boolean) 1 := ⟨⟨mW 2 (by decide +kernel) rfl, mW 613 (by decide +kernel) rfl, ⟨by decide, by decide, by decide +kernel⟩, by decide⟩, mW 612 (by decide +kernel) rfl, mS (q := (yX5_take, 15)) 6 (by decide +kernel)⟩
theorem pf_5_4 : parseFieldDescriptor (uD 5 4) = some .int := by decide +kernel
theorem ml_X5_75 : Cond.methodLink RX5 75 yX5_expect ∈ Wd := mW 548 (by decide +kernel) rfl
theorem mk_X5_expect : MokV yX5_expect cX5_expect 2 none 1 := ⟨⟨mW 2 (by decide +kernel) rfl, mW 551 (by decide +kernel) rfl, ⟨by decide, by decide, by decide +kernel⟩, by decide⟩, mW 550 (by decide +kernel) rfl, mS (q := (yX5_expect, 15)) 1 (by decide +kernel)⟩
theorem fl_X5_35 : FLk RX5 35 5 5 := ⟨_, rfl, by decide, mW 91 (by decide +kernel) rfl⟩
theorem pf_5_5 : parseFieldDescriptor (uD 5 5) = some .int := by decide +kernel
def Reader_readPlace  (h : Hp) (Q : Hp → Prop) : Prop := ((gI h 2 4) < 8 → Tokens_advance  h (fun h1 => Reader_take 5 h1 (fun r2 h3 => ∀ J55 : Hp → Prop, J55 = (fun h4 => ∀ h5 : Hp, h5 = sI h4 2 4 ((gI h4 2 4) + 1) → Q h5) → (r2 = 0 → Reader_expect 6 h3 (fun h6 => J55 h6)) ∧ (¬ r2 = 0 → ∀ h7 : Hp, h7 = sI h3 2 5 ((gI h3 2 5) ||| ((1 : Int32) <<< ((gI h3 2 4) &&& 31))) → J55 h7)))) ∧ (¬ (gI h 2 4) < 8 → Reader_refuse 4 h (fun h8 => Q h8))
set_option maxHeartbeats 4000000 in
set_option maxRecDepth 20000 in
theorem c_Reader_readPlace {G : Gx}   {h : Hp} {Q : Hp → Prop} (hw : Reader_readPlace  h Q) : Ct yX5_readPlace cX5_readPlace 1 none 10 G [.ref (gAd G 2)] h (QV G Q) := by
  refine ct_go [(0, .ref (gAd G 2))] (plainFor_of_name (by decide)) rfl (Nat.le_of_ble_eq_true rfl) rfl ?_
  refine g_aload_n dX5_readPlace_0 rfl rfl ?_
  refine g_getI dX5_readPlace_1 fl_X5_31 sh2 rfl ?_
  refine g_bipush (v := 8) dX5_readPlace_4 (by decide) ?_
  refine g_icmp_lt 15 dX5_readPlace_6 rfl (fun hc => ?_) (fun hc => ?_)
  · have hw := hw.1 hc
    refine g_aload_n dX5_readPlace_15 rfl rfl ?_
    refine g_getO dX5_readPlace_16 fl_X5_12 sh2 rfl ?_
    refine g_callVV [] (ci := 9) dX5_readPlace_19 ml_X5_104 mk_X9_advance rfl rfl sh3 (Nat.le_of_ble_eq_true rfl) (Nat.le_of_ble_eq_true rfl) rfl (c_Tokens_advance hw) (fun h1 hw => ?_)
    refine g_aload_n dX5_readPlace_22 rfl rfl ?_
    refine g_ldcS (i := 5) dX5_readPlace_23 (by decide) rfl ?_
    refine g_callVI [.ref (gSa G 5)] (ci := 5) dX5_readPlace_25 ml_X5_128 mk_X5_take rfl rfl sh2 (Nat.le_of_ble_eq_true rfl) (Nat.le_of_ble_eq_true rfl) rfl (c_Reader_take (by decide) hw) (fun r2 h3 hw => ?_)
    refine jn_el hw (fun J55 eJ55 hw => ?_)
    have hJ55 : ∀ (h4 : Hp), J55 h4 → Go cX5_readPlace 1 RX5 none 10 G (QV G Q) 55 [(0, .ref (gAd G 2))] [] h4 := by
      intro h4 hw
      subst eJ55
      refine g_aload_n dX5_readPlace_55 rfl rfl ?_
      refine g_dup dX5_readPlace_56 rfl ?_
      refine g_getI dX5_readPlace_57 fl_X5_31 sh2 rfl ?_
      refine g_iconst (v := 1) dX5_readPlace_60 (by decide) ?_
      refine g_iadd dX5_readPlace_61 ?_
      refine g_putI dX5_readPlace_62 fl_X5_31 sh2 rfl rfl pf_5_4 ?_
      refine g_heap (fun h5 eh5 => ?_)
      have hw := hw h5 eh5
      exact g_vret dX5_readPlace_65 hw
    refine g_if_eq 49 dX5_readPlace_28 rfl (fun hc => ?_) (fun hc => ?_)
    · have hw := hw.1 hc
      refine g_aload_n dX5_readPlace_49 rfl rfl ?_
      refine g_ldcS (i := 6) dX5_readPlace_50 (by decide) rfl ?_
      refine g_callVV [.ref (gSa G 6)] (ci := 5) dX5_readPlace_52 ml_X5_75 mk_X5_expect rfl rfl sh2 (Nat.le_of_ble_eq_true rfl) (Nat.le_of_ble_eq_true rfl) rfl (c_Reader_expect (by decide) hw) (fun h6 hw => ?_)
      exact hJ55 _ hw
    · have hw := hw.2 hc
      refine g_aload_n dX5_readPlace_31 rfl rfl ?_
      refine g_dup dX5_readPlace_32 rfl ?_
      refine g_getI dX5_readPlace_33 fl_X5_35 sh2 rfl ?_
      refine g_iconst (v := 1) dX5_readPlace_36 (by decide) ?_
      refine g_aload_n dX5_readPlace_37 rfl rfl ?_
      refine g_getI dX5_readPlace_38 fl_X5_31 sh2 rfl ?_
      refine g_ishl dX5_readPlace_41 ?_
      refine g_ior dX5_readPlace_42 ?_
      refine g_putI dX5_readPlace_43 fl_X5_35 sh2 rfl rfl pf_5_5 ?_
      refine g_heap (fun h7 eh7 => ?_)
      have hw := hw h7 eh7
      refine g_goto 55 dX5_readPlace_46 rfl ?_
      exact hJ55 _ hw
  · have hw := hw.2 hc
    refine g_aload_n dX5_readPlace_9 rfl rfl ?_
    refine g_iconst (v := 4) dX5_readPlace_10 (by decide) ?_
    refine g_callVV [.int 4] (ci := 5) dX5_readPlace_11 ml_X5_107 mk_X5_refuse rfl rfl sh2 (Nat.le_of_ble_eq_true rfl) (Nat.le_of_ble_eq_true rfl) rfl (c_Reader_refuse hw) (fun h8 hw => ?_)
    exact g_vret dX5_readPlace_14 hw
theorem dX5_readRoad_0 : decode cX5_readRoad 0 = .ok (.aload_n 0, 1) := by decide +kernel
theorem dX5_readRoad_1 : decode cX5_readRoad 1 = .ok (.getfield 38, 3) := by decide +kernel
theorem dX5_readRoad_4 : decode cX5_readRoad 4 = .ok (.bipush 16, 2) := by decide +kernel
theorem dX5_readRoad_6 : decode cX5_readRoad 6 = .ok (.if_icmp .lt 9, 3) := by decide +kernel
theorem dX5_readRoad_9 : decode cX5_readRoad 9 = .ok (.aload_n 0, 1) := by decide +kernel
theorem dX5_readRoad_10 : decode cX5_readRoad 10 = .ok (.iconst 4, 1) := by decide +kernel
theorem dX5_readRoad_11 : decode cX5_readRoad 11 = .ok (.invokevirtual 107, 3) := by decide +kernel
theorem dX5_readRoad_14 : decode cX5_readRoad 14 = .ok (.return_, 1) := by decide +kernel
theorem dX5_readRoad_15 : decode cX5_readRoad 15 = .ok (.aload_n 0, 1) := by decide +kernel
theorem dX5_readRoad_16 : decode cX5_readRoad 16 = .ok (.getfield 12, 3) := by decide +kernel
theorem dX5_readRoad_19 : decode cX5_readRoad 19 = .ok (.invokevirtual 104, 3) := by decide +kernel
theorem dX5_readRoad_22 : decode cX5_readRoad 22 = .ok (.aload_n 0, 1) := by decide +kernel
theorem dX5_readRoad_23 : decode cX5_readRoad 23 = .ok (.getfield 44, 3) := by decide +kernel
theorem dX5_readRoad_26 : decode cX5_readRoad 26 = .ok (.aload_n 0, 1) := by decide +kernel
theorem dX5_readRoad_27 : decode cX5_readRoad 27 = .ok (.getfield 38, 3) := by decide +kernel
theorem dX5_readRoad_30 : decode cX5_readRoad 30 = .ok (.aload_n 0, 1) := by decide +kernel
theorem dX5_readRoad_31 : decode cX5_readRoad 31 = .ok (.aload_n 0, 1) := by decide +kernel
theorem dX5_readRoad_32 : decode cX5_readRoad 32 = .ok (.getfield 31, 3) := by decide +kernel
theorem dX5_readRoad_35 : decode cX5_readRoad 35 = .ok (.iconst 1, 1) := by decide +kernel
theorem dX5_readRoad_36 : decode cX5_readRoad 36 = .ok (.isub, 1) := by decide +kernel
theorem dX5_readRoad_37 : decode cX5_readRoad 37 = .ok (.invokevirtual 81, 3) := by decide +kernel
theorem dX5_readRoad_40 : decode cX5_readRoad 40 = .ok (.iastore, 1) := by decide +kernel
theorem dX5_readRoad_41 : decode cX5_readRoad 41 = .ok (.aload_n 0, 1) := by decide +kernel
theorem dX5_readRoad_42 : decode cX5_readRoad 42 = .ok (.getfield 48, 3) := by decide +kernel
theorem dX5_readRoad_45 : decode cX5_readRoad 45 = .ok (.aload_n 0, 1) := by decide +kernel
theorem dX5_readRoad_46 : decode cX5_readRoad 46 = .ok (.getfield 38, 3) := by decide +kernel
theorem dX5_readRoad_49 : decode cX5_readRoad 49 = .ok (.aload_n 0, 1) := by decide +kernel
theorem dX5_readRoad_50 : decode cX5_readRoad 50 = .ok (.aload_n 0, 1) := by decide +kernel
theorem dX5_readRoad_51 : decode cX5_readRoad 51 = .ok (.getfield 31, 3) := by decide +kernel
theorem dX5_readRoad_54 : decode cX5_readRoad 54 = .ok (.iconst 1, 1) := by decide +kernel
theorem dX5_readRoad_55 : decode cX5_readRoad 55 = .ok (.isub, 1) := by decide +kernel
theorem dX5_readRoad_56 : decode cX5_readRoad 56 = .ok (.invokevirtual 81, 3) := by decide +kernel
theorem dX5_readRoad_59 : decode cX5_readRoad 59 = .ok (.iastore, 1) := by decide +kernel
theorem dX5_readRoad_60 : decode cX5_readRoad 60 = .ok (.aload_n 0, 1) := by decide +kernel
theorem dX5_readRoad_61 : decode cX5_readRoad 61 = .ok (.ldc 147, 2) := by decide +kernel
theorem dX5_readRoad_63 : decode cX5_readRoad 63 = .ok (.invokevirtual 128, 3) := by decide +kernel
theorem dX5_readRoad_66 : decode cX5_readRoad 66 = .ok (.istore_n 1, 1) := by decide +kernel
theorem dX5_readRoad_67 : decode cX5_readRoad 67 = .ok (.iload_n 1, 1) := by decide +kernel
theorem dX5_readRoad_68 : decode cX5_readRoad 68 = .ok (.ifCond .ne 9, 3) := by decide +kernel
theorem dX5_readRoad_71 : decode cX5_readRoad 71 = .ok (.aload_n 0, 1) := by decide +kernel
theorem dX5_readRoad_72 : decode cX5_readRoad 72 = .ok (.ldc 149, 2) := by decide +kernel
theorem dX5_readRoad_74 : decode cX5_readRoad 74 = .ok (.invokevirtual 75, 3) := by decide +kernel
theorem dX5_readRoad_77 : decode cX5_readRoad 77 = .ok (.aload_n 0, 1) := by decide +kernel
theorem dX5_readRoad_78 : decode cX5_readRoad 78 = .ok (.bipush 99, 2) := by decide +kernel
theorem dX5_readRoad_80 : decode cX5_readRoad 80 = .ok (.invokevirtual 81, 3) := by decide +kernel
theorem dX5_readRoad_83 : decode cX5_readRoad 83 = .ok (.istore_n 2, 1) := by decide +kernel
theorem dX5_readRoad_84 : decode cX5_readRoad 84 = .ok (.aload_n 0, 1) := by decide +kernel
theorem dX5_readRoad_85 : decode cX5_readRoad 85 = .ok (.getfield 51, 3) := by decide +kernel
theorem dX5_readRoad_88 : decode cX5_readRoad 88 = .ok (.aload_n 0, 1) := by decide +kernel
theorem dX5_readRoad_89 : decode cX5_readRoad 89 = .ok (.getfield 38, 3) := by decide +kernel
theorem dX5_readRoad_92 : decode cX5_readRoad 92 = .ok (.iload_n 1, 1) := by decide +kernel
theorem dX5_readRoad_93 : decode cX5_readRoad 93 = .ok (.ifCond .eq 7, 3) := by decide +kernel
theorem dX5_readRoad_96 : decode cX5_readRoad 96 = .ok (.iload_n 2, 1) := by decide +kernel
theorem dX5_readRoad_97 : decode cX5_readRoad 97 = .ok (.goto 5, 3) := by decide +kernel
theorem dX5_readRoad_100 : decode cX5_readRoad 100 = .ok (.iload_n 2, 1) := by decide +kernel
theorem dX5_readRoad_101 : decode cX5_readRoad 101 = .ok (.ineg, 1) := by decide +kernel
theorem dX5_readRoad_102 : decode cX5_readRoad 102 = .ok (.iastore, 1) := by decide +kernel
theorem dX5_readRoad_103 : decode cX5_readRoad 103 = .ok (.aload_n 0, 1) := by decide +kernel
theorem dX5_readRoad_104 : decode cX5_readRoad 104 = .ok (.dup, 1) := by decide +kernel
theorem dX5_readRoad_105 : decode cX5_readRoad 105 = .ok (.getfield 38, 3) := by decide +kernel
theorem dX5_readRoad_108 : decode cX5_readRoad 108 = .ok (.iconst 1, 1) := by decide +kernel
theorem dX5_readRoad_109 : decode cX5_readRoad 109 = .ok (.iadd, 1) := by decide +kernel
theorem dX5_readRoad_110 : decode cX5_readRoad 110 = .ok (.putfield 38, 3) := by decide +kernel
theorem dX5_readRoad_113 : decode cX5_readRoad 113 = .ok (.return_, 1) := by decide +kernel
theorem fl_X5_38 : FLk RX5 38 5 6 := ⟨_, rfl, by decide, mW 92 (by decide +kernel) rfl⟩
theorem fl_X5_44 : FLk RX5 44 5 8 := ⟨_, rfl, by decide, mW 94 (by decide +kernel) rfl⟩
theorem ml_X5_81 : Cond.methodLink RX5 81 yX5_number ∈ Wd := mW 587 (by decide +kernel) rfl
theorem mk_X5_number : MokV yX5_number cX5_number 3 (some .int) 1 := ⟨⟨mW 2 (by decide +kernel) rfl, mW 590 (by decide +kernel) rfl, ⟨by decide, by decide, by decide +kernel⟩, by decide⟩, mW 589 (by decide +kernel) rfl, mS (q := (yX5_number, 15)) 3 (by decide +kernel)⟩
theorem fl_X5_48 : FLk RX5 48 5 9 := ⟨_, rfl, by decide, mW 95 (by decide +kernel) rfl⟩
theorem fl_X5_51 : FLk RX5 51 5 10 := ⟨_, rfl, by decide, mW 96 (by decide +kernel) rfl⟩
theorem pf_5_6 : parseFieldDescriptor (uD 5 6) = some .int := by decide +kernel
def Reader_readRoad  (h : Hp) (Q : Hp → Prop) : Prop := ((gI h 2 6) < 16 → Tokens_advance  h (fun h1 => Reader_number ((gI h1 2 4) - 1) h1 (fun r2 h3 => vp_in (gI h1 2 6) 16 ∧ ∀ h4 : Hp, h4 = sI h3 10 ((gI h1 2 6)).toNatClampNeg r2 → Reader_number ((gI h4 2 4) - 1) h4 (fun r5 h6 => vp_in (gI h4 2 6) 16 ∧ ∀ h7 : Hp, h7 = sI h6 11 ((gI h4 2 6)).toNatClampNeg r5 → Reader_take 8 h7 (fun r8 h9 => ∀ J77 : Hp → Prop, J77 = (fun h10 => Reader_number 99 h10 (fun r11 h12 => ∀ J102 : Int32 → Hp → Prop, J102 = (fun s13 h14 => vp_in (gI h12 2 6) 16 ∧ ∀ h15 : Hp, h15 = sI h14 12 ((gI h12 2 6)).toNatClampNeg s13 → ∀ h16 : Hp, h16 = sI h15 2 6 ((gI h15 2 6) + 1) → Q h16) → (r8 = 0 → J102 (-r11) h12) ∧ (¬ r8 = 0 → J102 r11 h12))) → (¬ r8 = 0 → J77 h9) ∧ (r8 = 0 → Reader_expect 9 h9 (fun h17 => J77 h17))))))) ∧ (¬ (gI h 2 6) < 16 → Reader_refuse 4 h (fun h18 => Q h18))
set_option maxHeartbeats 4000000 in
set_option maxRecDepth 20000 in
theorem c_Reader_readRoad {G : Gx}   {h : Hp} {Q : Hp → Prop} (hw : Reader_readRoad  h Q) : Ct yX5_readRoad cX5_readRoad 3 none 10 G [.ref (gAd G 2)] h (QV G Q) := by
  refine ct_go [(0, .ref (gAd G 2))] (plainFor_of_name (by decide)) rfl (Nat.le_of_ble_eq_true rfl) rfl ?_
  refine g_aload_n dX5_readRoad_0 rfl rfl ?_
  refine g_getI dX5_readRoad_1 fl_X5_38 sh2 rfl ?_
  refine g_bipush (v := 16) dX5_readRoad_4 (by decide) ?_
  refine g_icmp_lt 15 dX5_readRoad_6 rfl (fun hc => ?_) (fun hc => ?_)
  · have hw := hw.1 hc
    refine g_aload_n dX5_readRoad_15 rfl rfl ?_
    refine g_getO dX5_readRoad_16 fl_X5_12 sh2 rfl ?_
    refine g_callVV [] (ci := 9) dX5_readRoad_19 ml_X5_104 mk_X9_advance rfl rfl sh3 (Nat.le_of_ble_eq_true rfl) (Nat.le_of_ble_eq_true rfl) rfl (c_Tokens_advance hw) (fun h1 hw => ?_)
    refine g_aload_n dX5_readRoad_22 rfl rfl ?_
    refine g_getA dX5_readRoad_23 fl_X5_44 sh2 rfl ?_
    refine g_aload_n dX5_readRoad_26 rfl rfl ?_
    refine g_getI dX5_readRoad_27 fl_X5_38 sh2 rfl ?_
    refine g_aload_n dX5_readRoad_30 rfl rfl ?_
    refine g_aload_n dX5_readRoad_31 rfl rfl ?_
    refine g_getI dX5_readRoad_32 fl_X5_31 sh2 rfl ?_
    refine g_iconst (v := 1) dX5_readRoad_35 (by decide) ?_
    refine g_isub dX5_readRoad_36 ?_
    refine g_callVI [.int ((gI h1 2 4) - 1)] (ci := 5) dX5_readRoad_37 ml_X5_81 mk_X5_number rfl rfl sh2 (Nat.le_of_ble_eq_true rfl) (Nat.le_of_ble_eq_true rfl) rfl (c_Reader_number hw) (fun r2 h3 hw => ?_)
    refine g_iast dX5_readRoad_40 ia10 al10 hw.1 ?_
    have hw := hw.2
    refine g_heap (fun h4 eh4 => ?_)
    have hw := hw h4 eh4
    refine g_aload_n dX5_readRoad_41 rfl rfl ?_
    refine g_getA dX5_readRoad_42 fl_X5_48 sh2 rfl ?_
    refine g_aload_n dX5_readRoad_45 rfl rfl ?_
    refine g_getI dX5_readRoad_46 fl_X5_38 sh2 rfl ?_
    refine g_aload_n dX5_readRoad_49 rfl rfl ?_
    refine g_aload_n dX5_readRoad_50 rfl rfl ?_
    refine g_getI dX5_readRoad_51 fl_X5_31 sh2 rfl ?_
    refine g_iconst (v := 1) dX5_readRoad_54 (by decide) ?_
    refine g_isub dX5_readRoad_55 ?_
    refine g_callVI [.int ((gI h4 2 4) - 1)] (ci := 5) dX5_readRoad_56 ml_X5_81 mk_X5_number rfl rfl sh2 (Nat.le_of_ble_eq_true rfl) (Nat.le_of_ble_eq_true rfl) rfl (c_Reader_number hw) (fun r5 h6 hw => ?_)
    refine g_iast dX5_readRoad_59 ia11 al11 hw.1 ?_
    have hw := hw.2
    refine g_heap (fun h7 eh7 => ?_)
    have hw := hw h7 eh7
    refine g_aload_n dX5_readRoad_60 rfl rfl ?_
    refine g_ldcS (i := 8) dX5_readRoad_61 (by decide) rfl ?_
    refine g_callVI [.ref (gSa G 8)] (ci := 5) dX5_readRoad_63 ml_X5_128 mk_X5_take rfl rfl sh2 (Nat.le_of_ble_eq_true rfl) (Nat.le_of_ble_eq_true rfl) rfl (c_Reader_take (by decide) hw) (fun r8 h9 hw => ?_)
    refine g_istore_n dX5_readRoad_66 rfl (by decide) (lv1 := [(0, .ref (gAd G 2)), (1, .int r8)]) rfl ?_
    refine g_iload_n dX5_readRoad_67 rfl rfl ?_
    refine jn_el hw (fun J77 eJ77 hw => ?_)
    have hJ77 : ∀ (h10 : Hp), J77 h10 → Go cX5_readRoad 3 RX5 none 10 G (QV G Q) 77 [(0, .ref (gAd G 2)), (1, .int r8)] [] h10 := by
      intro h10 hw
      subst eJ77
      refine g_aload_n dX5_readRoad_77 rfl rfl ?_
      refine g_bipush (v := 99) dX5_readRoad_78 (by decide) ?_
      refine g_callVI [.int 99] (ci := 5) dX5_readRoad_80 ml_X5_81 mk_X5_number rfl rfl sh2 (Nat.le_of_ble_eq_true rfl) (Nat.le_of_ble_eq_true rfl) rfl (c_Reader_number hw) (fun r11 h12 hw => ?_)
      refine g_istore_n dX5_readRoad_83 rfl (by decide) (lv1 := [(0, .ref (gAd G 2)), (1, .int r8), (2, .int r11)]) rfl ?_
      refine g_aload_n dX5_readRoad_84 rfl rfl ?_
      refine g_getA dX5_readRoad_85 fl_X5_51 sh2 rfl ?_
      refine g_aload_n dX5_readRoad_88 rfl rfl ?_
      refine g_getI dX5_readRoad_89 fl_X5_38 sh2 rfl ?_
      refine g_iload_n dX5_readRoad_92 rfl rfl ?_
      refine jn_el hw (fun J102 eJ102 hw => ?_)
      have hJ102 : ∀ (s13 : Int32) (h14 : Hp), J102 s13 h14 → Go cX5_readRoad 3 RX5 none 10 G (QV G Q) 102 [(0, .ref (gAd G 2))] [.int s13, .int (gI h12 2 6), .ref (gAd G 12)] h14 := by
        intro s13 h14 hw
        subst eJ102
        refine g_iast dX5_readRoad_102 ia12 al12 hw.1 ?_
        have hw := hw.2
        refine g_heap (fun h15 eh15 => ?_)
        have hw := hw h15 eh15
        refine g_aload_n dX5_readRoad_103 rfl rfl ?_
        refine g_dup dX5_readRoad_104 rfl ?_
        refine g_getI dX5_readRoad_105 fl_X5_38 sh2 rfl ?_
        refine g_iconst (v := 1) dX5_readRoad_108 (by decide) ?_
        refine g_iadd dX5_readRoad_109 ?_
        refine g_putI dX5_readRoad_110 fl_X5_38 sh2 rfl rfl pf_5_6 ?_
        refine g_heap (fun h16 eh16 => ?_)
        have hw := hw h16 eh16
        exact g_vret dX5_readRoad_113 hw
      refine g_if_eq 100 dX5_readRoad_93 rfl (fun hc => ?_) (fun hc => ?_)
      · have hw := hw.1 hc
        refine g_iload_n dX5_readRoad_100 rfl rfl ?_
        refine g_ineg dX5_readRoad_101 ?_
        refine g_lv [0] rfl ?_
        exact hJ102 _ _ hw
      · have hw := hw.2 hc
        refine g_iload_n dX5_readRoad_96 rfl rfl ?_
        refine g_goto 102 dX5_readRoad_97 rfl ?_
        refine g_lv [0] rfl ?_
        exact hJ102 _ _ hw
    refine g_if_ne 77 dX5_readRoad_68 rfl (fun hc => ?_) (fun hc => ?_)
    · have hw := hw.1 hc
      exact hJ77 _ hw
    · have hw := hw.2 hc
      refine g_aload_n dX5_readRoad_71 rfl rfl ?_
      refine g_ldcS (i := 9) dX5_readRoad_72 (by decide) rfl ?_
      refine g_callVV [.ref (gSa G 9)] (ci := 5) dX5_readRoad_74 ml_X5_75 mk_X5_expect rfl rfl sh2 (Nat.le_of_ble_eq_true rfl) (Nat.le_of_ble_eq_true rfl) rfl (c_Reader_expect (by decide) hw) (fun h17 hw => ?_)
      exact hJ77 _ hw
  · have hw := hw.2 hc
    refine g_aload_n dX5_readRoad_9 rfl rfl ?_
    refine g_iconst (v := 4) dX5_readRoad_10 (by decide) ?_
    refine g_callVV [.int 4] (ci := 5) dX5_readRoad_11 ml_X5_107 mk_X5_refuse rfl rfl sh2 (Nat.le_of_ble_eq_true rfl) (Nat.le_of_ble_eq_true rfl) rfl (c_Reader_refuse hw) (fun h18 hw => ?_)
    exact g_vret dX5_readRoad_14 hw
theorem dX5_beginLaw_0 : decode cX5_beginLaw 0 = .ok (.aload_n 0, 1) := by decide +kernel
theorem dX5_beginLaw_1 : decode cX5_beginLaw 1 = .ok (.ldc 142, 2) := by decide +kernel
theorem dX5_beginLaw_3 : decode cX5_beginLaw 3 = .ok (.invokevirtual 75, 3) := by decide +kernel
theorem dX5_beginLaw_6 : decode cX5_beginLaw 6 = .ok (.aload_n 0, 1) := by decide +kernel
theorem dX5_beginLaw_7 : decode cX5_beginLaw 7 = .ok (.aload_n 1, 1) := by decide +kernel
theorem dX5_beginLaw_8 : decode cX5_beginLaw 8 = .ok (.putfield 28, 3) := by decide +kernel
theorem dX5_beginLaw_11 : decode cX5_beginLaw 11 = .ok (.aload_n 0, 1) := by decide +kernel
theorem dX5_beginLaw_12 : decode cX5_beginLaw 12 = .ok (.getfield 28, 3) := by decide +kernel
theorem dX5_beginLaw_15 : decode cX5_beginLaw 15 = .ok (.iconst 0, 1) := by decide +kernel
theorem dX5_beginLaw_16 : decode cX5_beginLaw 16 = .ok (.putfield 66, 3) := by decide +kernel
theorem dX5_beginLaw_19 : decode cX5_beginLaw 19 = .ok (.return_, 1) := by decide +kernel
theorem fl_X5_28 : FLk RX5 28 5 3 := ⟨_, rfl, by decide, mW 89 (by decide +kernel) rfl⟩
theorem pf_5_3 : parseFieldDescriptor (uD 5 3) = some (.object "MeanRoads$Law") := by decide +kernel
theorem fl_X5_66 : FLk RX5 66 3 3 := ⟨_, rfl, by decide, mW 75 (by decide +kernel) rfl⟩
theorem pf_3_3 : parseFieldDescriptor (uD 3 3) = some .int := by decide +kernel
def Reader_beginLaw (o1 : Nat) (h : Hp) (Q : Hp → Prop) : Prop := Reader_expect 11 h (fun h1 => Mu 1 = (2, 3) ∧ ∀ h2 : Hp, h2 = sR h1 1 (some o1) → ∃ q3, gR h2 1 = some q3 ∧ SH q3 = .inl 3 ∧ ∀ h4 : Hp, h4 = sI h2 q3 3 0 → Q h4)
set_option maxHeartbeats 4000000 in
set_option maxRecDepth 20000 in
theorem c_Reader_beginLaw {G : Gx} {o1 : Nat} (ho1 : SH o1 = .inl 3)  {h : Hp} {Q : Hp → Prop} (hw : Reader_beginLaw o1 h Q) : Ct yX5_beginLaw cX5_beginLaw 2 none 10 G [.ref (gAd G 2), .ref (gAd G o1)] h (QV G Q) := by
  refine ct_go [(0, .ref (gAd G 2)), (1, .ref (gAd G o1))] (plainFor_of_name (by decide)) rfl (Nat.le_of_ble_eq_true rfl) rfl ?_
  refine g_aload_n dX5_beginLaw_0 rfl rfl ?_
  refine g_ldcS (i := 11) dX5_beginLaw_1 (by decide) rfl ?_
  refine g_callVV [.ref (gSa G 11)] (ci := 5) dX5_beginLaw_3 ml_X5_75 mk_X5_expect rfl rfl sh2 (Nat.le_of_ble_eq_true rfl) (Nat.le_of_ble_eq_true rfl) rfl (c_Reader_expect (by decide) hw) (fun h1 hw => ?_)
  refine g_aload_n dX5_beginLaw_6 rfl rfl ?_
  refine g_aload_n dX5_beginLaw_7 rfl rfl ?_
  refine g_putM dX5_beginLaw_8 fl_X5_28 sh2 rfl hw.1 rfl pf_5_3 (fun _ => rfl) (fun _ => rfl) ?_
  have hw := hw.2
  refine g_heap (fun h2 eh2 => ?_)
  have hw := hw h2 eh2
  refine g_aload_n dX5_beginLaw_11 rfl rfl ?_
  obtain ⟨q3, hqq3, hsq3, hw⟩ := hw
  refine g_getM dX5_beginLaw_12 fl_X5_28 sh2 rfl hqq3 ?_
  refine g_iconst (v := 0) dX5_beginLaw_15 (by decide) ?_
  refine g_putI dX5_beginLaw_16 fl_X5_66 hsq3 rfl rfl pf_3_3 ?_
  refine g_heap (fun h4 eh4 => ?_)
  have hw := hw h4 eh4
  exact g_vret dX5_beginLaw_19 hw
theorem dX3_add_0 : decode cX3_add 0 = .ok (.aload_n 0, 1) := by decide +kernel
theorem dX3_add_1 : decode cX3_add 1 = .ok (.getfield 22, 3) := by decide +kernel
theorem dX3_add_4 : decode cX3_add 4 = .ok (.aload_n 0, 1) := by decide +kernel
theorem dX3_add_5 : decode cX3_add 5 = .ok (.getfield 9, 3) := by decide +kernel
theorem dX3_add_8 : decode cX3_add 8 = .ok (.arraylength, 1) := by decide +kernel
theorem dX3_add_9 : decode cX3_add 9 = .ok (.if_icmp .ge 23, 3) := by decide +kernel
theorem dX3_add_12 : decode cX3_add 12 = .ok (.aload_n 0, 1) := by decide +kernel
theorem dX3_add_13 : decode cX3_add 13 = .ok (.getfield 9, 3) := by decide +kernel
theorem dX3_add_16 : decode cX3_add 16 = .ok (.aload_n 0, 1) := by decide +kernel
theorem dX3_add_17 : decode cX3_add 17 = .ok (.getfield 22, 3) := by decide +kernel
theorem dX3_add_20 : decode cX3_add 20 = .ok (.iload_n 1, 1) := by decide +kernel
theorem dX3_add_21 : decode cX3_add 21 = .ok (.iastore, 1) := by decide +kernel
theorem dX3_add_22 : decode cX3_add 22 = .ok (.aload_n 0, 1) := by decide +kernel
theorem dX3_add_23 : decode cX3_add 23 = .ok (.dup, 1) := by decide +kernel
theorem dX3_add_24 : decode cX3_add 24 = .ok (.getfield 22, 3) := by decide +kernel
theorem dX3_add_27 : decode cX3_add 27 = .ok (.iconst 1, 1) := by decide +kernel
theorem dX3_add_28 : decode cX3_add 28 = .ok (.iadd, 1) := by decide +kernel
theorem dX3_add_29 : decode cX3_add 29 = .ok (.putfield 22, 3) := by decide +kernel
theorem dX3_add_32 : decode cX3_add 32 = .ok (.return_, 1) := by decide +kernel
theorem fl_X3_22 : FLk RX3 22 3 3 := ⟨_, rfl, by decide, mW 74 (by decide +kernel) rfl⟩
theorem fl_X3_9 : FLk RX3 9 3 0 := ⟨_, rfl, by decide, mW 71 (by decide +kernel) rfl⟩
def Law_add (o0 : Nat) (x1 : Int32) (h : Hp) (Q : Hp → Prop) : Prop := (900 ≤ (gI h o0 3) → Q h) ∧ (¬ 900 ≤ (gI h o0 3) → vp_in (gI h o0 3) 900 ∧ ∀ h1 : Hp, h1 = sI h (rf o0 0) ((gI h o0 3)).toNatClampNeg x1 → ∀ h2 : Hp, h2 = sI h1 o0 3 ((gI h1 o0 3) + 1) → Q h2)
set_option maxHeartbeats 4000000 in
set_option maxRecDepth 20000 in
theorem c_Law_add {G : Gx} {o0 : Nat} (ho0 : SH o0 = .inl 3) {x1 : Int32} {h : Hp} {Q : Hp → Prop} (hw : Law_add o0 x1 h Q) : Ct yX3_add cX3_add 2 none 1 G [.ref (gAd G o0), .int x1] h (QV G Q) := by
  refine ct_go [(0, .ref (gAd G o0)), (1, .int x1)] (plainFor_of_name (by decide)) rfl (Nat.le_of_ble_eq_true rfl) rfl ?_
  refine g_aload_n dX3_add_0 rfl rfl ?_
  refine g_getI dX3_add_1 fl_X3_22 ho0 rfl ?_
  refine g_aload_n dX3_add_4 rfl rfl ?_
  refine g_getA dX3_add_5 fl_X3_9 ho0 rfl ?_
  refine g_alen dX3_add_8 (rf_a ho0 (k := 0) rfl) (by decide) (ln_3_0 ho0) (v := 900) (by decide) ?_
  refine g_icmp_ge 32 dX3_add_9 rfl (fun hc => ?_) (fun hc => ?_)
  · have hw := hw.1 hc
    exact g_vret dX3_add_32 hw
  · have hw := hw.2 hc
    refine g_aload_n dX3_add_12 rfl rfl ?_
    refine g_getA dX3_add_13 fl_X3_9 ho0 rfl ?_
    refine g_aload_n dX3_add_16 rfl rfl ?_
    refine g_getI dX3_add_17 fl_X3_22 ho0 rfl ?_
    refine g_iload_n dX3_add_20 rfl rfl ?_
    refine g_iast dX3_add_21 (rf_a ho0 (k := 0) rfl) (ln_3_0 ho0) hw.1 ?_
    have hw := hw.2
    refine g_heap (fun h1 eh1 => ?_)
    have hw := hw h1 eh1
    refine g_aload_n dX3_add_22 rfl rfl ?_
    refine g_dup dX3_add_23 rfl ?_
    refine g_getI dX3_add_24 fl_X3_22 ho0 rfl ?_
    refine g_iconst (v := 1) dX3_add_27 (by decide) ?_
    refine g_iadd dX3_add_28 ?_
    refine g_putI dX3_add_29 fl_X3_22 ho0 rfl rfl pf_3_3 ?_
    refine g_heap (fun h2 eh2 => ?_)
    have hw := hw h2 eh2
    exact g_vret dX3_add_32 hw
theorem dX5_mayDeepen_0 : decode cX5_mayDeepen 0 = .ok (.iload_n 1, 1) := by decide +kernel
theorem dX5_mayDeepen_1 : decode cX5_mayDeepen 1 = .ok (.bipush 6, 2) := by decide +kernel
theorem dX5_mayDeepen_3 : decode cX5_mayDeepen 3 = .ok (.if_icmp .lt 8, 3) := by decide +kernel
theorem dX5_mayDeepen_6 : decode cX5_mayDeepen 6 = .ok (.aload_n 0, 1) := by decide +kernel
theorem dX5_mayDeepen_7 : decode cX5_mayDeepen 7 = .ok (.iconst 4, 1) := by decide +kernel
theorem dX5_mayDeepen_8 : decode cX5_mayDeepen 8 = .ok (.invokevirtual 107, 3) := by decide +kernel
theorem dX5_mayDeepen_11 : decode cX5_mayDeepen 11 = .ok (.aload_n 0, 1) := by decide +kernel
theorem dX5_mayDeepen_12 : decode cX5_mayDeepen 12 = .ok (.getfield 60, 3) := by decide +kernel
theorem dX5_mayDeepen_15 : decode cX5_mayDeepen 15 = .ok (.ifCond .ne 7, 3) := by decide +kernel
theorem dX5_mayDeepen_18 : decode cX5_mayDeepen 18 = .ok (.iconst 1, 1) := by decide +kernel
theorem dX5_mayDeepen_19 : decode cX5_mayDeepen 19 = .ok (.goto 4, 3) := by decide +kernel
theorem dX5_mayDeepen_22 : decode cX5_mayDeepen 22 = .ok (.iconst 0, 1) := by decide +kernel
theorem dX5_mayDeepen_23 : decode cX5_mayDeepen 23 = .ok (.ireturn, 1) := by decide +kernel
def Reader_mayDeepen (x1 : Int32) (h : Hp) (Q : Int32 → Hp → Prop) : Prop := ∀ J11 : Hp → Prop, J11 = (fun h1 => (¬ (gI h1 2 13) = 0 → Q 0 h1) ∧ ((gI h1 2 13) = 0 → Q 1 h1)) → (x1 < 6 → J11 h) ∧ (¬ x1 < 6 → Reader_refuse 4 h (fun h2 => J11 h2))
set_option maxHeartbeats 4000000 in
set_option maxRecDepth 20000 in
theorem c_Reader_mayDeepen {G : Gx}  {x1 : Int32} {h : Hp} {Q : Int32 → Hp → Prop} (hw : Reader_mayDeepen x1 h Q) : Ct yX5_mayDeepen cX5_mayDeepen 2 (some .boolean) 3 G [.ref (gAd G 2), .int x1] h (QI G Q) := by
  refine ct_go [(0, .ref (gAd G 2)), (1, .int x1)] (plainFor_of_name (by decide)) rfl (Nat.le_of_ble_eq_true rfl) rfl ?_
  refine g_iload_n dX5_mayDeepen_0 rfl rfl ?_
  refine g_bipush (v := 6) dX5_mayDeepen_1 (by decide) ?_
  refine jn_el hw (fun J11 eJ11 hw => ?_)
  have hJ11 : ∀ (h1 : Hp), J11 h1 → Go cX5_mayDeepen 2 RX5 (some .boolean) 3 G (QI G Q) 11 [(0, .ref (gAd G 2))] [] h1 := by
    intro h1 hw
    subst eJ11
    refine g_aload_n dX5_mayDeepen_11 rfl rfl ?_
    refine g_getI dX5_mayDeepen_12 fl_X5_60 sh2 rfl ?_
    refine g_if_ne 22 dX5_mayDeepen_15 rfl (fun hc => ?_) (fun hc => ?_)
    · have hw := hw.1 hc
      refine g_iconst (v := 0) dX5_mayDeepen_22 (by decide) ?_
      exact g_zret dX5_mayDeepen_23 rfl hw
    · have hw := hw.2 hc
      refine g_iconst (v := 1) dX5_mayDeepen_18 (by decide) ?_
      refine g_goto 23 dX5_mayDeepen_19 rfl ?_
      exact g_zret dX5_mayDeepen_23 rfl hw
  refine g_icmp_lt 11 dX5_mayDeepen_3 rfl (fun hc => ?_) (fun hc => ?_)
  · have hw := hw.1 hc
    refine g_lv [0] rfl ?_
    exact hJ11 _ hw
  · have hw := hw.2 hc
    refine g_aload_n dX5_mayDeepen_6 rfl rfl ?_
    refine g_iconst (v := 4) dX5_mayDeepen_7 (by decide) ?_
    refine g_callVV [.int 4] (ci := 5) dX5_mayDeepen_8 ml_X5_107 mk_X5_refuse rfl rfl sh2 (Nat.le_of_ble_eq_true rfl) (Nat.le_of_ble_eq_true rfl) rfl (c_Reader_refuse hw) (fun h2 hw => ?_)
    refine g_lv [0] rfl ?_
    exact hJ11 _ hw
theorem dX5_comparison_0 : decode cX5_comparison 0 = .ok (.aload_n 0, 1) := by decide +kernel
theorem dX5_comparison_1 : decode cX5_comparison 1 = .ok (.ldc 178, 2) := by decide +kernel
theorem dX5_comparison_3 : decode cX5_comparison 3 = .ok (.invokevirtual 128, 3) := by decide +kernel
theorem dX5_comparison_6 : decode cX5_comparison 6 = .ok (.ifCond .eq 7, 3) := by decide +kernel
theorem dX5_comparison_9 : decode cX5_comparison 9 = .ok (.sipush 1013, 3) := by decide +kernel
theorem dX5_comparison_12 : decode cX5_comparison 12 = .ok (.ireturn, 1) := by decide +kernel
theorem dX5_comparison_13 : decode cX5_comparison 13 = .ok (.aload_n 0, 1) := by decide +kernel
theorem dX5_comparison_14 : decode cX5_comparison 14 = .ok (.ldc 180, 2) := by decide +kernel
theorem dX5_comparison_16 : decode cX5_comparison 16 = .ok (.invokevirtual 128, 3) := by decide +kernel
theorem dX5_comparison_19 : decode cX5_comparison 19 = .ok (.ifCond .eq 7, 3) := by decide +kernel
theorem dX5_comparison_22 : decode cX5_comparison 22 = .ok (.sipush 1014, 3) := by decide +kernel
theorem dX5_comparison_25 : decode cX5_comparison 25 = .ok (.ireturn, 1) := by decide +kernel
theorem dX5_comparison_26 : decode cX5_comparison 26 = .ok (.aload_n 0, 1) := by decide +kernel
theorem dX5_comparison_27 : decode cX5_comparison 27 = .ok (.ldc 182, 2) := by decide +kernel
theorem dX5_comparison_29 : decode cX5_comparison 29 = .ok (.invokevirtual 75, 3) := by decide +kernel
theorem dX5_comparison_32 : decode cX5_comparison 32 = .ok (.sipush 1015, 3) := by decide +kernel
theorem dX5_comparison_35 : decode cX5_comparison 35 = .ok (.ireturn, 1) := by decide +kernel
def Reader_comparison  (h : Hp) (Q : Int32 → Hp → Prop) : Prop := Reader_take 18 h (fun r1 h2 => (r1 = 0 → Reader_take 19 h2 (fun r3 h4 => (r3 = 0 → Reader_expect 20 h4 (fun h5 => Q 1015 h5)) ∧ (¬ r3 = 0 → Q 1014 h4))) ∧ (¬ r1 = 0 → Q 1013 h2))
set_option maxHeartbeats 4000000 in
set_option maxRecDepth 20000 in
theorem c_Reader_comparison {G : Gx}   {h : Hp} {Q : Int32 → Hp → Prop} (hw : Reader_comparison  h Q) : Ct yX5_comparison cX5_comparison 1 (some .int) 10 G [.ref (gAd G 2)] h (QI G Q) := by
  refine ct_go [(0, .ref (gAd G 2))] (plainFor_of_name (by decide)) rfl (Nat.le_of_ble_eq_true rfl) rfl ?_
  refine g_aload_n dX5_comparison_0 rfl rfl ?_
  refine g_ldcS (i := 18) dX5_comparison_1 (by decide) rfl ?_
  refine g_callVI [.ref (gSa G 18)] (ci := 5) dX5_comparison_3 ml_X5_128 mk_X5_take rfl rfl sh2 (Nat.le_of_ble_eq_true rfl) (Nat.le_of_ble_eq_true rfl) rfl (c_Reader_take (by decide) hw) (fun r1 h2 hw => ?_)
  refine g_if_eq 13 dX5_comparison_6 rfl (fun hc => ?_) (fun hc => ?_)
  · have hw := hw.1 hc
    refine g_aload_n dX5_comparison_13 rfl rfl ?_
    refine g_ldcS (i := 19) dX5_comparison_14 (by decide) rfl ?_
    refine g_callVI [.ref (gSa G 19)] (ci := 5) dX5_comparison_16 ml_X5_128 mk_X5_take rfl rfl sh2 (Nat.le_of_ble_eq_true rfl) (Nat.le_of_ble_eq_true rfl) rfl (c_Reader_take (by decide) hw) (fun r3 h4 hw => ?_)
    refine g_if_eq 26 dX5_comparison_19 rfl (fun hc => ?_) (fun hc => ?_)
    · have hw := hw.1 hc
      refine g_aload_n dX5_comparison_26 rfl rfl ?_
      refine g_ldcS (i := 20) dX5_comparison_27 (by decide) rfl ?_
      refine g_callVV [.ref (gSa G 20)] (ci := 5) dX5_comparison_29 ml_X5_75 mk_X5_expect rfl rfl sh2 (Nat.le_of_ble_eq_true rfl) (Nat.le_of_ble_eq_true rfl) rfl (c_Reader_expect (by decide) hw) (fun h5 hw => ?_)
      refine g_sipush (v := 1015) dX5_comparison_32 (by decide) ?_
      exact g_iret dX5_comparison_35 hw
    · have hw := hw.2 hc
      refine g_sipush (v := 1014) dX5_comparison_22 (by decide) ?_
      exact g_iret dX5_comparison_25 hw
  · have hw := hw.2 hc
    refine g_sipush (v := 1013) dX5_comparison_9 (by decide) ?_
    exact g_iret dX5_comparison_12 hw
theorem dX5_nameCode_0 : decode cX5_nameCode 0 = .ok (.aload_n 0, 1) := by decide +kernel
theorem dX5_nameCode_1 : decode cX5_nameCode 1 = .ok (.getfield 12, 3) := by decide +kernel
theorem dX5_nameCode_4 : decode cX5_nameCode 4 = .ok (.ldc 214, 2) := by decide +kernel
theorem dX5_nameCode_6 : decode cX5_nameCode 6 = .ok (.invokevirtual 100, 3) := by decide +kernel
theorem dX5_nameCode_9 : decode cX5_nameCode 9 = .ok (.ifCond .eq 7, 3) := by decide +kernel
theorem dX5_nameCode_12 : decode cX5_nameCode 12 = .ok (.sipush 1000, 3) := by decide +kernel
theorem dX5_nameCode_15 : decode cX5_nameCode 15 = .ok (.ireturn, 1) := by decide +kernel
theorem dX5_nameCode_16 : decode cX5_nameCode 16 = .ok (.aload_n 0, 1) := by decide +kernel
theorem dX5_nameCode_17 : decode cX5_nameCode 17 = .ok (.getfield 12, 3) := by decide +kernel
theorem dX5_nameCode_20 : decode cX5_nameCode 20 = .ok (.ldc 215, 2) := by decide +kernel
theorem dX5_nameCode_22 : decode cX5_nameCode 22 = .ok (.invokevirtual 100, 3) := by decide +kernel
theorem dX5_nameCode_25 : decode cX5_nameCode 25 = .ok (.ifCond .eq 7, 3) := by decide +kernel
theorem dX5_nameCode_28 : decode cX5_nameCode 28 = .ok (.sipush 1001, 3) := by decide +kernel
theorem dX5_nameCode_31 : decode cX5_nameCode 31 = .ok (.ireturn, 1) := by decide +kernel
theorem dX5_nameCode_32 : decode cX5_nameCode 32 = .ok (.aload_n 0, 1) := by decide +kernel
theorem dX5_nameCode_33 : decode cX5_nameCode 33 = .ok (.getfield 12, 3) := by decide +kernel
theorem dX5_nameCode_36 : decode cX5_nameCode 36 = .ok (.ldc 216, 2) := by decide +kernel
theorem dX5_nameCode_38 : decode cX5_nameCode 38 = .ok (.invokevirtual 100, 3) := by decide +kernel
theorem dX5_nameCode_41 : decode cX5_nameCode 41 = .ok (.ifCond .eq 7, 3) := by decide +kernel
theorem dX5_nameCode_44 : decode cX5_nameCode 44 = .ok (.sipush 1002, 3) := by decide +kernel
theorem dX5_nameCode_47 : decode cX5_nameCode 47 = .ok (.ireturn, 1) := by decide +kernel
theorem dX5_nameCode_48 : decode cX5_nameCode 48 = .ok (.aload_n 0, 1) := by decide +kernel
theorem dX5_nameCode_49 : decode cX5_nameCode 49 = .ok (.getfield 12, 3) := by decide +kernel
theorem dX5_nameCode_52 : decode cX5_nameCode 52 = .ok (.ldc 122, 2) := by decide +kernel
theorem dX5_nameCode_54 : decode cX5_nameCode 54 = .ok (.invokevirtual 100, 3) := by decide +kernel
theorem dX5_nameCode_57 : decode cX5_nameCode 57 = .ok (.ifCond .eq 7, 3) := by decide +kernel
theorem dX5_nameCode_60 : decode cX5_nameCode 60 = .ok (.sipush 1003, 3) := by decide +kernel
theorem dX5_nameCode_63 : decode cX5_nameCode 63 = .ok (.ireturn, 1) := by decide +kernel
theorem dX5_nameCode_64 : decode cX5_nameCode 64 = .ok (.aload_n 0, 1) := by decide +kernel
theorem dX5_nameCode_65 : decode cX5_nameCode 65 = .ok (.getfield 12, 3) := by decide +kernel
theorem dX5_nameCode_68 : decode cX5_nameCode 68 = .ok (.ldc 79, 2) := by decide +kernel
theorem dX5_nameCode_70 : decode cX5_nameCode 70 = .ok (.invokevirtual 100, 3) := by decide +kernel
theorem dX5_nameCode_73 : decode cX5_nameCode 73 = .ok (.ifCond .eq 9, 3) := by decide +kernel
theorem dX5_nameCode_76 : decode cX5_nameCode 76 = .ok (.sipush 1004, 3) := by decide +kernel
theorem dX5_nameCode_79 : decode cX5_nameCode 79 = .ok (.goto 4, 3) := by decide +kernel
theorem dX5_nameCode_82 : decode cX5_nameCode 82 = .ok (.iconst (-1), 1) := by decide +kernel
theorem dX5_nameCode_83 : decode cX5_nameCode 83 = .ok (.ireturn, 1) := by decide +kernel
def Reader_nameCode  (h : Hp) (Q : Int32 → Hp → Prop) : Prop := Tokens_is 26 h (fun r1 h2 => (r1 = 0 → Tokens_is 27 h2 (fun r3 h4 => (r3 = 0 → Tokens_is 28 h4 (fun r5 h6 => (r5 = 0 → Tokens_is 7 h6 (fun r7 h8 => (r7 = 0 → Tokens_is 2 h8 (fun r9 h10 => (r9 = 0 → Q (-1) h10) ∧ (¬ r9 = 0 → Q 1004 h10))) ∧ (¬ r7 = 0 → Q 1003 h8))) ∧ (¬ r5 = 0 → Q 1002 h6))) ∧ (¬ r3 = 0 → Q 1001 h4))) ∧ (¬ r1 = 0 → Q 1000 h2))
set_option maxHeartbeats 4000000 in
set_option maxRecDepth 20000 in
theorem c_Reader_nameCode {G : Gx}   {h : Hp} {Q : Int32 → Hp → Prop} (hw : Reader_nameCode  h Q) : Ct yX5_nameCode cX5_nameCode 1 (some .int) 7 G [.ref (gAd G 2)] h (QI G Q) := by
  refine ct_go [(0, .ref (gAd G 2))] (plainFor_of_name (by decide)) rfl (Nat.le_of_ble_eq_true rfl) rfl ?_
  refine g_aload_n dX5_nameCode_0 rfl rfl ?_
  refine g_getO dX5_nameCode_1 fl_X5_12 sh2 rfl ?_
  refine g_ldcS (i := 26) dX5_nameCode_4 (by decide) rfl ?_
  refine g_callVI [.ref (gSa G 26)] (ci := 9) dX5_nameCode_6 ml_X5_100 mk_X9_is rfl rfl sh3 (Nat.le_of_ble_eq_true rfl) (Nat.le_of_ble_eq_true rfl) rfl (c_Tokens_is (by decide) hw) (fun r1 h2 hw => ?_)
  refine g_if_eq 16 dX5_nameCode_9 rfl (fun hc => ?_) (fun hc => ?_)
  · have hw := hw.1 hc
    refine g_aload_n dX5_nameCode_16 rfl rfl ?_
    refine g_getO dX5_nameCode_17 fl_X5_12 sh2 rfl ?_
    refine g_ldcS (i := 27) dX5_nameCode_20 (by decide) rfl ?_
    refine g_callVI [.ref (gSa G 27)] (ci := 9) dX5_nameCode_22 ml_X5_100 mk_X9_is rfl rfl sh3 (Nat.le_of_ble_eq_true rfl) (Nat.le_of_ble_eq_true rfl) rfl (c_Tokens_is (by decide) hw) (fun r3 h4 hw => ?_)
    refine g_if_eq 32 dX5_nameCode_25 rfl (fun hc => ?_) (fun hc => ?_)
    · have hw := hw.1 hc
      refine g_aload_n dX5_nameCode_32 rfl rfl ?_
      refine g_getO dX5_nameCode_33 fl_X5_12 sh2 rfl ?_
      refine g_ldcS (i := 28) dX5_nameCode_36 (by decide) rfl ?_
      refine g_callVI [.ref (gSa G 28)] (ci := 9) dX5_nameCode_38 ml_X5_100 mk_X9_is rfl rfl sh3 (Nat.le_of_ble_eq_true rfl) (Nat.le_of_ble_eq_true rfl) rfl (c_Tokens_is (by decide) hw) (fun r5 h6 hw => ?_)
      refine g_if_eq 48 dX5_nameCode_41 rfl (fun hc => ?_) (fun hc => ?_)
      · have hw := hw.1 hc
        refine g_aload_n dX5_nameCode_48 rfl rfl ?_
        refine g_getO dX5_nameCode_49 fl_X5_12 sh2 rfl ?_
        refine g_ldcS (i := 7) dX5_nameCode_52 (by decide) rfl ?_
        refine g_callVI [.ref (gSa G 7)] (ci := 9) dX5_nameCode_54 ml_X5_100 mk_X9_is rfl rfl sh3 (Nat.le_of_ble_eq_true rfl) (Nat.le_of_ble_eq_true rfl) rfl (c_Tokens_is (by decide) hw) (fun r7 h8 hw => ?_)
        refine g_if_eq 64 dX5_nameCode_57 rfl (fun hc => ?_) (fun hc => ?_)
        · have hw := hw.1 hc
          refine g_aload_n dX5_nameCode_64 rfl rfl ?_
          refine g_getO dX5_nameCode_65 fl_X5_12 sh2 rfl ?_
          refine g_ldcS (i := 2) dX5_nameCode_68 (by decide) rfl ?_
          refine g_callVI [.ref (gSa G 2)] (ci := 9) dX5_nameCode_70 ml_X5_100 mk_X9_is rfl rfl sh3 (Nat.le_of_ble_eq_true rfl) (Nat.le_of_ble_eq_true rfl) rfl (c_Tokens_is (by decide) hw) (fun r9 h10 hw => ?_)
          refine g_if_eq 82 dX5_nameCode_73 rfl (fun hc => ?_) (fun hc => ?_)
          · have hw := hw.1 hc
            refine g_iconst (v := (-1)) dX5_nameCode_82 (by decide) ?_
            exact g_iret dX5_nameCode_83 hw
          · have hw := hw.2 hc
            refine g_sipush (v := 1004) dX5_nameCode_76 (by decide) ?_
            refine g_goto 83 dX5_nameCode_79 rfl ?_
            exact g_iret dX5_nameCode_83 hw
        · have hw := hw.2 hc
          refine g_sipush (v := 1003) dX5_nameCode_60 (by decide) ?_
          exact g_iret dX5_nameCode_63 hw
      · have hw := hw.2 hc
        refine g_sipush (v := 1002) dX5_nameCode_44 (by decide) ?_
        exact g_iret dX5_nameCode_47 hw
    · have hw := hw.2 hc
      refine g_sipush (v := 1001) dX5_nameCode_28 (by decide) ?_
      exact g_iret dX5_nameCode_31 hw
  · have hw := hw.2 hc
    refine g_sipush (v := 1000) dX5_nameCode_12 (by decide) ?_
    exact g_iret dX5_nameCode_15 hw
theorem dX5_unit_0 : decode cX5_unit 0 = .ok (.aload_n 0, 1) := by decide +kernel
theorem dX5_unit_1 : decode cX5_unit 1 = .ok (.getfield 60, 3) := by decide +kernel
theorem dX5_unit_4 : decode cX5_unit 4 = .ok (.ifCond .eq 4, 3) := by decide +kernel
theorem dX5_unit_7 : decode cX5_unit 7 = .ok (.return_, 1) := by decide +kernel
theorem dX5_unit_8 : decode cX5_unit 8 = .ok (.aload_n 0, 1) := by decide +kernel
theorem dX5_unit_9 : decode cX5_unit 9 = .ok (.getfield 12, 3) := by decide +kernel
theorem dX5_unit_12 : decode cX5_unit 12 = .ok (.ldc 164, 2) := by decide +kernel
theorem dX5_unit_14 : decode cX5_unit 14 = .ok (.invokevirtual 100, 3) := by decide +kernel
theorem dX5_unit_17 : decode cX5_unit 17 = .ok (.ifCond .eq 38, 3) := by decide +kernel
theorem dX5_unit_20 : decode cX5_unit 20 = .ok (.aload_n 0, 1) := by decide +kernel
theorem dX5_unit_21 : decode cX5_unit 21 = .ok (.iload_n 1, 1) := by decide +kernel
theorem dX5_unit_22 : decode cX5_unit 22 = .ok (.invokevirtual 166, 3) := by decide +kernel
theorem dX5_unit_25 : decode cX5_unit 25 = .ok (.ifCond .eq 96, 3) := by decide +kernel
theorem dX5_unit_28 : decode cX5_unit 28 = .ok (.aload_n 0, 1) := by decide +kernel
theorem dX5_unit_29 : decode cX5_unit 29 = .ok (.getfield 12, 3) := by decide +kernel
theorem dX5_unit_32 : decode cX5_unit 32 = .ok (.invokevirtual 104, 3) := by decide +kernel
theorem dX5_unit_35 : decode cX5_unit 35 = .ok (.aload_n 0, 1) := by decide +kernel
theorem dX5_unit_36 : decode cX5_unit 36 = .ok (.iload_n 1, 1) := by decide +kernel
theorem dX5_unit_37 : decode cX5_unit 37 = .ok (.iconst 1, 1) := by decide +kernel
theorem dX5_unit_38 : decode cX5_unit 38 = .ok (.iadd, 1) := by decide +kernel
theorem dX5_unit_39 : decode cX5_unit 39 = .ok (.invokevirtual 159, 3) := by decide +kernel
theorem dX5_unit_42 : decode cX5_unit 42 = .ok (.aload_n 0, 1) := by decide +kernel
theorem dX5_unit_43 : decode cX5_unit 43 = .ok (.getfield 28, 3) := by decide +kernel
theorem dX5_unit_46 : decode cX5_unit 46 = .ok (.sipush 1018, 3) := by decide +kernel
theorem dX5_unit_49 : decode cX5_unit 49 = .ok (.invokevirtual 156, 3) := by decide +kernel
theorem dX5_unit_52 : decode cX5_unit 52 = .ok (.goto 69, 3) := by decide +kernel
theorem dX5_unit_55 : decode cX5_unit 55 = .ok (.aload_n 0, 1) := by decide +kernel
theorem dX5_unit_56 : decode cX5_unit 56 = .ok (.getfield 12, 3) := by decide +kernel
theorem dX5_unit_59 : decode cX5_unit 59 = .ok (.ldc 170, 2) := by decide +kernel
theorem dX5_unit_61 : decode cX5_unit 61 = .ok (.invokevirtual 100, 3) := by decide +kernel
theorem dX5_unit_64 : decode cX5_unit 64 = .ok (.ifCond .eq 34, 3) := by decide +kernel
theorem dX5_unit_67 : decode cX5_unit 67 = .ok (.aload_n 0, 1) := by decide +kernel
theorem dX5_unit_68 : decode cX5_unit 68 = .ok (.iload_n 1, 1) := by decide +kernel
theorem dX5_unit_69 : decode cX5_unit 69 = .ok (.invokevirtual 166, 3) := by decide +kernel
theorem dX5_unit_72 : decode cX5_unit 72 = .ok (.ifCond .eq 49, 3) := by decide +kernel
theorem dX5_unit_75 : decode cX5_unit 75 = .ok (.aload_n 0, 1) := by decide +kernel
theorem dX5_unit_76 : decode cX5_unit 76 = .ok (.getfield 12, 3) := by decide +kernel
theorem dX5_unit_79 : decode cX5_unit 79 = .ok (.invokevirtual 104, 3) := by decide +kernel
theorem dX5_unit_82 : decode cX5_unit 82 = .ok (.aload_n 0, 1) := by decide +kernel
theorem dX5_unit_83 : decode cX5_unit 83 = .ok (.iload_n 1, 1) := by decide +kernel
theorem dX5_unit_84 : decode cX5_unit 84 = .ok (.iconst 1, 1) := by decide +kernel
theorem dX5_unit_85 : decode cX5_unit 85 = .ok (.iadd, 1) := by decide +kernel
theorem dX5_unit_86 : decode cX5_unit 86 = .ok (.invokevirtual 139, 3) := by decide +kernel
theorem dX5_unit_89 : decode cX5_unit 89 = .ok (.aload_n 0, 1) := by decide +kernel
theorem dX5_unit_90 : decode cX5_unit 90 = .ok (.ldc 172, 2) := by decide +kernel
theorem dX5_unit_92 : decode cX5_unit 92 = .ok (.invokevirtual 75, 3) := by decide +kernel
theorem dX5_unit_95 : decode cX5_unit 95 = .ok (.goto 26, 3) := by decide +kernel
theorem dX5_unit_98 : decode cX5_unit 98 = .ok (.aload_n 0, 1) := by decide +kernel
theorem dX5_unit_99 : decode cX5_unit 99 = .ok (.iload_n 1, 1) := by decide +kernel
theorem dX5_unit_100 : decode cX5_unit 100 = .ok (.invokevirtual 135, 3) := by decide +kernel
theorem dX5_unit_103 : decode cX5_unit 103 = .ok (.aload_n 0, 1) := by decide +kernel
theorem dX5_unit_104 : decode cX5_unit 104 = .ok (.invokevirtual 174, 3) := by decide +kernel
theorem dX5_unit_107 : decode cX5_unit 107 = .ok (.istore_n 2, 1) := by decide +kernel
theorem dX5_unit_108 : decode cX5_unit 108 = .ok (.aload_n 0, 1) := by decide +kernel
theorem dX5_unit_109 : decode cX5_unit 109 = .ok (.iload_n 1, 1) := by decide +kernel
theorem dX5_unit_110 : decode cX5_unit 110 = .ok (.invokevirtual 135, 3) := by decide +kernel
theorem dX5_unit_113 : decode cX5_unit 113 = .ok (.aload_n 0, 1) := by decide +kernel
theorem dX5_unit_114 : decode cX5_unit 114 = .ok (.getfield 28, 3) := by decide +kernel
theorem dX5_unit_117 : decode cX5_unit 117 = .ok (.iload_n 2, 1) := by decide +kernel
theorem dX5_unit_118 : decode cX5_unit 118 = .ok (.invokevirtual 156, 3) := by decide +kernel
theorem dX5_unit_121 : decode cX5_unit 121 = .ok (.return_, 1) := by decide +kernel
theorem ml_X5_135 : Cond.methodLink RX5 135 yX5_sum ∈ Wd := mW 628 (by decide +kernel) rfl
theorem mk_X5_sum : MokV yX5_sum cX5_sum 4 none 1 := ⟨⟨mW 2 (by decide +kernel) rfl, mW 631 (by decide +kernel) rfl, ⟨by decide, by decide, by decide +kernel⟩, by decide⟩, mW 630 (by decide +kernel) rfl, mS (q := (yX5_sum, 15)) 9 (by decide +kernel)⟩
theorem ml_X5_174 : Cond.methodLink RX5 174 yX5_comparison ∈ Wd := mW 670 (by decide +kernel) rfl
theorem mk_X5_comparison : MokV yX5_comparison cX5_comparison 1 (some .int) 0 := ⟨⟨mW 2 (by decide +kernel) rfl, mW 673 (by decide +kernel) rfl, ⟨by decide, by decide, by decide +kernel⟩, by decide⟩, mW 672 (by decide +kernel) rfl, mS (q := (yX5_comparison, 15)) 17 (by decide +kernel)⟩
theorem ml_X5_156 : Cond.methodLink RX5 156 yX3_add ∈ Wd := mW 640 (by decide +kernel) rfl
theorem mk_X3_add : MokV yX3_add cX3_add 2 none 1 := ⟨⟨mW 4 (by decide +kernel) rfl, mW 643 (by decide +kernel) rfl, ⟨by decide, by decide, by decide +kernel⟩, by decide⟩, mW 641 (by decide +kernel) rfl, mW 642 (by decide +kernel) rfl⟩
theorem ml_X5_166 : Cond.methodLink RX5 166 yX5_mayDeepen ∈ Wd := mW 645 (by decide +kernel) rfl
theorem mk_X5_mayDeepen : MokV yX5_mayDeepen cX5_mayDeepen 2 (some .boolean) 1 := ⟨⟨mW 2 (by decide +kernel) rfl, mW 648 (by decide +kernel) rfl, ⟨by decide, by decide, by decide +kernel⟩, by decide⟩, mW 647 (by decide +kernel) rfl, mS (q := (yX5_mayDeepen, 15)) 12 (by decide +kernel)⟩
theorem ml_X5_139 : Cond.methodLink RX5 139 yX5_truth ∈ Wd := mW 655 (by decide +kernel) rfl
theorem mk_X5_truth : MokV yX5_truth cX5_truth 3 none 1 := ⟨⟨mW 2 (by decide +kernel) rfl, mW 658 (by decide +kernel) rfl, ⟨by decide, by decide, by decide +kernel⟩, by decide⟩, mW 657 (by decide +kernel) rfl, mS (q := (yX5_truth, 15)) 14 (by decide +kernel)⟩
theorem ml_X5_159 : Cond.methodLink RX5 159 yX5_unit ∈ Wd := mW 663 (by decide +kernel) rfl
theorem mk_X5_unit : MokV yX5_unit cX5_unit 3 none 1 := ⟨⟨mW 2 (by decide +kernel) rfl, mW 666 (by decide +kernel) rfl, ⟨by decide, by decide, by decide +kernel⟩, by decide⟩, mW 665 (by decide +kernel) rfl, mS (q := (yX5_unit, 15)) 16 (by decide +kernel)⟩
def Reader_unit_B  (R_atom : Int32 → Hp → (Hp → Prop) → Prop) (R_both : Int32 → Hp → (Hp → Prop) → Prop) (R_choice : Int32 → Hp → (Hp → Prop) → Prop) (R_sum : Int32 → Hp → (Hp → Prop) → Prop) (R_term : Int32 → Hp → (Hp → Prop) → Prop) (R_truth : Int32 → Hp → (Hp → Prop) → Prop) (R_unit : Int32 → Hp → (Hp → Prop) → Prop) (x1 : Int32) (h : Hp) (Q : Hp → Prop) : Prop := ((gI h 2 13) = 0 → Tokens_is 15 h (fun r1 h2 => (r1 = 0 → Tokens_is 16 h2 (fun r3 h4 => (r3 = 0 → R_sum x1 h4 (fun h5 => Reader_comparison  h5 (fun r6 h7 => R_sum x1 h7 (fun h8 => ∃ q9, gR h8 1 = some q9 ∧ SH q9 = .inl 3 ∧ Law_add q9 r6 h8 (fun h10 => Q h10))))) ∧ (¬ r3 = 0 → Reader_mayDeepen x1 h4 (fun r11 h12 => (r11 = 0 → Q h12) ∧ (¬ r11 = 0 → Tokens_advance  h12 (fun h13 => R_truth (x1 + 1) h13 (fun h14 => Reader_expect 17 h14 (fun h15 => Q h15)))))))) ∧ (¬ r1 = 0 → Reader_mayDeepen x1 h2 (fun r16 h17 => (r16 = 0 → Q h17) ∧ (¬ r16 = 0 → Tokens_advance  h17 (fun h18 => R_unit (x1 + 1) h18 (fun h19 => ∃ q20, gR h19 1 = some q20 ∧ SH q20 = .inl 3 ∧ Law_add q20 1018 h19 (fun h21 => Q h21)))))))) ∧ (¬ (gI h 2 13) = 0 → Q h)
set_option maxHeartbeats 4000000 in
set_option maxRecDepth 20000 in
theorem cb_Reader_unit {G : Gx}  {d d1 : Nat} (hdd : d1 + 1 ≤ d) (hD : 11 ≤ d) {R_atom : Int32 → Hp → (Hp → Prop) → Prop} {R_both : Int32 → Hp → (Hp → Prop) → Prop} {R_choice : Int32 → Hp → (Hp → Prop) → Prop} {R_sum : Int32 → Hp → (Hp → Prop) → Prop} {R_term : Int32 → Hp → (Hp → Prop) → Prop} {R_truth : Int32 → Hp → (Hp → Prop) → Prop} {R_unit : Int32 → Hp → (Hp → Prop) → Prop} (hR_atom : ∀ (y0 : Int32) (h : Hp) (Q : Hp → Prop), R_atom y0 h Q → Ct yX5_atom cX5_atom 2 none d1 G [.ref (gAd G 2), .int y0] h (QV G Q)) (hR_both : ∀ (y0 : Int32) (h : Hp) (Q : Hp → Prop), R_both y0 h Q → Ct yX5_both cX5_both 3 none d1 G [.ref (gAd G 2), .int y0] h (QV G Q)) (hR_choice : ∀ (y0 : Int32) (h : Hp) (Q : Hp → Prop), R_choice y0 h Q → Ct yX5_choice cX5_choice 2 none d1 G [.ref (gAd G 2), .int y0] h (QV G Q)) (hR_sum : ∀ (y0 : Int32) (h : Hp) (Q : Hp → Prop), R_sum y0 h Q → Ct yX5_sum cX5_sum 4 none d1 G [.ref (gAd G 2), .int y0] h (QV G Q)) (hR_term : ∀ (y0 : Int32) (h : Hp) (Q : Hp → Prop), R_term y0 h Q → Ct yX5_term cX5_term 3 none d1 G [.ref (gAd G 2), .int y0] h (QV G Q)) (hR_truth : ∀ (y0 : Int32) (h : Hp) (Q : Hp → Prop), R_truth y0 h Q → Ct yX5_truth cX5_truth 3 none d1 G [.ref (gAd G 2), .int y0] h (QV G Q)) (hR_unit : ∀ (y0 : Int32) (h : Hp) (Q : Hp → Prop), R_unit y0 h Q → Ct yX5_unit cX5_unit 3 none d1 G [.ref (gAd G 2), .int y0] h (QV G Q)) {x1 : Int32} {h : Hp} {Q : Hp → Prop} (hw : Reader_unit_B  R_atom R_both R_choice R_sum R_term R_truth R_unit x1 h Q) : Ct yX5_unit cX5_unit 3 none d G [.ref (gAd G 2), .int x1] h (QV G Q) := by
  refine ct_go [(0, .ref (gAd G 2)), (1, .int x1)] (plainFor_of_name (by decide)) rfl (Nat.le_of_ble_eq_true rfl) rfl ?_
  refine g_aload_n dX5_unit_0 rfl rfl ?_
  refine g_getI dX5_unit_1 fl_X5_60 sh2 rfl ?_
  refine g_if_eq 8 dX5_unit_4 rfl (fun hc => ?_) (fun hc => ?_)
  · have hw := hw.1 hc
    refine g_aload_n dX5_unit_8 rfl rfl ?_
    refine g_getO dX5_unit_9 fl_X5_12 sh2 rfl ?_
    refine g_ldcS (i := 15) dX5_unit_12 (by decide) rfl ?_
    refine g_callVI [.ref (gSa G 15)] (ci := 9) dX5_unit_14 ml_X5_100 mk_X9_is rfl rfl sh3 (by omega) (Nat.le_of_ble_eq_true rfl) rfl (c_Tokens_is (by decide) hw) (fun r1 h2 hw => ?_)
    refine g_if_eq 55 dX5_unit_17 rfl (fun hc => ?_) (fun hc => ?_)
    · have hw := hw.1 hc
      refine g_aload_n dX5_unit_55 rfl rfl ?_
      refine g_getO dX5_unit_56 fl_X5_12 sh2 rfl ?_
      refine g_ldcS (i := 16) dX5_unit_59 (by decide) rfl ?_
      refine g_callVI [.ref (gSa G 16)] (ci := 9) dX5_unit_61 ml_X5_100 mk_X9_is rfl rfl sh3 (by omega) (Nat.le_of_ble_eq_true rfl) rfl (c_Tokens_is (by decide) hw) (fun r3 h4 hw => ?_)
      refine g_if_eq 98 dX5_unit_64 rfl (fun hc => ?_) (fun hc => ?_)
      · have hw := hw.1 hc
        refine g_aload_n dX5_unit_98 rfl rfl ?_
        refine g_iload_n dX5_unit_99 rfl rfl ?_
        refine g_callVV [.int x1] (ci := 5) dX5_unit_100 ml_X5_135 mk_X5_sum rfl rfl sh2 hdd (Nat.le_of_ble_eq_true rfl) rfl (hR_sum _ _ _ hw) (fun h5 hw => ?_)
        refine g_aload_n dX5_unit_103 rfl rfl ?_
        refine g_callVI [] (ci := 5) dX5_unit_104 ml_X5_174 mk_X5_comparison rfl rfl sh2 (by omega) (Nat.le_of_ble_eq_true rfl) rfl (c_Reader_comparison hw) (fun r6 h7 hw => ?_)
        refine g_istore_n dX5_unit_107 rfl (by decide) (lv1 := [(0, .ref (gAd G 2)), (1, .int x1), (2, .int r6)]) rfl ?_
        refine g_aload_n dX5_unit_108 rfl rfl ?_
        refine g_iload_n dX5_unit_109 rfl rfl ?_
        refine g_callVV [.int x1] (ci := 5) dX5_unit_110 ml_X5_135 mk_X5_sum rfl rfl sh2 hdd (Nat.le_of_ble_eq_true rfl) rfl (hR_sum _ _ _ hw) (fun h8 hw => ?_)
        refine g_aload_n dX5_unit_113 rfl rfl ?_
        obtain ⟨q9, hqq9, hsq9, hw⟩ := hw
        refine g_getM dX5_unit_114 fl_X5_28 sh2 rfl hqq9 ?_
        refine g_iload_n dX5_unit_117 rfl rfl ?_
        refine g_callVV [.int r6] (ci := 3) dX5_unit_118 ml_X5_156 mk_X3_add rfl rfl hsq9 (by omega) (Nat.le_of_ble_eq_true rfl) rfl (c_Law_add hsq9 hw) (fun h10 hw => ?_)
        exact g_vret dX5_unit_121 hw
      · have hw := hw.2 hc
        refine g_aload_n dX5_unit_67 rfl rfl ?_
        refine g_iload_n dX5_unit_68 rfl rfl ?_
        refine g_callVI [.int x1] (ci := 5) dX5_unit_69 ml_X5_166 mk_X5_mayDeepen rfl rfl sh2 (by omega) (Nat.le_of_ble_eq_true rfl) rfl (c_Reader_mayDeepen hw) (fun r11 h12 hw => ?_)
        refine g_if_eq 121 dX5_unit_72 rfl (fun hc => ?_) (fun hc => ?_)
        · have hw := hw.1 hc
          exact g_vret dX5_unit_121 hw
        · have hw := hw.2 hc
          refine g_aload_n dX5_unit_75 rfl rfl ?_
          refine g_getO dX5_unit_76 fl_X5_12 sh2 rfl ?_
          refine g_callVV [] (ci := 9) dX5_unit_79 ml_X5_104 mk_X9_advance rfl rfl sh3 (by omega) (Nat.le_of_ble_eq_true rfl) rfl (c_Tokens_advance hw) (fun h13 hw => ?_)
          refine g_aload_n dX5_unit_82 rfl rfl ?_
          refine g_iload_n dX5_unit_83 rfl rfl ?_
          refine g_iconst (v := 1) dX5_unit_84 (by decide) ?_
          refine g_iadd dX5_unit_85 ?_
          refine g_callVV [.int (x1 + 1)] (ci := 5) dX5_unit_86 ml_X5_139 mk_X5_truth rfl rfl sh2 hdd (Nat.le_of_ble_eq_true rfl) rfl (hR_truth _ _ _ hw) (fun h14 hw => ?_)
          refine g_aload_n dX5_unit_89 rfl rfl ?_
          refine g_ldcS (i := 17) dX5_unit_90 (by decide) rfl ?_
          refine g_callVV [.ref (gSa G 17)] (ci := 5) dX5_unit_92 ml_X5_75 mk_X5_expect rfl rfl sh2 (by omega) (Nat.le_of_ble_eq_true rfl) rfl (c_Reader_expect (by decide) hw) (fun h15 hw => ?_)
          refine g_goto 121 dX5_unit_95 rfl ?_
          exact g_vret dX5_unit_121 hw
    · have hw := hw.2 hc
      refine g_aload_n dX5_unit_20 rfl rfl ?_
      refine g_iload_n dX5_unit_21 rfl rfl ?_
      refine g_callVI [.int x1] (ci := 5) dX5_unit_22 ml_X5_166 mk_X5_mayDeepen rfl rfl sh2 (by omega) (Nat.le_of_ble_eq_true rfl) rfl (c_Reader_mayDeepen hw) (fun r16 h17 hw => ?_)
      refine g_if_eq 121 dX5_unit_25 rfl (fun hc => ?_) (fun hc => ?_)
      · have hw := hw.1 hc
        exact g_vret dX5_unit_121 hw
      · have hw := hw.2 hc
        refine g_aload_n dX5_unit_28 rfl rfl ?_
        refine g_getO dX5_unit_29 fl_X5_12 sh2 rfl ?_
        refine g_callVV [] (ci := 9) dX5_unit_32 ml_X5_104 mk_X9_advance rfl rfl sh3 (by omega) (Nat.le_of_ble_eq_true rfl) rfl (c_Tokens_advance hw) (fun h18 hw => ?_)
        refine g_aload_n dX5_unit_35 rfl rfl ?_
        refine g_iload_n dX5_unit_36 rfl rfl ?_
        refine g_iconst (v := 1) dX5_unit_37 (by decide) ?_
        refine g_iadd dX5_unit_38 ?_
        refine g_callVV [.int (x1 + 1)] (ci := 5) dX5_unit_39 ml_X5_159 mk_X5_unit rfl rfl sh2 hdd (Nat.le_of_ble_eq_true rfl) rfl (hR_unit _ _ _ hw) (fun h19 hw => ?_)
        refine g_aload_n dX5_unit_42 rfl rfl ?_
        obtain ⟨q20, hqq20, hsq20, hw⟩ := hw
        refine g_getM dX5_unit_43 fl_X5_28 sh2 rfl hqq20 ?_
        refine g_sipush (v := 1018) dX5_unit_46 (by decide) ?_
        refine g_callVV [.int 1018] (ci := 3) dX5_unit_49 ml_X5_156 mk_X3_add rfl rfl hsq20 (by omega) (Nat.le_of_ble_eq_true rfl) rfl (c_Law_add hsq20 hw) (fun h21 hw => ?_)
        refine g_goto 121 dX5_unit_52 rfl ?_
        exact g_vret dX5_unit_121 hw
  · have hw := hw.2 hc
    exact g_vret dX5_unit_7 hw
theorem dX5_both_0 : decode cX5_both 0 = .ok (.aload_n 0, 1) := by decide +kernel
theorem dX5_both_1 : decode cX5_both 1 = .ok (.iload_n 1, 1) := by decide +kernel
theorem dX5_both_2 : decode cX5_both 2 = .ok (.invokevirtual 159, 3) := by decide +kernel
theorem dX5_both_5 : decode cX5_both 5 = .ok (.iconst 0, 1) := by decide +kernel
theorem dX5_both_6 : decode cX5_both 6 = .ok (.istore_n 2, 1) := by decide +kernel
theorem dX5_both_7 : decode cX5_both 7 = .ok (.iload_n 2, 1) := by decide +kernel
theorem dX5_both_8 : decode cX5_both 8 = .ok (.sipush 900, 3) := by decide +kernel
theorem dX5_both_11 : decode cX5_both 11 = .ok (.if_icmp .ge 33, 3) := by decide +kernel
theorem dX5_both_14 : decode cX5_both 14 = .ok (.aload_n 0, 1) := by decide +kernel
theorem dX5_both_15 : decode cX5_both 15 = .ok (.ldc 162, 2) := by decide +kernel
theorem dX5_both_17 : decode cX5_both 17 = .ok (.invokevirtual 128, 3) := by decide +kernel
theorem dX5_both_20 : decode cX5_both 20 = .ok (.ifCond .eq 24, 3) := by decide +kernel
theorem dX5_both_23 : decode cX5_both 23 = .ok (.aload_n 0, 1) := by decide +kernel
theorem dX5_both_24 : decode cX5_both 24 = .ok (.iload_n 1, 1) := by decide +kernel
theorem dX5_both_25 : decode cX5_both 25 = .ok (.invokevirtual 159, 3) := by decide +kernel
theorem dX5_both_28 : decode cX5_both 28 = .ok (.aload_n 0, 1) := by decide +kernel
theorem dX5_both_29 : decode cX5_both 29 = .ok (.getfield 28, 3) := by decide +kernel
theorem dX5_both_32 : decode cX5_both 32 = .ok (.sipush 1016, 3) := by decide +kernel
theorem dX5_both_35 : decode cX5_both 35 = .ok (.invokevirtual 156, 3) := by decide +kernel
theorem dX5_both_38 : decode cX5_both 38 = .ok (.iinc 2 1, 3) := by decide +kernel
theorem dX5_both_41 : decode cX5_both 41 = .ok (.goto (-34), 3) := by decide +kernel
theorem dX5_both_44 : decode cX5_both 44 = .ok (.return_, 1) := by decide +kernel
def Reader_both_L7 (x1 : Int32) (R_atom : Int32 → Hp → (Hp → Prop) → Prop) (R_both : Int32 → Hp → (Hp → Prop) → Prop) (R_choice : Int32 → Hp → (Hp → Prop) → Prop) (R_sum : Int32 → Hp → (Hp → Prop) → Prop) (R_term : Int32 → Hp → (Hp → Prop) → Prop) (R_truth : Int32 → Hp → (Hp → Prop) → Prop) (R_unit : Int32 → Hp → (Hp → Prop) → Prop) (Q : Hp → Prop) : Nat → Int32 → Hp → Prop
  | 0, _, _ => False
  | n + 1, x2, h => (900 ≤ x2 → Q h) ∧ (¬ 900 ≤ x2 → Reader_take 21 h (fun r2 h3 => (r2 = 0 → Q h3) ∧ (¬ r2 = 0 → R_unit x1 h3 (fun h4 => ∃ q5, gR h4 1 = some q5 ∧ SH q5 = .inl 3 ∧ Law_add q5 1016 h4 (fun h6 => ∀ v7 : Int32, v7 = (x2 + 1) → Reader_both_L7 x1 R_atom R_both R_choice R_sum R_term R_truth R_unit Q n v7 h6)))))
set_option maxHeartbeats 4000000 in
set_option maxRecDepth 20000 in
theorem gl_Reader_both_L7 {G : Gx}  {d d1 : Nat} (hdd : d1 + 1 ≤ d) (hD : 11 ≤ d) {R_atom : Int32 → Hp → (Hp → Prop) → Prop} {R_both : Int32 → Hp → (Hp → Prop) → Prop} {R_choice : Int32 → Hp → (Hp → Prop) → Prop} {R_sum : Int32 → Hp → (Hp → Prop) → Prop} {R_term : Int32 → Hp → (Hp → Prop) → Prop} {R_truth : Int32 → Hp → (Hp → Prop) → Prop} {R_unit : Int32 → Hp → (Hp → Prop) → Prop} (hR_atom : ∀ (y0 : Int32) (h : Hp) (Q : Hp → Prop), R_atom y0 h Q → Ct yX5_atom cX5_atom 2 none d1 G [.ref (gAd G 2), .int y0] h (QV G Q)) (hR_both : ∀ (y0 : Int32) (h : Hp) (Q : Hp → Prop), R_both y0 h Q → Ct yX5_both cX5_both 3 none d1 G [.ref (gAd G 2), .int y0] h (QV G Q)) (hR_choice : ∀ (y0 : Int32) (h : Hp) (Q : Hp → Prop), R_choice y0 h Q → Ct yX5_choice cX5_choice 2 none d1 G [.ref (gAd G 2), .int y0] h (QV G Q)) (hR_sum : ∀ (y0 : Int32) (h : Hp) (Q : Hp → Prop), R_sum y0 h Q → Ct yX5_sum cX5_sum 4 none d1 G [.ref (gAd G 2), .int y0] h (QV G Q)) (hR_term : ∀ (y0 : Int32) (h : Hp) (Q : Hp → Prop), R_term y0 h Q → Ct yX5_term cX5_term 3 none d1 G [.ref (gAd G 2), .int y0] h (QV G Q)) (hR_truth : ∀ (y0 : Int32) (h : Hp) (Q : Hp → Prop), R_truth y0 h Q → Ct yX5_truth cX5_truth 3 none d1 G [.ref (gAd G 2), .int y0] h (QV G Q)) (hR_unit : ∀ (y0 : Int32) (h : Hp) (Q : Hp → Prop), R_unit y0 h Q → Ct yX5_unit cX5_unit 3 none d1 G [.ref (gAd G 2), .int y0] h (QV G Q)) {x1 : Int32} {Q : Hp → Prop} : ∀ (n : Nat) (x2 : Int32) (h : Hp), Reader_both_L7 x1 R_atom R_both R_choice R_sum R_term R_truth R_unit Q n x2 h → Go cX5_both 3 RX5 none d G (QV G Q) 7 [(0, .ref (gAd G 2)), (1, .int x1), (2, .int x2)] [] h := by
  intro n
  induction n with
  | zero => intro _ h hw; exact False.elim hw
  | succ n ih =>
    intro x2 h hw
    refine g_iload_n dX5_both_7 rfl rfl ?_
    refine g_sipush (v := 900) dX5_both_8 (by decide) ?_
    refine g_icmp_ge 44 dX5_both_11 rfl (fun hc => ?_) (fun hc => ?_)
    · have hw := hw.1 hc
      exact g_vret dX5_both_44 hw
    · have hw := hw.2 hc
      refine g_aload_n dX5_both_14 rfl rfl ?_
      refine g_ldcS (i := 21) dX5_both_15 (by decide) rfl ?_
      refine g_callVI [.ref (gSa G 21)] (ci := 5) dX5_both_17 ml_X5_128 mk_X5_take rfl rfl sh2 (by omega) (Nat.le_of_ble_eq_true rfl) rfl (c_Reader_take (by decide) hw) (fun r2 h3 hw => ?_)
      refine g_if_eq 44 dX5_both_20 rfl (fun hc => ?_) (fun hc => ?_)
      · have hw := hw.1 hc
        exact g_vret dX5_both_44 hw
      · have hw := hw.2 hc
        refine g_aload_n dX5_both_23 rfl rfl ?_
        refine g_iload_n dX5_both_24 rfl rfl ?_
        refine g_callVV [.int x1] (ci := 5) dX5_both_25 ml_X5_159 mk_X5_unit rfl rfl sh2 hdd (Nat.le_of_ble_eq_true rfl) rfl (hR_unit _ _ _ hw) (fun h4 hw => ?_)
        refine g_aload_n dX5_both_28 rfl rfl ?_
        obtain ⟨q5, hqq5, hsq5, hw⟩ := hw
        refine g_getM dX5_both_29 fl_X5_28 sh2 rfl hqq5 ?_
        refine g_sipush (v := 1016) dX5_both_32 (by decide) ?_
        refine g_callVV [.int 1016] (ci := 3) dX5_both_35 ml_X5_156 mk_X3_add rfl rfl hsq5 (by omega) (Nat.le_of_ble_eq_true rfl) rfl (c_Law_add hsq5 hw) (fun h6 hw => ?_)
        obtain ⟨v7, ev7⟩ : ∃ y : Int32, y = (x2 + 1) := ⟨_, rfl⟩
        have hw := hw v7 ev7
        refine g_iinc dX5_both_38 rfl (by rw [ev7]; rfl) (by decide) (lv1 := [(0, .ref (gAd G 2)), (1, .int x1), (2, .int v7)]) rfl ?_
        refine g_goto 7 dX5_both_41 rfl ?_
        exact ih _ _ hw
def Reader_both_B  (R_atom : Int32 → Hp → (Hp → Prop) → Prop) (R_both : Int32 → Hp → (Hp → Prop) → Prop) (R_choice : Int32 → Hp → (Hp → Prop) → Prop) (R_sum : Int32 → Hp → (Hp → Prop) → Prop) (R_term : Int32 → Hp → (Hp → Prop) → Prop) (R_truth : Int32 → Hp → (Hp → Prop) → Prop) (R_unit : Int32 → Hp → (Hp → Prop) → Prop) (x1 : Int32) (h : Hp) (Q : Hp → Prop) : Prop := R_unit x1 h (fun h1 => ∃ n8, Reader_both_L7 x1 R_atom R_both R_choice R_sum R_term R_truth R_unit Q n8 0 h1)
set_option maxHeartbeats 4000000 in
set_option maxRecDepth 20000 in
theorem cb_Reader_both {G : Gx}  {d d1 : Nat} (hdd : d1 + 1 ≤ d) (hD : 11 ≤ d) {R_atom : Int32 → Hp → (Hp → Prop) → Prop} {R_both : Int32 → Hp → (Hp → Prop) → Prop} {R_choice : Int32 → Hp → (Hp → Prop) → Prop} {R_sum : Int32 → Hp → (Hp → Prop) → Prop} {R_term : Int32 → Hp → (Hp → Prop) → Prop} {R_truth : Int32 → Hp → (Hp → Prop) → Prop} {R_unit : Int32 → Hp → (Hp → Prop) → Prop} (hR_atom : ∀ (y0 : Int32) (h : Hp) (Q : Hp → Prop), R_atom y0 h Q → Ct yX5_atom cX5_atom 2 none d1 G [.ref (gAd G 2), .int y0] h (QV G Q)) (hR_both : ∀ (y0 : Int32) (h : Hp) (Q : Hp → Prop), R_both y0 h Q → Ct yX5_both cX5_both 3 none d1 G [.ref (gAd G 2), .int y0] h (QV G Q)) (hR_choice : ∀ (y0 : Int32) (h : Hp) (Q : Hp → Prop), R_choice y0 h Q → Ct yX5_choice cX5_choice 2 none d1 G [.ref (gAd G 2), .int y0] h (QV G Q)) (hR_sum : ∀ (y0 : Int32) (h : Hp) (Q : Hp → Prop), R_sum y0 h Q → Ct yX5_sum cX5_sum 4 none d1 G [.ref (gAd G 2), .int y0] h (QV G Q)) (hR_term : ∀ (y0 : Int32) (h : Hp) (Q : Hp → Prop), R_term y0 h Q → Ct yX5_term cX5_term 3 none d1 G [.ref (gAd G 2), .int y0] h (QV G Q)) (hR_truth : ∀ (y0 : Int32) (h : Hp) (Q : Hp → Prop), R_truth y0 h Q → Ct yX5_truth cX5_truth 3 none d1 G [.ref (gAd G 2), .int y0] h (QV G Q)) (hR_unit : ∀ (y0 : Int32) (h : Hp) (Q : Hp → Prop), R_unit y0 h Q → Ct yX5_unit cX5_unit 3 none d1 G [.ref (gAd G 2), .int y0] h (QV G Q)) {x1 : Int32} {h : Hp} {Q : Hp → Prop} (hw : Reader_both_B  R_atom R_both R_choice R_sum R_term R_truth R_unit x1 h Q) : Ct yX5_both cX5_both 3 none d G [.ref (gAd G 2), .int x1] h (QV G Q) := by
  refine ct_go [(0, .ref (gAd G 2)), (1, .int x1)] (plainFor_of_name (by decide)) rfl (Nat.le_of_ble_eq_true rfl) rfl ?_
  refine g_aload_n dX5_both_0 rfl rfl ?_
  refine g_iload_n dX5_both_1 rfl rfl ?_
  refine g_callVV [.int x1] (ci := 5) dX5_both_2 ml_X5_159 mk_X5_unit rfl rfl sh2 hdd (Nat.le_of_ble_eq_true rfl) rfl (hR_unit _ _ _ hw) (fun h1 hw => ?_)
  refine g_iconst (v := 0) dX5_both_5 (by decide) ?_
  refine g_istore_n dX5_both_6 rfl (by decide) (lv1 := [(0, .ref (gAd G 2)), (1, .int x1), (2, .int 0)]) rfl ?_
  obtain ⟨n8, hw⟩ := hw
  refine gl_Reader_both_L7  hdd hD hR_atom hR_both hR_choice hR_sum hR_term hR_truth hR_unit  _ _ _ hw
theorem dX5_truth_0 : decode cX5_truth 0 = .ok (.aload_n 0, 1) := by decide +kernel
theorem dX5_truth_1 : decode cX5_truth 1 = .ok (.iload_n 1, 1) := by decide +kernel
theorem dX5_truth_2 : decode cX5_truth 2 = .ok (.invokevirtual 151, 3) := by decide +kernel
theorem dX5_truth_5 : decode cX5_truth 5 = .ok (.iconst 0, 1) := by decide +kernel
theorem dX5_truth_6 : decode cX5_truth 6 = .ok (.istore_n 2, 1) := by decide +kernel
theorem dX5_truth_7 : decode cX5_truth 7 = .ok (.iload_n 2, 1) := by decide +kernel
theorem dX5_truth_8 : decode cX5_truth 8 = .ok (.sipush 900, 3) := by decide +kernel
theorem dX5_truth_11 : decode cX5_truth 11 = .ok (.if_icmp .ge 33, 3) := by decide +kernel
theorem dX5_truth_14 : decode cX5_truth 14 = .ok (.aload_n 0, 1) := by decide +kernel
theorem dX5_truth_15 : decode cX5_truth 15 = .ok (.ldc 154, 2) := by decide +kernel
theorem dX5_truth_17 : decode cX5_truth 17 = .ok (.invokevirtual 128, 3) := by decide +kernel
theorem dX5_truth_20 : decode cX5_truth 20 = .ok (.ifCond .eq 24, 3) := by decide +kernel
theorem dX5_truth_23 : decode cX5_truth 23 = .ok (.aload_n 0, 1) := by decide +kernel
theorem dX5_truth_24 : decode cX5_truth 24 = .ok (.iload_n 1, 1) := by decide +kernel
theorem dX5_truth_25 : decode cX5_truth 25 = .ok (.invokevirtual 151, 3) := by decide +kernel
theorem dX5_truth_28 : decode cX5_truth 28 = .ok (.aload_n 0, 1) := by decide +kernel
theorem dX5_truth_29 : decode cX5_truth 29 = .ok (.getfield 28, 3) := by decide +kernel
theorem dX5_truth_32 : decode cX5_truth 32 = .ok (.sipush 1017, 3) := by decide +kernel
theorem dX5_truth_35 : decode cX5_truth 35 = .ok (.invokevirtual 156, 3) := by decide +kernel
theorem dX5_truth_38 : decode cX5_truth 38 = .ok (.iinc 2 1, 3) := by decide +kernel
theorem dX5_truth_41 : decode cX5_truth 41 = .ok (.goto (-34), 3) := by decide +kernel
theorem dX5_truth_44 : decode cX5_truth 44 = .ok (.return_, 1) := by decide +kernel
theorem ml_X5_151 : Cond.methodLink RX5 151 yX5_both ∈ Wd := mW 659 (by decide +kernel) rfl
theorem mk_X5_both : MokV yX5_both cX5_both 3 none 1 := ⟨⟨mW 2 (by decide +kernel) rfl, mW 662 (by decide +kernel) rfl, ⟨by decide, by decide, by decide +kernel⟩, by decide⟩, mW 661 (by decide +kernel) rfl, mS (q := (yX5_both, 15)) 15 (by decide +kernel)⟩
def Reader_truth_L7 (x1 : Int32) (R_atom : Int32 → Hp → (Hp → Prop) → Prop) (R_both : Int32 → Hp → (Hp → Prop) → Prop) (R_choice : Int32 → Hp → (Hp → Prop) → Prop) (R_sum : Int32 → Hp → (Hp → Prop) → Prop) (R_term : Int32 → Hp → (Hp → Prop) → Prop) (R_truth : Int32 → Hp → (Hp → Prop) → Prop) (R_unit : Int32 → Hp → (Hp → Prop) → Prop) (Q : Hp → Prop) : Nat → Int32 → Hp → Prop
  | 0, _, _ => False
  | n + 1, x2, h => (900 ≤ x2 → Q h) ∧ (¬ 900 ≤ x2 → Reader_take 22 h (fun r2 h3 => (r2 = 0 → Q h3) ∧ (¬ r2 = 0 → R_both x1 h3 (fun h4 => ∃ q5, gR h4 1 = some q5 ∧ SH q5 = .inl 3 ∧ Law_add q5 1017 h4 (fun h6 => ∀ v7 : Int32, v7 = (x2 + 1) → Reader_truth_L7 x1 R_atom R_both R_choice R_sum R_term R_truth R_unit Q n v7 h6)))))
set_option maxHeartbeats 4000000 in
set_option maxRecDepth 20000 in
theorem gl_Reader_truth_L7 {G : Gx}  {d d1 : Nat} (hdd : d1 + 1 ≤ d) (hD : 11 ≤ d) {R_atom : Int32 → Hp → (Hp → Prop) → Prop} {R_both : Int32 → Hp → (Hp → Prop) → Prop} {R_choice : Int32 → Hp → (Hp → Prop) → Prop} {R_sum : Int32 → Hp → (Hp → Prop) → Prop} {R_term : Int32 → Hp → (Hp → Prop) → Prop} {R_truth : Int32 → Hp → (Hp → Prop) → Prop} {R_unit : Int32 → Hp → (Hp → Prop) → Prop} (hR_atom : ∀ (y0 : Int32) (h : Hp) (Q : Hp → Prop), R_atom y0 h Q → Ct yX5_atom cX5_atom 2 none d1 G [.ref (gAd G 2), .int y0] h (QV G Q)) (hR_both : ∀ (y0 : Int32) (h : Hp) (Q : Hp → Prop), R_both y0 h Q → Ct yX5_both cX5_both 3 none d1 G [.ref (gAd G 2), .int y0] h (QV G Q)) (hR_choice : ∀ (y0 : Int32) (h : Hp) (Q : Hp → Prop), R_choice y0 h Q → Ct yX5_choice cX5_choice 2 none d1 G [.ref (gAd G 2), .int y0] h (QV G Q)) (hR_sum : ∀ (y0 : Int32) (h : Hp) (Q : Hp → Prop), R_sum y0 h Q → Ct yX5_sum cX5_sum 4 none d1 G [.ref (gAd G 2), .int y0] h (QV G Q)) (hR_term : ∀ (y0 : Int32) (h : Hp) (Q : Hp → Prop), R_term y0 h Q → Ct yX5_term cX5_term 3 none d1 G [.ref (gAd G 2), .int y0] h (QV G Q)) (hR_truth : ∀ (y0 : Int32) (h : Hp) (Q : Hp → Prop), R_truth y0 h Q → Ct yX5_truth cX5_truth 3 none d1 G [.ref (gAd G 2), .int y0] h (QV G Q)) (hR_unit : ∀ (y0 : Int32) (h : Hp) (Q : Hp → Prop), R_unit y0 h Q → Ct yX5_unit cX5_unit 3 none d1 G [.ref (gAd G 2), .int y0] h (QV G Q)) {x1 : Int32} {Q : Hp → Prop} : ∀ (n : Nat) (x2 : Int32) (h : Hp), Reader_truth_L7 x1 R_atom R_both R_choice R_sum R_term R_truth R_unit Q n x2 h → Go cX5_truth 3 RX5 none d G (QV G Q) 7 [(0, .ref (gAd G 2)), (1, .int x1), (2, .int x2)] [] h := by
  intro n
  induction n with
  | zero => intro _ h hw; exact False.elim hw
  | succ n ih =>
    intro x2 h hw
    refine g_iload_n dX5_truth_7 rfl rfl ?_
    refine g_sipush (v := 900) dX5_truth_8 (by decide) ?_
    refine g_icmp_ge 44 dX5_truth_11 rfl (fun hc => ?_) (fun hc => ?_)
    · have hw := hw.1 hc
      exact g_vret dX5_truth_44 hw
    · have hw := hw.2 hc
      refine g_aload_n dX5_truth_14 rfl rfl ?_
      refine g_ldcS (i := 22) dX5_truth_15 (by decide) rfl ?_
      refine g_callVI [.ref (gSa G 22)] (ci := 5) dX5_truth_17 ml_X5_128 mk_X5_take rfl rfl sh2 (by omega) (Nat.le_of_ble_eq_true rfl) rfl (c_Reader_take (by decide) hw) (fun r2 h3 hw => ?_)
      refine g_if_eq 44 dX5_truth_20 rfl (fun hc => ?_) (fun hc => ?_)
      · have hw := hw.1 hc
        exact g_vret dX5_truth_44 hw
      · have hw := hw.2 hc
        refine g_aload_n dX5_truth_23 rfl rfl ?_
        refine g_iload_n dX5_truth_24 rfl rfl ?_
        refine g_callVV [.int x1] (ci := 5) dX5_truth_25 ml_X5_151 mk_X5_both rfl rfl sh2 hdd (Nat.le_of_ble_eq_true rfl) rfl (hR_both _ _ _ hw) (fun h4 hw => ?_)
        refine g_aload_n dX5_truth_28 rfl rfl ?_
        obtain ⟨q5, hqq5, hsq5, hw⟩ := hw
        refine g_getM dX5_truth_29 fl_X5_28 sh2 rfl hqq5 ?_
        refine g_sipush (v := 1017) dX5_truth_32 (by decide) ?_
        refine g_callVV [.int 1017] (ci := 3) dX5_truth_35 ml_X5_156 mk_X3_add rfl rfl hsq5 (by omega) (Nat.le_of_ble_eq_true rfl) rfl (c_Law_add hsq5 hw) (fun h6 hw => ?_)
        obtain ⟨v7, ev7⟩ : ∃ y : Int32, y = (x2 + 1) := ⟨_, rfl⟩
        have hw := hw v7 ev7
        refine g_iinc dX5_truth_38 rfl (by rw [ev7]; rfl) (by decide) (lv1 := [(0, .ref (gAd G 2)), (1, .int x1), (2, .int v7)]) rfl ?_
        refine g_goto 7 dX5_truth_41 rfl ?_
        exact ih _ _ hw
def Reader_truth_B  (R_atom : Int32 → Hp → (Hp → Prop) → Prop) (R_both : Int32 → Hp → (Hp → Prop) → Prop) (R_choice : Int32 → Hp → (Hp → Prop) → Prop) (R_sum : Int32 → Hp → (Hp → Prop) → Prop) (R_term : Int32 → Hp → (Hp → Prop) → Prop) (R_truth : Int32 → Hp → (Hp → Prop) → Prop) (R_unit : Int32 → Hp → (Hp → Prop) → Prop) (x1 : Int32) (h : Hp) (Q : Hp → Prop) : Prop := R_both x1 h (fun h1 => ∃ n8, Reader_truth_L7 x1 R_atom R_both R_choice R_sum R_term R_truth R_unit Q n8 0 h1)
set_option maxHeartbeats 4000000 in
set_option maxRecDepth 20000 in
theorem cb_Reader_truth {G : Gx}  {d d1 : Nat} (hdd : d1 + 1 ≤ d) (hD : 11 ≤ d) {R_atom : Int32 → Hp → (Hp → Prop) → Prop} {R_both : Int32 → Hp → (Hp → Prop) → Prop} {R_choice : Int32 → Hp → (Hp → Prop) → Prop} {R_sum : Int32 → Hp → (Hp → Prop) → Prop} {R_term : Int32 → Hp → (Hp → Prop) → Prop} {R_truth : Int32 → Hp → (Hp → Prop) → Prop} {R_unit : Int32 → Hp → (Hp → Prop) → Prop} (hR_atom : ∀ (y0 : Int32) (h : Hp) (Q : Hp → Prop), R_atom y0 h Q → Ct yX5_atom cX5_atom 2 none d1 G [.ref (gAd G 2), .int y0] h (QV G Q)) (hR_both : ∀ (y0 : Int32) (h : Hp) (Q : Hp → Prop), R_both y0 h Q → Ct yX5_both cX5_both 3 none d1 G [.ref (gAd G 2), .int y0] h (QV G Q)) (hR_choice : ∀ (y0 : Int32) (h : Hp) (Q : Hp → Prop), R_choice y0 h Q → Ct yX5_choice cX5_choice 2 none d1 G [.ref (gAd G 2), .int y0] h (QV G Q)) (hR_sum : ∀ (y0 : Int32) (h : Hp) (Q : Hp → Prop), R_sum y0 h Q → Ct yX5_sum cX5_sum 4 none d1 G [.ref (gAd G 2), .int y0] h (QV G Q)) (hR_term : ∀ (y0 : Int32) (h : Hp) (Q : Hp → Prop), R_term y0 h Q → Ct yX5_term cX5_term 3 none d1 G [.ref (gAd G 2), .int y0] h (QV G Q)) (hR_truth : ∀ (y0 : Int32) (h : Hp) (Q : Hp → Prop), R_truth y0 h Q → Ct yX5_truth cX5_truth 3 none d1 G [.ref (gAd G 2), .int y0] h (QV G Q)) (hR_unit : ∀ (y0 : Int32) (h : Hp) (Q : Hp → Prop), R_unit y0 h Q → Ct yX5_unit cX5_unit 3 none d1 G [.ref (gAd G 2), .int y0] h (QV G Q)) {x1 : Int32} {h : Hp} {Q : Hp → Prop} (hw : Reader_truth_B  R_atom R_both R_choice R_sum R_term R_truth R_unit x1 h Q) : Ct yX5_truth cX5_truth 3 none d G [.ref (gAd G 2), .int x1] h (QV G Q) := by
  refine ct_go [(0, .ref (gAd G 2)), (1, .int x1)] (plainFor_of_name (by decide)) rfl (Nat.le_of_ble_eq_true rfl) rfl ?_
  refine g_aload_n dX5_truth_0 rfl rfl ?_
  refine g_iload_n dX5_truth_1 rfl rfl ?_
  refine g_callVV [.int x1] (ci := 5) dX5_truth_2 ml_X5_151 mk_X5_both rfl rfl sh2 hdd (Nat.le_of_ble_eq_true rfl) rfl (hR_both _ _ _ hw) (fun h1 hw => ?_)
  refine g_iconst (v := 0) dX5_truth_5 (by decide) ?_
  refine g_istore_n dX5_truth_6 rfl (by decide) (lv1 := [(0, .ref (gAd G 2)), (1, .int x1), (2, .int 0)]) rfl ?_
  obtain ⟨n8, hw⟩ := hw
  refine gl_Reader_truth_L7  hdd hD hR_atom hR_both hR_choice hR_sum hR_term hR_truth hR_unit  _ _ _ hw
theorem dX5_choice_0 : decode cX5_choice 0 = .ok (.aload_n 0, 1) := by decide +kernel
theorem dX5_choice_1 : decode cX5_choice 1 = .ok (.iload_n 1, 1) := by decide +kernel
theorem dX5_choice_2 : decode cX5_choice 2 = .ok (.invokevirtual 139, 3) := by decide +kernel
theorem dX5_choice_5 : decode cX5_choice 5 = .ok (.aload_n 0, 1) := by decide +kernel
theorem dX5_choice_6 : decode cX5_choice 6 = .ok (.ldc 208, 2) := by decide +kernel
theorem dX5_choice_8 : decode cX5_choice 8 = .ok (.invokevirtual 75, 3) := by decide +kernel
theorem dX5_choice_11 : decode cX5_choice 11 = .ok (.aload_n 0, 1) := by decide +kernel
theorem dX5_choice_12 : decode cX5_choice 12 = .ok (.iload_n 1, 1) := by decide +kernel
theorem dX5_choice_13 : decode cX5_choice 13 = .ok (.invokevirtual 135, 3) := by decide +kernel
theorem dX5_choice_16 : decode cX5_choice 16 = .ok (.aload_n 0, 1) := by decide +kernel
theorem dX5_choice_17 : decode cX5_choice 17 = .ok (.ldc 210, 2) := by decide +kernel
theorem dX5_choice_19 : decode cX5_choice 19 = .ok (.invokevirtual 75, 3) := by decide +kernel
theorem dX5_choice_22 : decode cX5_choice 22 = .ok (.aload_n 0, 1) := by decide +kernel
theorem dX5_choice_23 : decode cX5_choice 23 = .ok (.iload_n 1, 1) := by decide +kernel
theorem dX5_choice_24 : decode cX5_choice 24 = .ok (.invokevirtual 135, 3) := by decide +kernel
theorem dX5_choice_27 : decode cX5_choice 27 = .ok (.aload_n 0, 1) := by decide +kernel
theorem dX5_choice_28 : decode cX5_choice 28 = .ok (.ldc 212, 2) := by decide +kernel
theorem dX5_choice_30 : decode cX5_choice 30 = .ok (.invokevirtual 75, 3) := by decide +kernel
theorem dX5_choice_33 : decode cX5_choice 33 = .ok (.aload_n 0, 1) := by decide +kernel
theorem dX5_choice_34 : decode cX5_choice 34 = .ok (.getfield 28, 3) := by decide +kernel
theorem dX5_choice_37 : decode cX5_choice 37 = .ok (.sipush 1019, 3) := by decide +kernel
theorem dX5_choice_40 : decode cX5_choice 40 = .ok (.invokevirtual 156, 3) := by decide +kernel
theorem dX5_choice_43 : decode cX5_choice 43 = .ok (.return_, 1) := by decide +kernel
def Reader_choice_B  (R_atom : Int32 → Hp → (Hp → Prop) → Prop) (R_both : Int32 → Hp → (Hp → Prop) → Prop) (R_choice : Int32 → Hp → (Hp → Prop) → Prop) (R_sum : Int32 → Hp → (Hp → Prop) → Prop) (R_term : Int32 → Hp → (Hp → Prop) → Prop) (R_truth : Int32 → Hp → (Hp → Prop) → Prop) (R_unit : Int32 → Hp → (Hp → Prop) → Prop) (x1 : Int32) (h : Hp) (Q : Hp → Prop) : Prop := R_truth x1 h (fun h1 => Reader_expect 23 h1 (fun h2 => R_sum x1 h2 (fun h3 => Reader_expect 24 h3 (fun h4 => R_sum x1 h4 (fun h5 => Reader_expect 25 h5 (fun h6 => ∃ q7, gR h6 1 = some q7 ∧ SH q7 = .inl 3 ∧ Law_add q7 1019 h6 (fun h8 => Q h8)))))))
set_option maxHeartbeats 4000000 in
set_option maxRecDepth 20000 in
theorem cb_Reader_choice {G : Gx}  {d d1 : Nat} (hdd : d1 + 1 ≤ d) (hD : 11 ≤ d) {R_atom : Int32 → Hp → (Hp → Prop) → Prop} {R_both : Int32 → Hp → (Hp → Prop) → Prop} {R_choice : Int32 → Hp → (Hp → Prop) → Prop} {R_sum : Int32 → Hp → (Hp → Prop) → Prop} {R_term : Int32 → Hp → (Hp → Prop) → Prop} {R_truth : Int32 → Hp → (Hp → Prop) → Prop} {R_unit : Int32 → Hp → (Hp → Prop) → Prop} (hR_atom : ∀ (y0 : Int32) (h : Hp) (Q : Hp → Prop), R_atom y0 h Q → Ct yX5_atom cX5_atom 2 none d1 G [.ref (gAd G 2), .int y0] h (QV G Q)) (hR_both : ∀ (y0 : Int32) (h : Hp) (Q : Hp → Prop), R_both y0 h Q → Ct yX5_both cX5_both 3 none d1 G [.ref (gAd G 2), .int y0] h (QV G Q)) (hR_choice : ∀ (y0 : Int32) (h : Hp) (Q : Hp → Prop), R_choice y0 h Q → Ct yX5_choice cX5_choice 2 none d1 G [.ref (gAd G 2), .int y0] h (QV G Q)) (hR_sum : ∀ (y0 : Int32) (h : Hp) (Q : Hp → Prop), R_sum y0 h Q → Ct yX5_sum cX5_sum 4 none d1 G [.ref (gAd G 2), .int y0] h (QV G Q)) (hR_term : ∀ (y0 : Int32) (h : Hp) (Q : Hp → Prop), R_term y0 h Q → Ct yX5_term cX5_term 3 none d1 G [.ref (gAd G 2), .int y0] h (QV G Q)) (hR_truth : ∀ (y0 : Int32) (h : Hp) (Q : Hp → Prop), R_truth y0 h Q → Ct yX5_truth cX5_truth 3 none d1 G [.ref (gAd G 2), .int y0] h (QV G Q)) (hR_unit : ∀ (y0 : Int32) (h : Hp) (Q : Hp → Prop), R_unit y0 h Q → Ct yX5_unit cX5_unit 3 none d1 G [.ref (gAd G 2), .int y0] h (QV G Q)) {x1 : Int32} {h : Hp} {Q : Hp → Prop} (hw : Reader_choice_B  R_atom R_both R_choice R_sum R_term R_truth R_unit x1 h Q) : Ct yX5_choice cX5_choice 2 none d G [.ref (gAd G 2), .int x1] h (QV G Q) := by
  refine ct_go [(0, .ref (gAd G 2)), (1, .int x1)] (plainFor_of_name (by decide)) rfl (Nat.le_of_ble_eq_true rfl) rfl ?_
  refine g_aload_n dX5_choice_0 rfl rfl ?_
  refine g_iload_n dX5_choice_1 rfl rfl ?_
  refine g_callVV [.int x1] (ci := 5) dX5_choice_2 ml_X5_139 mk_X5_truth rfl rfl sh2 hdd (Nat.le_of_ble_eq_true rfl) rfl (hR_truth _ _ _ hw) (fun h1 hw => ?_)
  refine g_aload_n dX5_choice_5 rfl rfl ?_
  refine g_ldcS (i := 23) dX5_choice_6 (by decide) rfl ?_
  refine g_callVV [.ref (gSa G 23)] (ci := 5) dX5_choice_8 ml_X5_75 mk_X5_expect rfl rfl sh2 (by omega) (Nat.le_of_ble_eq_true rfl) rfl (c_Reader_expect (by decide) hw) (fun h2 hw => ?_)
  refine g_aload_n dX5_choice_11 rfl rfl ?_
  refine g_iload_n dX5_choice_12 rfl rfl ?_
  refine g_callVV [.int x1] (ci := 5) dX5_choice_13 ml_X5_135 mk_X5_sum rfl rfl sh2 hdd (Nat.le_of_ble_eq_true rfl) rfl (hR_sum _ _ _ hw) (fun h3 hw => ?_)
  refine g_aload_n dX5_choice_16 rfl rfl ?_
  refine g_ldcS (i := 24) dX5_choice_17 (by decide) rfl ?_
  refine g_callVV [.ref (gSa G 24)] (ci := 5) dX5_choice_19 ml_X5_75 mk_X5_expect rfl rfl sh2 (by omega) (Nat.le_of_ble_eq_true rfl) rfl (c_Reader_expect (by decide) hw) (fun h4 hw => ?_)
  refine g_aload_n dX5_choice_22 rfl rfl ?_
  refine g_iload_n dX5_choice_23 rfl rfl ?_
  refine g_callVV [.int x1] (ci := 5) dX5_choice_24 ml_X5_135 mk_X5_sum rfl rfl sh2 hdd (Nat.le_of_ble_eq_true rfl) rfl (hR_sum _ _ _ hw) (fun h5 hw => ?_)
  refine g_aload_n dX5_choice_27 rfl rfl ?_
  refine g_ldcS (i := 25) dX5_choice_28 (by decide) rfl ?_
  refine g_callVV [.ref (gSa G 25)] (ci := 5) dX5_choice_30 ml_X5_75 mk_X5_expect rfl rfl sh2 (by omega) (Nat.le_of_ble_eq_true rfl) rfl (c_Reader_expect (by decide) hw) (fun h6 hw => ?_)
  refine g_aload_n dX5_choice_33 rfl rfl ?_
  obtain ⟨q7, hqq7, hsq7, hw⟩ := hw
  refine g_getM dX5_choice_34 fl_X5_28 sh2 rfl hqq7 ?_
  refine g_sipush (v := 1019) dX5_choice_37 (by decide) ?_
  refine g_callVV [.int 1019] (ci := 3) dX5_choice_40 ml_X5_156 mk_X3_add rfl rfl hsq7 (by omega) (Nat.le_of_ble_eq_true rfl) rfl (c_Law_add hsq7 hw) (fun h8 hw => ?_)
  exact g_vret dX5_choice_43 hw
theorem dX5_atom_0 : decode cX5_atom 0 = .ok (.aload_n 0, 1) := by decide +kernel
theorem dX5_atom_1 : decode cX5_atom 1 = .ok (.getfield 60, 3) := by decide +kernel
theorem dX5_atom_4 : decode cX5_atom 4 = .ok (.ifCond .eq 4, 3) := by decide +kernel
theorem dX5_atom_7 : decode cX5_atom 7 = .ok (.return_, 1) := by decide +kernel
theorem dX5_atom_8 : decode cX5_atom 8 = .ok (.aload_n 0, 1) := by decide +kernel
theorem dX5_atom_9 : decode cX5_atom 9 = .ok (.getfield 12, 3) := by decide +kernel
theorem dX5_atom_12 : decode cX5_atom 12 = .ok (.invokevirtual 111, 3) := by decide +kernel
theorem dX5_atom_15 : decode cX5_atom 15 = .ok (.ifCond .eq 27, 3) := by decide +kernel
theorem dX5_atom_18 : decode cX5_atom 18 = .ok (.aload_n 0, 1) := by decide +kernel
theorem dX5_atom_19 : decode cX5_atom 19 = .ok (.getfield 28, 3) := by decide +kernel
theorem dX5_atom_22 : decode cX5_atom 22 = .ok (.aload_n 0, 1) := by decide +kernel
theorem dX5_atom_23 : decode cX5_atom 23 = .ok (.getfield 12, 3) := by decide +kernel
theorem dX5_atom_26 : decode cX5_atom 26 = .ok (.getfield 114, 3) := by decide +kernel
theorem dX5_atom_29 : decode cX5_atom 29 = .ok (.invokevirtual 156, 3) := by decide +kernel
theorem dX5_atom_32 : decode cX5_atom 32 = .ok (.aload_n 0, 1) := by decide +kernel
theorem dX5_atom_33 : decode cX5_atom 33 = .ok (.getfield 12, 3) := by decide +kernel
theorem dX5_atom_36 : decode cX5_atom 36 = .ok (.invokevirtual 104, 3) := by decide +kernel
theorem dX5_atom_39 : decode cX5_atom 39 = .ok (.goto 117, 3) := by decide +kernel
theorem dX5_atom_42 : decode cX5_atom 42 = .ok (.aload_n 0, 1) := by decide +kernel
theorem dX5_atom_43 : decode cX5_atom 43 = .ok (.getfield 12, 3) := by decide +kernel
theorem dX5_atom_46 : decode cX5_atom 46 = .ok (.ldc 196, 2) := by decide +kernel
theorem dX5_atom_48 : decode cX5_atom 48 = .ok (.invokevirtual 100, 3) := by decide +kernel
theorem dX5_atom_51 : decode cX5_atom 51 = .ok (.ifCond .eq 34, 3) := by decide +kernel
theorem dX5_atom_54 : decode cX5_atom 54 = .ok (.aload_n 0, 1) := by decide +kernel
theorem dX5_atom_55 : decode cX5_atom 55 = .ok (.iload_n 1, 1) := by decide +kernel
theorem dX5_atom_56 : decode cX5_atom 56 = .ok (.invokevirtual 166, 3) := by decide +kernel
theorem dX5_atom_59 : decode cX5_atom 59 = .ok (.ifCond .eq 97, 3) := by decide +kernel
theorem dX5_atom_62 : decode cX5_atom 62 = .ok (.aload_n 0, 1) := by decide +kernel
theorem dX5_atom_63 : decode cX5_atom 63 = .ok (.getfield 12, 3) := by decide +kernel
theorem dX5_atom_66 : decode cX5_atom 66 = .ok (.invokevirtual 104, 3) := by decide +kernel
theorem dX5_atom_69 : decode cX5_atom 69 = .ok (.aload_n 0, 1) := by decide +kernel
theorem dX5_atom_70 : decode cX5_atom 70 = .ok (.iload_n 1, 1) := by decide +kernel
theorem dX5_atom_71 : decode cX5_atom 71 = .ok (.iconst 1, 1) := by decide +kernel
theorem dX5_atom_72 : decode cX5_atom 72 = .ok (.iadd, 1) := by decide +kernel
theorem dX5_atom_73 : decode cX5_atom 73 = .ok (.invokevirtual 135, 3) := by decide +kernel
theorem dX5_atom_76 : decode cX5_atom 76 = .ok (.aload_n 0, 1) := by decide +kernel
theorem dX5_atom_77 : decode cX5_atom 77 = .ok (.ldc 198, 2) := by decide +kernel
theorem dX5_atom_79 : decode cX5_atom 79 = .ok (.invokevirtual 75, 3) := by decide +kernel
theorem dX5_atom_82 : decode cX5_atom 82 = .ok (.goto 74, 3) := by decide +kernel
theorem dX5_atom_85 : decode cX5_atom 85 = .ok (.aload_n 0, 1) := by decide +kernel
theorem dX5_atom_86 : decode cX5_atom 86 = .ok (.getfield 12, 3) := by decide +kernel
theorem dX5_atom_89 : decode cX5_atom 89 = .ok (.ldc 200, 2) := by decide +kernel
theorem dX5_atom_91 : decode cX5_atom 91 = .ok (.invokevirtual 100, 3) := by decide +kernel
theorem dX5_atom_94 : decode cX5_atom 94 = .ok (.ifCond .eq 28, 3) := by decide +kernel
theorem dX5_atom_97 : decode cX5_atom 97 = .ok (.aload_n 0, 1) := by decide +kernel
theorem dX5_atom_98 : decode cX5_atom 98 = .ok (.iload_n 1, 1) := by decide +kernel
theorem dX5_atom_99 : decode cX5_atom 99 = .ok (.invokevirtual 166, 3) := by decide +kernel
theorem dX5_atom_102 : decode cX5_atom 102 = .ok (.ifCond .eq 54, 3) := by decide +kernel
theorem dX5_atom_105 : decode cX5_atom 105 = .ok (.aload_n 0, 1) := by decide +kernel
theorem dX5_atom_106 : decode cX5_atom 106 = .ok (.getfield 12, 3) := by decide +kernel
theorem dX5_atom_109 : decode cX5_atom 109 = .ok (.invokevirtual 104, 3) := by decide +kernel
theorem dX5_atom_112 : decode cX5_atom 112 = .ok (.aload_n 0, 1) := by decide +kernel
theorem dX5_atom_113 : decode cX5_atom 113 = .ok (.iload_n 1, 1) := by decide +kernel
theorem dX5_atom_114 : decode cX5_atom 114 = .ok (.iconst 1, 1) := by decide +kernel
theorem dX5_atom_115 : decode cX5_atom 115 = .ok (.iadd, 1) := by decide +kernel
theorem dX5_atom_116 : decode cX5_atom 116 = .ok (.invokevirtual 202, 3) := by decide +kernel
theorem dX5_atom_119 : decode cX5_atom 119 = .ok (.goto 37, 3) := by decide +kernel
theorem dX5_atom_122 : decode cX5_atom 122 = .ok (.aload_n 0, 1) := by decide +kernel
theorem dX5_atom_123 : decode cX5_atom 123 = .ok (.invokevirtual 205, 3) := by decide +kernel
theorem dX5_atom_126 : decode cX5_atom 126 = .ok (.iconst (-1), 1) := by decide +kernel
theorem dX5_atom_127 : decode cX5_atom 127 = .ok (.if_icmp .eq 24, 3) := by decide +kernel
theorem dX5_atom_130 : decode cX5_atom 130 = .ok (.aload_n 0, 1) := by decide +kernel
theorem dX5_atom_131 : decode cX5_atom 131 = .ok (.getfield 28, 3) := by decide +kernel
theorem dX5_atom_134 : decode cX5_atom 134 = .ok (.aload_n 0, 1) := by decide +kernel
theorem dX5_atom_135 : decode cX5_atom 135 = .ok (.invokevirtual 205, 3) := by decide +kernel
theorem dX5_atom_138 : decode cX5_atom 138 = .ok (.invokevirtual 156, 3) := by decide +kernel
theorem dX5_atom_141 : decode cX5_atom 141 = .ok (.aload_n 0, 1) := by decide +kernel
theorem dX5_atom_142 : decode cX5_atom 142 = .ok (.getfield 12, 3) := by decide +kernel
theorem dX5_atom_145 : decode cX5_atom 145 = .ok (.invokevirtual 104, 3) := by decide +kernel
theorem dX5_atom_148 : decode cX5_atom 148 = .ok (.goto 8, 3) := by decide +kernel
theorem dX5_atom_151 : decode cX5_atom 151 = .ok (.aload_n 0, 1) := by decide +kernel
theorem dX5_atom_152 : decode cX5_atom 152 = .ok (.iconst 2, 1) := by decide +kernel
theorem dX5_atom_153 : decode cX5_atom 153 = .ok (.invokevirtual 107, 3) := by decide +kernel
theorem dX5_atom_156 : decode cX5_atom 156 = .ok (.return_, 1) := by decide +kernel
theorem ml_X5_205 : Cond.methodLink RX5 205 yX5_nameCode ∈ Wd := mW 682 (by decide +kernel) rfl
theorem mk_X5_nameCode : MokV yX5_nameCode cX5_nameCode 1 (some .int) 0 := ⟨⟨mW 2 (by decide +kernel) rfl, mW 685 (by decide +kernel) rfl, ⟨by decide, by decide, by decide +kernel⟩, by decide⟩, mW 684 (by decide +kernel) rfl, mS (q := (yX5_nameCode, 15)) 18 (by decide +kernel)⟩
theorem ml_X5_202 : Cond.methodLink RX5 202 yX5_choice ∈ Wd := mW 651 (by decide +kernel) rfl
theorem mk_X5_choice : MokV yX5_choice cX5_choice 2 none 1 := ⟨⟨mW 2 (by decide +kernel) rfl, mW 654 (by decide +kernel) rfl, ⟨by decide, by decide, by decide +kernel⟩, by decide⟩, mW 653 (by decide +kernel) rfl, mS (q := (yX5_choice, 15)) 13 (by decide +kernel)⟩
def Reader_atom_B  (R_atom : Int32 → Hp → (Hp → Prop) → Prop) (R_both : Int32 → Hp → (Hp → Prop) → Prop) (R_choice : Int32 → Hp → (Hp → Prop) → Prop) (R_sum : Int32 → Hp → (Hp → Prop) → Prop) (R_term : Int32 → Hp → (Hp → Prop) → Prop) (R_truth : Int32 → Hp → (Hp → Prop) → Prop) (R_unit : Int32 → Hp → (Hp → Prop) → Prop) (x1 : Int32) (h : Hp) (Q : Hp → Prop) : Prop := ((gI h 2 13) = 0 → Tokens_isNumber  h (fun r1 h2 => (r1 = 0 → Tokens_is 12 h2 (fun r3 h4 => (r3 = 0 → Tokens_is 14 h4 (fun r5 h6 => (r5 = 0 → Reader_nameCode  h6 (fun r7 h8 => (r7 = (-1) → Reader_refuse 2 h8 (fun h9 => Q h9)) ∧ (¬ r7 = (-1) → ∃ q10, gR h8 1 = some q10 ∧ SH q10 = .inl 3 ∧ Reader_nameCode  h8 (fun r11 h12 => Law_add q10 r11 h12 (fun h13 => Tokens_advance  h13 (fun h14 => Q h14)))))) ∧ (¬ r5 = 0 → Reader_mayDeepen x1 h6 (fun r15 h16 => (r15 = 0 → Q h16) ∧ (¬ r15 = 0 → Tokens_advance  h16 (fun h17 => R_choice (x1 + 1) h17 (fun h18 => Q h18))))))) ∧ (¬ r3 = 0 → Reader_mayDeepen x1 h4 (fun r19 h20 => (r19 = 0 → Q h20) ∧ (¬ r19 = 0 → Tokens_advance  h20 (fun h21 => R_sum (x1 + 1) h21 (fun h22 => Reader_expect 13 h22 (fun h23 => Q h23)))))))) ∧ (¬ r1 = 0 → ∃ q24, gR h2 1 = some q24 ∧ SH q24 = .inl 3 ∧ Law_add q24 (gI h2 3 5) h2 (fun h25 => Tokens_advance  h25 (fun h26 => Q h26))))) ∧ (¬ (gI h 2 13) = 0 → Q h)
set_option maxHeartbeats 4000000 in
set_option maxRecDepth 20000 in
theorem cb_Reader_atom {G : Gx}  {d d1 : Nat} (hdd : d1 + 1 ≤ d) (hD : 11 ≤ d) {R_atom : Int32 → Hp → (Hp → Prop) → Prop} {R_both : Int32 → Hp → (Hp → Prop) → Prop} {R_choice : Int32 → Hp → (Hp → Prop) → Prop} {R_sum : Int32 → Hp → (Hp → Prop) → Prop} {R_term : Int32 → Hp → (Hp → Prop) → Prop} {R_truth : Int32 → Hp → (Hp → Prop) → Prop} {R_unit : Int32 → Hp → (Hp → Prop) → Prop} (hR_atom : ∀ (y0 : Int32) (h : Hp) (Q : Hp → Prop), R_atom y0 h Q → Ct yX5_atom cX5_atom 2 none d1 G [.ref (gAd G 2), .int y0] h (QV G Q)) (hR_both : ∀ (y0 : Int32) (h : Hp) (Q : Hp → Prop), R_both y0 h Q → Ct yX5_both cX5_both 3 none d1 G [.ref (gAd G 2), .int y0] h (QV G Q)) (hR_choice : ∀ (y0 : Int32) (h : Hp) (Q : Hp → Prop), R_choice y0 h Q → Ct yX5_choice cX5_choice 2 none d1 G [.ref (gAd G 2), .int y0] h (QV G Q)) (hR_sum : ∀ (y0 : Int32) (h : Hp) (Q : Hp → Prop), R_sum y0 h Q → Ct yX5_sum cX5_sum 4 none d1 G [.ref (gAd G 2), .int y0] h (QV G Q)) (hR_term : ∀ (y0 : Int32) (h : Hp) (Q : Hp → Prop), R_term y0 h Q → Ct yX5_term cX5_term 3 none d1 G [.ref (gAd G 2), .int y0] h (QV G Q)) (hR_truth : ∀ (y0 : Int32) (h : Hp) (Q : Hp → Prop), R_truth y0 h Q → Ct yX5_truth cX5_truth 3 none d1 G [.ref (gAd G 2), .int y0] h (QV G Q)) (hR_unit : ∀ (y0 : Int32) (h : Hp) (Q : Hp → Prop), R_unit y0 h Q → Ct yX5_unit cX5_unit 3 none d1 G [.ref (gAd G 2), .int y0] h (QV G Q)) {x1 : Int32} {h : Hp} {Q : Hp → Prop} (hw : Reader_atom_B  R_atom R_both R_choice R_sum R_term R_truth R_unit x1 h Q) : Ct yX5_atom cX5_atom 2 none d G [.ref (gAd G 2), .int x1] h (QV G Q) := by
  refine ct_go [(0, .ref (gAd G 2)), (1, .int x1)] (plainFor_of_name (by decide)) rfl (Nat.le_of_ble_eq_true rfl) rfl ?_
  refine g_aload_n dX5_atom_0 rfl rfl ?_
  refine g_getI dX5_atom_1 fl_X5_60 sh2 rfl ?_
  refine g_if_eq 8 dX5_atom_4 rfl (fun hc => ?_) (fun hc => ?_)
  · have hw := hw.1 hc
    refine g_aload_n dX5_atom_8 rfl rfl ?_
    refine g_getO dX5_atom_9 fl_X5_12 sh2 rfl ?_
    refine g_callVI [] (ci := 9) dX5_atom_12 ml_X5_111 mk_X9_isNumber rfl rfl sh3 (by omega) (Nat.le_of_ble_eq_true rfl) rfl (c_Tokens_isNumber hw) (fun r1 h2 hw => ?_)
    refine g_if_eq 42 dX5_atom_15 rfl (fun hc => ?_) (fun hc => ?_)
    · have hw := hw.1 hc
      refine g_aload_n dX5_atom_42 rfl rfl ?_
      refine g_getO dX5_atom_43 fl_X5_12 sh2 rfl ?_
      refine g_ldcS (i := 12) dX5_atom_46 (by decide) rfl ?_
      refine g_callVI [.ref (gSa G 12)] (ci := 9) dX5_atom_48 ml_X5_100 mk_X9_is rfl rfl sh3 (by omega) (Nat.le_of_ble_eq_true rfl) rfl (c_Tokens_is (by decide) hw) (fun r3 h4 hw => ?_)
      refine g_if_eq 85 dX5_atom_51 rfl (fun hc => ?_) (fun hc => ?_)
      · have hw := hw.1 hc
        refine g_aload_n dX5_atom_85 rfl rfl ?_
        refine g_getO dX5_atom_86 fl_X5_12 sh2 rfl ?_
        refine g_ldcS (i := 14) dX5_atom_89 (by decide) rfl ?_
        refine g_callVI [.ref (gSa G 14)] (ci := 9) dX5_atom_91 ml_X5_100 mk_X9_is rfl rfl sh3 (by omega) (Nat.le_of_ble_eq_true rfl) rfl (c_Tokens_is (by decide) hw) (fun r5 h6 hw => ?_)
        refine g_if_eq 122 dX5_atom_94 rfl (fun hc => ?_) (fun hc => ?_)
        · have hw := hw.1 hc
          refine g_aload_n dX5_atom_122 rfl rfl ?_
          refine g_callVI [] (ci := 5) dX5_atom_123 ml_X5_205 mk_X5_nameCode rfl rfl sh2 (by omega) (Nat.le_of_ble_eq_true rfl) rfl (c_Reader_nameCode hw) (fun r7 h8 hw => ?_)
          refine g_iconst (v := (-1)) dX5_atom_126 (by decide) ?_
          refine g_icmp_eq 151 dX5_atom_127 rfl (fun hc => ?_) (fun hc => ?_)
          · have hw := hw.1 hc
            refine g_aload_n dX5_atom_151 rfl rfl ?_
            refine g_iconst (v := 2) dX5_atom_152 (by decide) ?_
            refine g_callVV [.int 2] (ci := 5) dX5_atom_153 ml_X5_107 mk_X5_refuse rfl rfl sh2 (by omega) (Nat.le_of_ble_eq_true rfl) rfl (c_Reader_refuse hw) (fun h9 hw => ?_)
            exact g_vret dX5_atom_156 hw
          · have hw := hw.2 hc
            refine g_aload_n dX5_atom_130 rfl rfl ?_
            obtain ⟨q10, hqq10, hsq10, hw⟩ := hw
            refine g_getM dX5_atom_131 fl_X5_28 sh2 rfl hqq10 ?_
            refine g_aload_n dX5_atom_134 rfl rfl ?_
            refine g_callVI [] (ci := 5) dX5_atom_135 ml_X5_205 mk_X5_nameCode rfl rfl sh2 (by omega) (Nat.le_of_ble_eq_true rfl) rfl (c_Reader_nameCode hw) (fun r11 h12 hw => ?_)
            refine g_callVV [.int r11] (ci := 3) dX5_atom_138 ml_X5_156 mk_X3_add rfl rfl hsq10 (by omega) (Nat.le_of_ble_eq_true rfl) rfl (c_Law_add hsq10 hw) (fun h13 hw => ?_)
            refine g_aload_n dX5_atom_141 rfl rfl ?_
            refine g_getO dX5_atom_142 fl_X5_12 sh2 rfl ?_
            refine g_callVV [] (ci := 9) dX5_atom_145 ml_X5_104 mk_X9_advance rfl rfl sh3 (by omega) (Nat.le_of_ble_eq_true rfl) rfl (c_Tokens_advance hw) (fun h14 hw => ?_)
            refine g_goto 156 dX5_atom_148 rfl ?_
            exact g_vret dX5_atom_156 hw
        · have hw := hw.2 hc
          refine g_aload_n dX5_atom_97 rfl rfl ?_
          refine g_iload_n dX5_atom_98 rfl rfl ?_
          refine g_callVI [.int x1] (ci := 5) dX5_atom_99 ml_X5_166 mk_X5_mayDeepen rfl rfl sh2 (by omega) (Nat.le_of_ble_eq_true rfl) rfl (c_Reader_mayDeepen hw) (fun r15 h16 hw => ?_)
          refine g_if_eq 156 dX5_atom_102 rfl (fun hc => ?_) (fun hc => ?_)
          · have hw := hw.1 hc
            exact g_vret dX5_atom_156 hw
          · have hw := hw.2 hc
            refine g_aload_n dX5_atom_105 rfl rfl ?_
            refine g_getO dX5_atom_106 fl_X5_12 sh2 rfl ?_
            refine g_callVV [] (ci := 9) dX5_atom_109 ml_X5_104 mk_X9_advance rfl rfl sh3 (by omega) (Nat.le_of_ble_eq_true rfl) rfl (c_Tokens_advance hw) (fun h17 hw => ?_)
            refine g_aload_n dX5_atom_112 rfl rfl ?_
            refine g_iload_n dX5_atom_113 rfl rfl ?_
            refine g_iconst (v := 1) dX5_atom_114 (by decide) ?_
            refine g_iadd dX5_atom_115 ?_
            refine g_callVV [.int (x1 + 1)] (ci := 5) dX5_atom_116 ml_X5_202 mk_X5_choice rfl rfl sh2 hdd (Nat.le_of_ble_eq_true rfl) rfl (hR_choice _ _ _ hw) (fun h18 hw => ?_)
            refine g_goto 156 dX5_atom_119 rfl ?_
            exact g_vret dX5_atom_156 hw
      · have hw := hw.2 hc
        refine g_aload_n dX5_atom_54 rfl rfl ?_
        refine g_iload_n dX5_atom_55 rfl rfl ?_
        refine g_callVI [.int x1] (ci := 5) dX5_atom_56 ml_X5_166 mk_X5_mayDeepen rfl rfl sh2 (by omega) (Nat.le_of_ble_eq_true rfl) rfl (c_Reader_mayDeepen hw) (fun r19 h20 hw => ?_)
        refine g_if_eq 156 dX5_atom_59 rfl (fun hc => ?_) (fun hc => ?_)
        · have hw := hw.1 hc
          exact g_vret dX5_atom_156 hw
        · have hw := hw.2 hc
          refine g_aload_n dX5_atom_62 rfl rfl ?_
          refine g_getO dX5_atom_63 fl_X5_12 sh2 rfl ?_
          refine g_callVV [] (ci := 9) dX5_atom_66 ml_X5_104 mk_X9_advance rfl rfl sh3 (by omega) (Nat.le_of_ble_eq_true rfl) rfl (c_Tokens_advance hw) (fun h21 hw => ?_)
          refine g_aload_n dX5_atom_69 rfl rfl ?_
          refine g_iload_n dX5_atom_70 rfl rfl ?_
          refine g_iconst (v := 1) dX5_atom_71 (by decide) ?_
          refine g_iadd dX5_atom_72 ?_
          refine g_callVV [.int (x1 + 1)] (ci := 5) dX5_atom_73 ml_X5_135 mk_X5_sum rfl rfl sh2 hdd (Nat.le_of_ble_eq_true rfl) rfl (hR_sum _ _ _ hw) (fun h22 hw => ?_)
          refine g_aload_n dX5_atom_76 rfl rfl ?_
          refine g_ldcS (i := 13) dX5_atom_77 (by decide) rfl ?_
          refine g_callVV [.ref (gSa G 13)] (ci := 5) dX5_atom_79 ml_X5_75 mk_X5_expect rfl rfl sh2 (by omega) (Nat.le_of_ble_eq_true rfl) rfl (c_Reader_expect (by decide) hw) (fun h23 hw => ?_)
          refine g_goto 156 dX5_atom_82 rfl ?_
          exact g_vret dX5_atom_156 hw
    · have hw := hw.2 hc
      refine g_aload_n dX5_atom_18 rfl rfl ?_
      obtain ⟨q24, hqq24, hsq24, hw⟩ := hw
      refine g_getM dX5_atom_19 fl_X5_28 sh2 rfl hqq24 ?_
      refine g_aload_n dX5_atom_22 rfl rfl ?_
      refine g_getO dX5_atom_23 fl_X5_12 sh2 rfl ?_
      refine g_getI dX5_atom_26 fl_X5_114 sh3 rfl ?_
      refine g_callVV [.int (gI h2 3 5)] (ci := 3) dX5_atom_29 ml_X5_156 mk_X3_add rfl rfl hsq24 (by omega) (Nat.le_of_ble_eq_true rfl) rfl (c_Law_add hsq24 hw) (fun h25 hw => ?_)
      refine g_aload_n dX5_atom_32 rfl rfl ?_
      refine g_getO dX5_atom_33 fl_X5_12 sh2 rfl ?_
      refine g_callVV [] (ci := 9) dX5_atom_36 ml_X5_104 mk_X9_advance rfl rfl sh3 (by omega) (Nat.le_of_ble_eq_true rfl) rfl (c_Tokens_advance hw) (fun h26 hw => ?_)
      refine g_goto 156 dX5_atom_39 rfl ?_
      exact g_vret dX5_atom_156 hw
  · have hw := hw.2 hc
    exact g_vret dX5_atom_7 hw
theorem dX5_term_0 : decode cX5_term 0 = .ok (.aload_n 0, 1) := by decide +kernel
theorem dX5_term_1 : decode cX5_term 1 = .ok (.iload_n 1, 1) := by decide +kernel
theorem dX5_term_2 : decode cX5_term 2 = .ok (.invokevirtual 191, 3) := by decide +kernel
theorem dX5_term_5 : decode cX5_term 5 = .ok (.iconst 0, 1) := by decide +kernel
theorem dX5_term_6 : decode cX5_term 6 = .ok (.istore_n 2, 1) := by decide +kernel
theorem dX5_term_7 : decode cX5_term 7 = .ok (.iload_n 2, 1) := by decide +kernel
theorem dX5_term_8 : decode cX5_term 8 = .ok (.sipush 900, 3) := by decide +kernel
theorem dX5_term_11 : decode cX5_term 11 = .ok (.if_icmp .ge 33, 3) := by decide +kernel
theorem dX5_term_14 : decode cX5_term 14 = .ok (.aload_n 0, 1) := by decide +kernel
theorem dX5_term_15 : decode cX5_term 15 = .ok (.ldc 194, 2) := by decide +kernel
theorem dX5_term_17 : decode cX5_term 17 = .ok (.invokevirtual 128, 3) := by decide +kernel
theorem dX5_term_20 : decode cX5_term 20 = .ok (.ifCond .eq 24, 3) := by decide +kernel
theorem dX5_term_23 : decode cX5_term 23 = .ok (.aload_n 0, 1) := by decide +kernel
theorem dX5_term_24 : decode cX5_term 24 = .ok (.iload_n 1, 1) := by decide +kernel
theorem dX5_term_25 : decode cX5_term 25 = .ok (.invokevirtual 191, 3) := by decide +kernel
theorem dX5_term_28 : decode cX5_term 28 = .ok (.aload_n 0, 1) := by decide +kernel
theorem dX5_term_29 : decode cX5_term 29 = .ok (.getfield 28, 3) := by decide +kernel
theorem dX5_term_32 : decode cX5_term 32 = .ok (.sipush 1012, 3) := by decide +kernel
theorem dX5_term_35 : decode cX5_term 35 = .ok (.invokevirtual 156, 3) := by decide +kernel
theorem dX5_term_38 : decode cX5_term 38 = .ok (.iinc 2 1, 3) := by decide +kernel
theorem dX5_term_41 : decode cX5_term 41 = .ok (.goto (-34), 3) := by decide +kernel
theorem dX5_term_44 : decode cX5_term 44 = .ok (.return_, 1) := by decide +kernel
theorem ml_X5_191 : Cond.methodLink RX5 191 yX5_atom ∈ Wd := mW 636 (by decide +kernel) rfl
theorem mk_X5_atom : MokV yX5_atom cX5_atom 2 none 1 := ⟨⟨mW 2 (by decide +kernel) rfl, mW 639 (by decide +kernel) rfl, ⟨by decide, by decide, by decide +kernel⟩, by decide⟩, mW 638 (by decide +kernel) rfl, mS (q := (yX5_atom, 15)) 11 (by decide +kernel)⟩
def Reader_term_L7 (x1 : Int32) (R_atom : Int32 → Hp → (Hp → Prop) → Prop) (R_both : Int32 → Hp → (Hp → Prop) → Prop) (R_choice : Int32 → Hp → (Hp → Prop) → Prop) (R_sum : Int32 → Hp → (Hp → Prop) → Prop) (R_term : Int32 → Hp → (Hp → Prop) → Prop) (R_truth : Int32 → Hp → (Hp → Prop) → Prop) (R_unit : Int32 → Hp → (Hp → Prop) → Prop) (Q : Hp → Prop) : Nat → Int32 → Hp → Prop
  | 0, _, _ => False
  | n + 1, x2, h => (900 ≤ x2 → Q h) ∧ (¬ 900 ≤ x2 → Reader_take 29 h (fun r2 h3 => (r2 = 0 → Q h3) ∧ (¬ r2 = 0 → R_atom x1 h3 (fun h4 => ∃ q5, gR h4 1 = some q5 ∧ SH q5 = .inl 3 ∧ Law_add q5 1012 h4 (fun h6 => ∀ v7 : Int32, v7 = (x2 + 1) → Reader_term_L7 x1 R_atom R_both R_choice R_sum R_term R_truth R_unit Q n v7 h6)))))
set_option maxHeartbeats 4000000 in
set_option maxRecDepth 20000 in
theorem gl_Reader_term_L7 {G : Gx}  {d d1 : Nat} (hdd : d1 + 1 ≤ d) (hD : 11 ≤ d) {R_atom : Int32 → Hp → (Hp → Prop) → Prop} {R_both : Int32 → Hp → (Hp → Prop) → Prop} {R_choice : Int32 → Hp → (Hp → Prop) → Prop} {R_sum : Int32 → Hp → (Hp → Prop) → Prop} {R_term : Int32 → Hp → (Hp → Prop) → Prop} {R_truth : Int32 → Hp → (Hp → Prop) → Prop} {R_unit : Int32 → Hp → (Hp → Prop) → Prop} (hR_atom : ∀ (y0 : Int32) (h : Hp) (Q : Hp → Prop), R_atom y0 h Q → Ct yX5_atom cX5_atom 2 none d1 G [.ref (gAd G 2), .int y0] h (QV G Q)) (hR_both : ∀ (y0 : Int32) (h : Hp) (Q : Hp → Prop), R_both y0 h Q → Ct yX5_both cX5_both 3 none d1 G [.ref (gAd G 2), .int y0] h (QV G Q)) (hR_choice : ∀ (y0 : Int32) (h : Hp) (Q : Hp → Prop), R_choice y0 h Q → Ct yX5_choice cX5_choice 2 none d1 G [.ref (gAd G 2), .int y0] h (QV G Q)) (hR_sum : ∀ (y0 : Int32) (h : Hp) (Q : Hp → Prop), R_sum y0 h Q → Ct yX5_sum cX5_sum 4 none d1 G [.ref (gAd G 2), .int y0] h (QV G Q)) (hR_term : ∀ (y0 : Int32) (h : Hp) (Q : Hp → Prop), R_term y0 h Q → Ct yX5_term cX5_term 3 none d1 G [.ref (gAd G 2), .int y0] h (QV G Q)) (hR_truth : ∀ (y0 : Int32) (h : Hp) (Q : Hp → Prop), R_truth y0 h Q → Ct yX5_truth cX5_truth 3 none d1 G [.ref (gAd G 2), .int y0] h (QV G Q)) (hR_unit : ∀ (y0 : Int32) (h : Hp) (Q : Hp → Prop), R_unit y0 h Q → Ct yX5_unit cX5_unit 3 none d1 G [.ref (gAd G 2), .int y0] h (QV G Q)) {x1 : Int32} {Q : Hp → Prop} : ∀ (n : Nat) (x2 : Int32) (h : Hp), Reader_term_L7 x1 R_atom R_both R_choice R_sum R_term R_truth R_unit Q n x2 h → Go cX5_term 3 RX5 none d G (QV G Q) 7 [(0, .ref (gAd G 2)), (1, .int x1), (2, .int x2)] [] h := by
  intro n
  induction n with
  | zero => intro _ h hw; exact False.elim hw
  | succ n ih =>
    intro x2 h hw
    refine g_iload_n dX5_term_7 rfl rfl ?_
    refine g_sipush (v := 900) dX5_term_8 (by decide) ?_
    refine g_icmp_ge 44 dX5_term_11 rfl (fun hc => ?_) (fun hc => ?_)
    · have hw := hw.1 hc
      exact g_vret dX5_term_44 hw
    · have hw := hw.2 hc
      refine g_aload_n dX5_term_14 rfl rfl ?_
      refine g_ldcS (i := 29) dX5_term_15 (by decide) rfl ?_
      refine g_callVI [.ref (gSa G 29)] (ci := 5) dX5_term_17 ml_X5_128 mk_X5_take rfl rfl sh2 (by omega) (Nat.le_of_ble_eq_true rfl) rfl (c_Reader_take (by decide) hw) (fun r2 h3 hw => ?_)
      refine g_if_eq 44 dX5_term_20 rfl (fun hc => ?_) (fun hc => ?_)
      · have hw := hw.1 hc
        exact g_vret dX5_term_44 hw
      · have hw := hw.2 hc
        refine g_aload_n dX5_term_23 rfl rfl ?_
        refine g_iload_n dX5_term_24 rfl rfl ?_
        refine g_callVV [.int x1] (ci := 5) dX5_term_25 ml_X5_191 mk_X5_atom rfl rfl sh2 hdd (Nat.le_of_ble_eq_true rfl) rfl (hR_atom _ _ _ hw) (fun h4 hw => ?_)
        refine g_aload_n dX5_term_28 rfl rfl ?_
        obtain ⟨q5, hqq5, hsq5, hw⟩ := hw
        refine g_getM dX5_term_29 fl_X5_28 sh2 rfl hqq5 ?_
        refine g_sipush (v := 1012) dX5_term_32 (by decide) ?_
        refine g_callVV [.int 1012] (ci := 3) dX5_term_35 ml_X5_156 mk_X3_add rfl rfl hsq5 (by omega) (Nat.le_of_ble_eq_true rfl) rfl (c_Law_add hsq5 hw) (fun h6 hw => ?_)
        obtain ⟨v7, ev7⟩ : ∃ y : Int32, y = (x2 + 1) := ⟨_, rfl⟩
        have hw := hw v7 ev7
        refine g_iinc dX5_term_38 rfl (by rw [ev7]; rfl) (by decide) (lv1 := [(0, .ref (gAd G 2)), (1, .int x1), (2, .int v7)]) rfl ?_
        refine g_goto 7 dX5_term_41 rfl ?_
        exact ih _ _ hw
def Reader_term_B  (R_atom : Int32 → Hp → (Hp → Prop) → Prop) (R_both : Int32 → Hp → (Hp → Prop) → Prop) (R_choice : Int32 → Hp → (Hp → Prop) → Prop) (R_sum : Int32 → Hp → (Hp → Prop) → Prop) (R_term : Int32 → Hp → (Hp → Prop) → Prop) (R_truth : Int32 → Hp → (Hp → Prop) → Prop) (R_unit : Int32 → Hp → (Hp → Prop) → Prop) (x1 : Int32) (h : Hp) (Q : Hp → Prop) : Prop := R_atom x1 h (fun h1 => ∃ n8, Reader_term_L7 x1 R_atom R_both R_choice R_sum R_term R_truth R_unit Q n8 0 h1)
set_option maxHeartbeats 4000000 in
set_option maxRecDepth 20000 in
theorem cb_Reader_term {G : Gx}  {d d1 : Nat} (hdd : d1 + 1 ≤ d) (hD : 11 ≤ d) {R_atom : Int32 → Hp → (Hp → Prop) → Prop} {R_both : Int32 → Hp → (Hp → Prop) → Prop} {R_choice : Int32 → Hp → (Hp → Prop) → Prop} {R_sum : Int32 → Hp → (Hp → Prop) → Prop} {R_term : Int32 → Hp → (Hp → Prop) → Prop} {R_truth : Int32 → Hp → (Hp → Prop) → Prop} {R_unit : Int32 → Hp → (Hp → Prop) → Prop} (hR_atom : ∀ (y0 : Int32) (h : Hp) (Q : Hp → Prop), R_atom y0 h Q → Ct yX5_atom cX5_atom 2 none d1 G [.ref (gAd G 2), .int y0] h (QV G Q)) (hR_both : ∀ (y0 : Int32) (h : Hp) (Q : Hp → Prop), R_both y0 h Q → Ct yX5_both cX5_both 3 none d1 G [.ref (gAd G 2), .int y0] h (QV G Q)) (hR_choice : ∀ (y0 : Int32) (h : Hp) (Q : Hp → Prop), R_choice y0 h Q → Ct yX5_choice cX5_choice 2 none d1 G [.ref (gAd G 2), .int y0] h (QV G Q)) (hR_sum : ∀ (y0 : Int32) (h : Hp) (Q : Hp → Prop), R_sum y0 h Q → Ct yX5_sum cX5_sum 4 none d1 G [.ref (gAd G 2), .int y0] h (QV G Q)) (hR_term : ∀ (y0 : Int32) (h : Hp) (Q : Hp → Prop), R_term y0 h Q → Ct yX5_term cX5_term 3 none d1 G [.ref (gAd G 2), .int y0] h (QV G Q)) (hR_truth : ∀ (y0 : Int32) (h : Hp) (Q : Hp → Prop), R_truth y0 h Q → Ct yX5_truth cX5_truth 3 none d1 G [.ref (gAd G 2), .int y0] h (QV G Q)) (hR_unit : ∀ (y0 : Int32) (h : Hp) (Q : Hp → Prop), R_unit y0 h Q → Ct yX5_unit cX5_unit 3 none d1 G [.ref (gAd G 2), .int y0] h (QV G Q)) {x1 : Int32} {h : Hp} {Q : Hp → Prop} (hw : Reader_term_B  R_atom R_both R_choice R_sum R_term R_truth R_unit x1 h Q) : Ct yX5_term cX5_term 3 none d G [.ref (gAd G 2), .int x1] h (QV G Q) := by
  refine ct_go [(0, .ref (gAd G 2)), (1, .int x1)] (plainFor_of_name (by decide)) rfl (Nat.le_of_ble_eq_true rfl) rfl ?_
  refine g_aload_n dX5_term_0 rfl rfl ?_
  refine g_iload_n dX5_term_1 rfl rfl ?_
  refine g_callVV [.int x1] (ci := 5) dX5_term_2 ml_X5_191 mk_X5_atom rfl rfl sh2 hdd (Nat.le_of_ble_eq_true rfl) rfl (hR_atom _ _ _ hw) (fun h1 hw => ?_)
  refine g_iconst (v := 0) dX5_term_5 (by decide) ?_
  refine g_istore_n dX5_term_6 rfl (by decide) (lv1 := [(0, .ref (gAd G 2)), (1, .int x1), (2, .int 0)]) rfl ?_
  obtain ⟨n8, hw⟩ := hw
  refine gl_Reader_term_L7  hdd hD hR_atom hR_both hR_choice hR_sum hR_term hR_truth hR_unit  _ _ _ hw
theorem dX5_sum_0 : decode cX5_sum 0 = .ok (.aload_n 0, 1) := by decide +kernel
theorem dX5_sum_1 : decode cX5_sum 1 = .ok (.iload_n 1, 1) := by decide +kernel
theorem dX5_sum_2 : decode cX5_sum 2 = .ok (.invokevirtual 184, 3) := by decide +kernel
theorem dX5_sum_5 : decode cX5_sum 5 = .ok (.iconst 0, 1) := by decide +kernel
theorem dX5_sum_6 : decode cX5_sum 6 = .ok (.istore_n 2, 1) := by decide +kernel
theorem dX5_sum_7 : decode cX5_sum 7 = .ok (.iload_n 2, 1) := by decide +kernel
theorem dX5_sum_8 : decode cX5_sum 8 = .ok (.sipush 900, 3) := by decide +kernel
theorem dX5_sum_11 : decode cX5_sum 11 = .ok (.if_icmp .ge 55, 3) := by decide +kernel
theorem dX5_sum_14 : decode cX5_sum 14 = .ok (.aload_n 0, 1) := by decide +kernel
theorem dX5_sum_15 : decode cX5_sum 15 = .ok (.ldc 187, 2) := by decide +kernel
theorem dX5_sum_17 : decode cX5_sum 17 = .ok (.invokevirtual 128, 3) := by decide +kernel
theorem dX5_sum_20 : decode cX5_sum 20 = .ok (.istore_n 3, 1) := by decide +kernel
theorem dX5_sum_21 : decode cX5_sum 21 = .ok (.iload_n 3, 1) := by decide +kernel
theorem dX5_sum_22 : decode cX5_sum 22 = .ok (.ifCond .ne 13, 3) := by decide +kernel
theorem dX5_sum_25 : decode cX5_sum 25 = .ok (.aload_n 0, 1) := by decide +kernel
theorem dX5_sum_26 : decode cX5_sum 26 = .ok (.ldc 189, 2) := by decide +kernel
theorem dX5_sum_28 : decode cX5_sum 28 = .ok (.invokevirtual 128, 3) := by decide +kernel
theorem dX5_sum_31 : decode cX5_sum 31 = .ok (.ifCond .ne 4, 3) := by decide +kernel
theorem dX5_sum_34 : decode cX5_sum 34 = .ok (.return_, 1) := by decide +kernel
theorem dX5_sum_35 : decode cX5_sum 35 = .ok (.aload_n 0, 1) := by decide +kernel
theorem dX5_sum_36 : decode cX5_sum 36 = .ok (.iload_n 1, 1) := by decide +kernel
theorem dX5_sum_37 : decode cX5_sum 37 = .ok (.invokevirtual 184, 3) := by decide +kernel
theorem dX5_sum_40 : decode cX5_sum 40 = .ok (.aload_n 0, 1) := by decide +kernel
theorem dX5_sum_41 : decode cX5_sum 41 = .ok (.getfield 28, 3) := by decide +kernel
theorem dX5_sum_44 : decode cX5_sum 44 = .ok (.iload_n 3, 1) := by decide +kernel
theorem dX5_sum_45 : decode cX5_sum 45 = .ok (.ifCond .eq 9, 3) := by decide +kernel
theorem dX5_sum_48 : decode cX5_sum 48 = .ok (.sipush 1010, 3) := by decide +kernel
theorem dX5_sum_51 : decode cX5_sum 51 = .ok (.goto 6, 3) := by decide +kernel
theorem dX5_sum_54 : decode cX5_sum 54 = .ok (.sipush 1011, 3) := by decide +kernel
theorem dX5_sum_57 : decode cX5_sum 57 = .ok (.invokevirtual 156, 3) := by decide +kernel
theorem dX5_sum_60 : decode cX5_sum 60 = .ok (.iinc 2 1, 3) := by decide +kernel
theorem dX5_sum_63 : decode cX5_sum 63 = .ok (.goto (-56), 3) := by decide +kernel
theorem dX5_sum_66 : decode cX5_sum 66 = .ok (.return_, 1) := by decide +kernel
theorem ml_X5_184 : Cond.methodLink RX5 184 yX5_term ∈ Wd := mW 632 (by decide +kernel) rfl
theorem mk_X5_term : MokV yX5_term cX5_term 3 none 1 := ⟨⟨mW 2 (by decide +kernel) rfl, mW 635 (by decide +kernel) rfl, ⟨by decide, by decide, by decide +kernel⟩, by decide⟩, mW 634 (by decide +kernel) rfl, mS (q := (yX5_term, 15)) 10 (by decide +kernel)⟩
def Reader_sum_L7 (x1 : Int32) (R_atom : Int32 → Hp → (Hp → Prop) → Prop) (R_both : Int32 → Hp → (Hp → Prop) → Prop) (R_choice : Int32 → Hp → (Hp → Prop) → Prop) (R_sum : Int32 → Hp → (Hp → Prop) → Prop) (R_term : Int32 → Hp → (Hp → Prop) → Prop) (R_truth : Int32 → Hp → (Hp → Prop) → Prop) (R_unit : Int32 → Hp → (Hp → Prop) → Prop) (Q : Hp → Prop) : Nat → Int32 → Hp → Prop
  | 0, _, _ => False
  | n + 1, x2, h => (900 ≤ x2 → Q h) ∧ (¬ 900 ≤ x2 → Reader_take 30 h (fun r2 h3 => ∀ J35 : Hp → Prop, J35 = (fun h4 => R_term x1 h4 (fun h5 => ∃ q6, gR h5 1 = some q6 ∧ SH q6 = .inl 3 ∧ ∀ J57 : Int32 → Hp → Prop, J57 = (fun s7 h8 => Law_add q6 s7 h8 (fun h9 => ∀ v10 : Int32, v10 = (x2 + 1) → Reader_sum_L7 x1 R_atom R_both R_choice R_sum R_term R_truth R_unit Q n v10 h9)) → (r2 = 0 → J57 1011 h5) ∧ (¬ r2 = 0 → J57 1010 h5))) → (¬ r2 = 0 → J35 h3) ∧ (r2 = 0 → Reader_take 31 h3 (fun r11 h12 => (¬ r11 = 0 → J35 h12) ∧ (r11 = 0 → Q h12)))))
set_option maxHeartbeats 4000000 in
set_option maxRecDepth 20000 in
theorem gl_Reader_sum_L7 {G : Gx}  {d d1 : Nat} (hdd : d1 + 1 ≤ d) (hD : 11 ≤ d) {R_atom : Int32 → Hp → (Hp → Prop) → Prop} {R_both : Int32 → Hp → (Hp → Prop) → Prop} {R_choice : Int32 → Hp → (Hp → Prop) → Prop} {R_sum : Int32 → Hp → (Hp → Prop) → Prop} {R_term : Int32 → Hp → (Hp → Prop) → Prop} {R_truth : Int32 → Hp → (Hp → Prop) → Prop} {R_unit : Int32 → Hp → (Hp → Prop) → Prop} (hR_atom : ∀ (y0 : Int32) (h : Hp) (Q : Hp → Prop), R_atom y0 h Q → Ct yX5_atom cX5_atom 2 none d1 G [.ref (gAd G 2), .int y0] h (QV G Q)) (hR_both : ∀ (y0 : Int32) (h : Hp) (Q : Hp → Prop), R_both y0 h Q → Ct yX5_both cX5_both 3 none d1 G [.ref (gAd G 2), .int y0] h (QV G Q)) (hR_choice : ∀ (y0 : Int32) (h : Hp) (Q : Hp → Prop), R_choice y0 h Q → Ct yX5_choice cX5_choice 2 none d1 G [.ref (gAd G 2), .int y0] h (QV G Q)) (hR_sum : ∀ (y0 : Int32) (h : Hp) (Q : Hp → Prop), R_sum y0 h Q → Ct yX5_sum cX5_sum 4 none d1 G [.ref (gAd G 2), .int y0] h (QV G Q)) (hR_term : ∀ (y0 : Int32) (h : Hp) (Q : Hp → Prop), R_term y0 h Q → Ct yX5_term cX5_term 3 none d1 G [.ref (gAd G 2), .int y0] h (QV G Q)) (hR_truth : ∀ (y0 : Int32) (h : Hp) (Q : Hp → Prop), R_truth y0 h Q → Ct yX5_truth cX5_truth 3 none d1 G [.ref (gAd G 2), .int y0] h (QV G Q)) (hR_unit : ∀ (y0 : Int32) (h : Hp) (Q : Hp → Prop), R_unit y0 h Q → Ct yX5_unit cX5_unit 3 none d1 G [.ref (gAd G 2), .int y0] h (QV G Q)) {x1 : Int32} {Q : Hp → Prop} : ∀ (n : Nat) (x2 : Int32) (h : Hp), Reader_sum_L7 x1 R_atom R_both R_choice R_sum R_term R_truth R_unit Q n x2 h → Go cX5_sum 4 RX5 none d G (QV G Q) 7 [(0, .ref (gAd G 2)), (1, .int x1), (2, .int x2)] [] h := by
  intro n
  induction n with
  | zero => intro _ h hw; exact False.elim hw
  | succ n ih =>
    intro x2 h hw
    refine g_iload_n dX5_sum_7 rfl rfl ?_
    refine g_sipush (v := 900) dX5_sum_8 (by decide) ?_
    refine g_icmp_ge 66 dX5_sum_11 rfl (fun hc => ?_) (fun hc => ?_)
    · have hw := hw.1 hc
      exact g_vret dX5_sum_66 hw
    · have hw := hw.2 hc
      refine g_aload_n dX5_sum_14 rfl rfl ?_
      refine g_ldcS (i := 30) dX5_sum_15 (by decide) rfl ?_
      refine g_callVI [.ref (gSa G 30)] (ci := 5) dX5_sum_17 ml_X5_128 mk_X5_take rfl rfl sh2 (by omega) (Nat.le_of_ble_eq_true rfl) rfl (c_Reader_take (by decide) hw) (fun r2 h3 hw => ?_)
      refine g_istore_n dX5_sum_20 rfl (by decide) (lv1 := [(0, .ref (gAd G 2)), (1, .int x1), (2, .int x2), (3, .int r2)]) rfl ?_
      refine g_iload_n dX5_sum_21 rfl rfl ?_
      refine jn_el hw (fun J35 eJ35 hw => ?_)
      have hJ35 : ∀ (h4 : Hp), J35 h4 → Go cX5_sum 4 RX5 none d G (QV G Q) 35 [(0, .ref (gAd G 2)), (1, .int x1), (2, .int x2), (3, .int r2)] [] h4 := by
        intro h4 hw
        subst eJ35
        refine g_aload_n dX5_sum_35 rfl rfl ?_
        refine g_iload_n dX5_sum_36 rfl rfl ?_
        refine g_callVV [.int x1] (ci := 5) dX5_sum_37 ml_X5_184 mk_X5_term rfl rfl sh2 hdd (Nat.le_of_ble_eq_true rfl) rfl (hR_term _ _ _ hw) (fun h5 hw => ?_)
        refine g_aload_n dX5_sum_40 rfl rfl ?_
        obtain ⟨q6, hqq6, hsq6, hw⟩ := hw
        refine g_getM dX5_sum_41 fl_X5_28 sh2 rfl hqq6 ?_
        refine g_iload_n dX5_sum_44 rfl rfl ?_
        refine jn_el hw (fun J57 eJ57 hw => ?_)
        have hJ57 : ∀ (s7 : Int32) (h8 : Hp), J57 s7 h8 → Go cX5_sum 4 RX5 none d G (QV G Q) 57 [(0, .ref (gAd G 2)), (1, .int x1), (2, .int x2)] [.int s7, .ref (gAd G q6)] h8 := by
          intro s7 h8 hw
          subst eJ57
          refine g_callVV [.int s7] (ci := 3) dX5_sum_57 ml_X5_156 mk_X3_add rfl rfl hsq6 (by omega) (Nat.le_of_ble_eq_true rfl) rfl (c_Law_add hsq6 hw) (fun h9 hw => ?_)
          obtain ⟨v10, ev10⟩ : ∃ y : Int32, y = (x2 + 1) := ⟨_, rfl⟩
          have hw := hw v10 ev10
          refine g_iinc dX5_sum_60 rfl (by rw [ev10]; rfl) (by decide) (lv1 := [(0, .ref (gAd G 2)), (1, .int x1), (2, .int v10)]) rfl ?_
          refine g_goto 7 dX5_sum_63 rfl ?_
          exact ih _ _ hw
        refine g_if_eq 54 dX5_sum_45 rfl (fun hc => ?_) (fun hc => ?_)
        · have hw := hw.1 hc
          refine g_sipush (v := 1011) dX5_sum_54 (by decide) ?_
          refine g_lv [0, 1, 2] rfl ?_
          exact hJ57 _ _ hw
        · have hw := hw.2 hc
          refine g_sipush (v := 1010) dX5_sum_48 (by decide) ?_
          refine g_goto 57 dX5_sum_51 rfl ?_
          refine g_lv [0, 1, 2] rfl ?_
          exact hJ57 _ _ hw
      refine g_if_ne 35 dX5_sum_22 rfl (fun hc => ?_) (fun hc => ?_)
      · have hw := hw.1 hc
        exact hJ35 _ hw
      · have hw := hw.2 hc
        refine g_aload_n dX5_sum_25 rfl rfl ?_
        refine g_ldcS (i := 31) dX5_sum_26 (by decide) rfl ?_
        refine g_callVI [.ref (gSa G 31)] (ci := 5) dX5_sum_28 ml_X5_128 mk_X5_take rfl rfl sh2 (by omega) (Nat.le_of_ble_eq_true rfl) rfl (c_Reader_take (by decide) hw) (fun r11 h12 hw => ?_)
        refine g_if_ne 35 dX5_sum_31 rfl (fun hc => ?_) (fun hc => ?_)
        · have hw := hw.1 hc
          exact hJ35 _ hw
        · have hw := hw.2 hc
          exact g_vret dX5_sum_34 hw
def Reader_sum_B  (R_atom : Int32 → Hp → (Hp → Prop) → Prop) (R_both : Int32 → Hp → (Hp → Prop) → Prop) (R_choice : Int32 → Hp → (Hp → Prop) → Prop) (R_sum : Int32 → Hp → (Hp → Prop) → Prop) (R_term : Int32 → Hp → (Hp → Prop) → Prop) (R_truth : Int32 → Hp → (Hp → Prop) → Prop) (R_unit : Int32 → Hp → (Hp → Prop) → Prop) (x1 : Int32) (h : Hp) (Q : Hp → Prop) : Prop := R_term x1 h (fun h1 => ∃ n13, Reader_sum_L7 x1 R_atom R_both R_choice R_sum R_term R_truth R_unit Q n13 0 h1)
set_option maxHeartbeats 4000000 in
set_option maxRecDepth 20000 in
theorem cb_Reader_sum {G : Gx}  {d d1 : Nat} (hdd : d1 + 1 ≤ d) (hD : 11 ≤ d) {R_atom : Int32 → Hp → (Hp → Prop) → Prop} {R_both : Int32 → Hp → (Hp → Prop) → Prop} {R_choice : Int32 → Hp → (Hp → Prop) → Prop} {R_sum : Int32 → Hp → (Hp → Prop) → Prop} {R_term : Int32 → Hp → (Hp → Prop) → Prop} {R_truth : Int32 → Hp → (Hp → Prop) → Prop} {R_unit : Int32 → Hp → (Hp → Prop) → Prop} (hR_atom : ∀ (y0 : Int32) (h : Hp) (Q : Hp → Prop), R_atom y0 h Q → Ct yX5_atom cX5_atom 2 none d1 G [.ref (gAd G 2), .int y0] h (QV G Q)) (hR_both : ∀ (y0 : Int32) (h : Hp) (Q : Hp → Prop), R_both y0 h Q → Ct yX5_both cX5_both 3 none d1 G [.ref (gAd G 2), .int y0] h (QV G Q)) (hR_choice : ∀ (y0 : Int32) (h : Hp) (Q : Hp → Prop), R_choice y0 h Q → Ct yX5_choice cX5_choice 2 none d1 G [.ref (gAd G 2), .int y0] h (QV G Q)) (hR_sum : ∀ (y0 : Int32) (h : Hp) (Q : Hp → Prop), R_sum y0 h Q → Ct yX5_sum cX5_sum 4 none d1 G [.ref (gAd G 2), .int y0] h (QV G Q)) (hR_term : ∀ (y0 : Int32) (h : Hp) (Q : Hp → Prop), R_term y0 h Q → Ct yX5_term cX5_term 3 none d1 G [.ref (gAd G 2), .int y0] h (QV G Q)) (hR_truth : ∀ (y0 : Int32) (h : Hp) (Q : Hp → Prop), R_truth y0 h Q → Ct yX5_truth cX5_truth 3 none d1 G [.ref (gAd G 2), .int y0] h (QV G Q)) (hR_unit : ∀ (y0 : Int32) (h : Hp) (Q : Hp → Prop), R_unit y0 h Q → Ct yX5_unit cX5_unit 3 none d1 G [.ref (gAd G 2), .int y0] h (QV G Q)) {x1 : Int32} {h : Hp} {Q : Hp → Prop} (hw : Reader_sum_B  R_atom R_both R_choice R_sum R_term R_truth R_unit x1 h Q) : Ct yX5_sum cX5_sum 4 none d G [.ref (gAd G 2), .int x1] h (QV G Q) := by
  refine ct_go [(0, .ref (gAd G 2)), (1, .int x1)] (plainFor_of_name (by decide)) rfl (Nat.le_of_ble_eq_true rfl) rfl ?_
  refine g_aload_n dX5_sum_0 rfl rfl ?_
  refine g_iload_n dX5_sum_1 rfl rfl ?_
  refine g_callVV [.int x1] (ci := 5) dX5_sum_2 ml_X5_184 mk_X5_term rfl rfl sh2 hdd (Nat.le_of_ble_eq_true rfl) rfl (hR_term _ _ _ hw) (fun h1 hw => ?_)
  refine g_iconst (v := 0) dX5_sum_5 (by decide) ?_
  refine g_istore_n dX5_sum_6 rfl (by decide) (lv1 := [(0, .ref (gAd G 2)), (1, .int x1), (2, .int 0)]) rfl ?_
  obtain ⟨n13, hw⟩ := hw
  refine gl_Reader_sum_L7  hdd hD hR_atom hR_both hR_choice hR_sum hR_term hR_truth hR_unit  _ _ _ hw
def Reader_cyc  : Nat → Nat → Int32 → Hp → (Hp → Prop) → Prop
  | 0, _, _, _, _ => False
  | n + 1, k, x, h, Q => match k with
    | 0 => Reader_atom_B  (Reader_cyc  n 0) (Reader_cyc  n 1) (Reader_cyc  n 2) (Reader_cyc  n 3) (Reader_cyc  n 4) (Reader_cyc  n 5) (Reader_cyc  n 6) x h Q
    | 1 => Reader_both_B  (Reader_cyc  n 0) (Reader_cyc  n 1) (Reader_cyc  n 2) (Reader_cyc  n 3) (Reader_cyc  n 4) (Reader_cyc  n 5) (Reader_cyc  n 6) x h Q
    | 2 => Reader_choice_B  (Reader_cyc  n 0) (Reader_cyc  n 1) (Reader_cyc  n 2) (Reader_cyc  n 3) (Reader_cyc  n 4) (Reader_cyc  n 5) (Reader_cyc  n 6) x h Q
    | 3 => Reader_sum_B  (Reader_cyc  n 0) (Reader_cyc  n 1) (Reader_cyc  n 2) (Reader_cyc  n 3) (Reader_cyc  n 4) (Reader_cyc  n 5) (Reader_cyc  n 6) x h Q
    | 4 => Reader_term_B  (Reader_cyc  n 0) (Reader_cyc  n 1) (Reader_cyc  n 2) (Reader_cyc  n 3) (Reader_cyc  n 4) (Reader_cyc  n 5) (Reader_cyc  n 6) x h Q
    | 5 => Reader_truth_B  (Reader_cyc  n 0) (Reader_cyc  n 1) (Reader_cyc  n 2) (Reader_cyc  n 3) (Reader_cyc  n 4) (Reader_cyc  n 5) (Reader_cyc  n 6) x h Q
    | 6 => Reader_unit_B  (Reader_cyc  n 0) (Reader_cyc  n 1) (Reader_cyc  n 2) (Reader_cyc  n 3) (Reader_cyc  n 4) (Reader_cyc  n 5) (Reader_cyc  n 6) x h Q
    | _ => False
theorem cn_Reader_cyc {G : Gx}  : ∀ (n : Nat), (∀ (x1 : Int32) (h : Hp) (Q : Hp → Prop), Reader_cyc  n 0 x1 h Q → Ct yX5_atom cX5_atom 2 none (11 + n) G [.ref (gAd G 2), .int x1] h (QV G Q)) ∧ (∀ (x1 : Int32) (h : Hp) (Q : Hp → Prop), Reader_cyc  n 1 x1 h Q → Ct yX5_both cX5_both 3 none (11 + n) G [.ref (gAd G 2), .int x1] h (QV G Q)) ∧ (∀ (x1 : Int32) (h : Hp) (Q : Hp → Prop), Reader_cyc  n 2 x1 h Q → Ct yX5_choice cX5_choice 2 none (11 + n) G [.ref (gAd G 2), .int x1] h (QV G Q)) ∧ (∀ (x1 : Int32) (h : Hp) (Q : Hp → Prop), Reader_cyc  n 3 x1 h Q → Ct yX5_sum cX5_sum 4 none (11 + n) G [.ref (gAd G 2), .int x1] h (QV G Q)) ∧ (∀ (x1 : Int32) (h : Hp) (Q : Hp → Prop), Reader_cyc  n 4 x1 h Q → Ct yX5_term cX5_term 3 none (11 + n) G [.ref (gAd G 2), .int x1] h (QV G Q)) ∧ (∀ (x1 : Int32) (h : Hp) (Q : Hp → Prop), Reader_cyc  n 5 x1 h Q → Ct yX5_truth cX5_truth 3 none (11 + n) G [.ref (gAd G 2), .int x1] h (QV G Q)) ∧ (∀ (x1 : Int32) (h : Hp) (Q : Hp → Prop), Reader_cyc  n 6 x1 h Q → Ct yX5_unit cX5_unit 3 none (11 + n) G [.ref (gAd G 2), .int x1] h (QV G Q)) := by
  intro n
  induction n with
  | zero => exact ⟨fun _ _ _ hw => False.elim hw, fun _ _ _ hw => False.elim hw, fun _ _ _ hw => False.elim hw, fun _ _ _ hw => False.elim hw, fun _ _ _ hw => False.elim hw, fun _ _ _ hw => False.elim hw, fun _ _ _ hw => False.elim hw⟩
  | succ n ih =>
    obtain ⟨i0, i1, i2, i3, i4, i5, i6⟩ := ih
    exact ⟨fun x1 h Q hw => cb_Reader_atom  (d := 11 + (n + 1)) (d1 := 11 + n) (by omega) (by omega) i0 i1 i2 i3 i4 i5 i6 hw, fun x1 h Q hw => cb_Reader_both  (d := 11 + (n + 1)) (d1 := 11 + n) (by omega) (by omega) i0 i1 i2 i3 i4 i5 i6 hw, fun x1 h Q hw => cb_Reader_choice  (d := 11 + (n + 1)) (d1 := 11 + n) (by omega) (by omega) i0 i1 i2 i3 i4 i5 i6 hw, fun x1 h Q hw => cb_Reader_sum  (d := 11 + (n + 1)) (d1 := 11 + n) (by omega) (by omega) i0 i1 i2 i3 i4 i5 i6 hw, fun x1 h Q hw => cb_Reader_term  (d := 11 + (n + 1)) (d1 := 11 + n) (by omega) (by omega) i0 i1 i2 i3 i4 i5 i6 hw, fun x1 h Q hw => cb_Reader_truth  (d := 11 + (n + 1)) (d1 := 11 + n) (by omega) (by omega) i0 i1 i2 i3 i4 i5 i6 hw, fun x1 h Q hw => cb_Reader_unit  (d := 11 + (n + 1)) (d1 := 11 + n) (by omega) (by omega) i0 i1 i2 i3 i4 i5 i6 hw⟩
def Reader_atom  (n : Nat) (x1 : Int32) (h : Hp) (Q : Hp → Prop) : Prop := Reader_cyc  n 0 x1 h Q
theorem c_Reader_atom {G : Gx}  {x1 : Int32} {h : Hp} {Q : Hp → Prop} (hw : Reader_atom  64 x1 h Q) : Ct yX5_atom cX5_atom 2 none 75 G [.ref (gAd G 2), .int x1] h (QV G Q) := (cn_Reader_cyc  64).1 _ _ _ hw
def Reader_both  (n : Nat) (x1 : Int32) (h : Hp) (Q : Hp → Prop) : Prop := Reader_cyc  n 1 x1 h Q
theorem c_Reader_both {G : Gx}  {x1 : Int32} {h : Hp} {Q : Hp → Prop} (hw : Reader_both  64 x1 h Q) : Ct yX5_both cX5_both 3 none 75 G [.ref (gAd G 2), .int x1] h (QV G Q) := (cn_Reader_cyc  64).2.1 _ _ _ hw
def Reader_choice  (n : Nat) (x1 : Int32) (h : Hp) (Q : Hp → Prop) : Prop := Reader_cyc  n 2 x1 h Q
theorem c_Reader_choice {G : Gx}  {x1 : Int32} {h : Hp} {Q : Hp → Prop} (hw : Reader_choice  64 x1 h Q) : Ct yX5_choice cX5_choice 2 none 75 G [.ref (gAd G 2), .int x1] h (QV G Q) := (cn_Reader_cyc  64).2.2.1 _ _ _ hw
def Reader_sum  (n : Nat) (x1 : Int32) (h : Hp) (Q : Hp → Prop) : Prop := Reader_cyc  n 3 x1 h Q
theorem c_Reader_sum {G : Gx}  {x1 : Int32} {h : Hp} {Q : Hp → Prop} (hw : Reader_sum  64 x1 h Q) : Ct yX5_sum cX5_sum 4 none 75 G [.ref (gAd G 2), .int x1] h (QV G Q) := (cn_Reader_cyc  64).2.2.2.1 _ _ _ hw
def Reader_term  (n : Nat) (x1 : Int32) (h : Hp) (Q : Hp → Prop) : Prop := Reader_cyc  n 4 x1 h Q
theorem c_Reader_term {G : Gx}  {x1 : Int32} {h : Hp} {Q : Hp → Prop} (hw : Reader_term  64 x1 h Q) : Ct yX5_term cX5_term 3 none 75 G [.ref (gAd G 2), .int x1] h (QV G Q) := (cn_Reader_cyc  64).2.2.2.2.1 _ _ _ hw
def Reader_truth  (n : Nat) (x1 : Int32) (h : Hp) (Q : Hp → Prop) : Prop := Reader_cyc  n 5 x1 h Q
theorem c_Reader_truth {G : Gx}  {x1 : Int32} {h : Hp} {Q : Hp → Prop} (hw : Reader_truth  64 x1 h Q) : Ct yX5_truth cX5_truth 3 none 75 G [.ref (gAd G 2), .int x1] h (QV G Q) := (cn_Reader_cyc  64).2.2.2.2.2.1 _ _ _ hw
def Reader_unit  (n : Nat) (x1 : Int32) (h : Hp) (Q : Hp → Prop) : Prop := Reader_cyc  n 6 x1 h Q
theorem c_Reader_unit {G : Gx}  {x1 : Int32} {h : Hp} {Q : Hp → Prop} (hw : Reader_unit  64 x1 h Q) : Ct yX5_unit cX5_unit 3 none 75 G [.ref (gAd G 2), .int x1] h (QV G Q) := (cn_Reader_cyc  64).2.2.2.2.2.2 _ _ _ hw
theorem dX5_readLine_0 : decode cX5_readLine 0 = .ok (.aload_n 0, 1) := by decide +kernel
theorem dX5_readLine_1 : decode cX5_readLine 1 = .ok (.getfield 12, 3) := by decide +kernel
theorem dX5_readLine_4 : decode cX5_readLine 4 = .ok (.ldc 117, 2) := by decide +kernel
theorem dX5_readLine_6 : decode cX5_readLine 6 = .ok (.invokevirtual 100, 3) := by decide +kernel
theorem dX5_readLine_9 : decode cX5_readLine 9 = .ok (.ifCond .eq 10, 3) := by decide +kernel
theorem dX5_readLine_12 : decode cX5_readLine 12 = .ok (.aload_n 0, 1) := by decide +kernel
theorem dX5_readLine_13 : decode cX5_readLine 13 = .ok (.invokevirtual 119, 3) := by decide +kernel
theorem dX5_readLine_16 : decode cX5_readLine 16 = .ok (.goto 77, 3) := by decide +kernel
theorem dX5_readLine_19 : decode cX5_readLine 19 = .ok (.aload_n 0, 1) := by decide +kernel
theorem dX5_readLine_20 : decode cX5_readLine 20 = .ok (.getfield 12, 3) := by decide +kernel
theorem dX5_readLine_23 : decode cX5_readLine 23 = .ok (.ldc 122, 2) := by decide +kernel
theorem dX5_readLine_25 : decode cX5_readLine 25 = .ok (.invokevirtual 100, 3) := by decide +kernel
theorem dX5_readLine_28 : decode cX5_readLine 28 = .ok (.ifCond .eq 10, 3) := by decide +kernel
theorem dX5_readLine_31 : decode cX5_readLine 31 = .ok (.aload_n 0, 1) := by decide +kernel
theorem dX5_readLine_32 : decode cX5_readLine 32 = .ok (.invokevirtual 124, 3) := by decide +kernel
theorem dX5_readLine_35 : decode cX5_readLine 35 = .ok (.goto 58, 3) := by decide +kernel
theorem dX5_readLine_38 : decode cX5_readLine 38 = .ok (.aload_n 0, 1) := by decide +kernel
theorem dX5_readLine_39 : decode cX5_readLine 39 = .ok (.ldc 127, 2) := by decide +kernel
theorem dX5_readLine_41 : decode cX5_readLine 41 = .ok (.invokevirtual 128, 3) := by decide +kernel
theorem dX5_readLine_44 : decode cX5_readLine 44 = .ok (.ifCond .eq 19, 3) := by decide +kernel
theorem dX5_readLine_47 : decode cX5_readLine 47 = .ok (.aload_n 0, 1) := by decide +kernel
theorem dX5_readLine_48 : decode cX5_readLine 48 = .ok (.aload_n 0, 1) := by decide +kernel
theorem dX5_readLine_49 : decode cX5_readLine 49 = .ok (.getfield 21, 3) := by decide +kernel
theorem dX5_readLine_52 : decode cX5_readLine 52 = .ok (.invokevirtual 131, 3) := by decide +kernel
theorem dX5_readLine_55 : decode cX5_readLine 55 = .ok (.aload_n 0, 1) := by decide +kernel
theorem dX5_readLine_56 : decode cX5_readLine 56 = .ok (.iconst 0, 1) := by decide +kernel
theorem dX5_readLine_57 : decode cX5_readLine 57 = .ok (.invokevirtual 135, 3) := by decide +kernel
theorem dX5_readLine_60 : decode cX5_readLine 60 = .ok (.goto 33, 3) := by decide +kernel
theorem dX5_readLine_63 : decode cX5_readLine 63 = .ok (.aload_n 0, 1) := by decide +kernel
theorem dX5_readLine_64 : decode cX5_readLine 64 = .ok (.ldc 138, 2) := by decide +kernel
theorem dX5_readLine_66 : decode cX5_readLine 66 = .ok (.invokevirtual 128, 3) := by decide +kernel
theorem dX5_readLine_69 : decode cX5_readLine 69 = .ok (.ifCond .eq 19, 3) := by decide +kernel
theorem dX5_readLine_72 : decode cX5_readLine 72 = .ok (.aload_n 0, 1) := by decide +kernel
theorem dX5_readLine_73 : decode cX5_readLine 73 = .ok (.aload_n 0, 1) := by decide +kernel
theorem dX5_readLine_74 : decode cX5_readLine 74 = .ok (.getfield 25, 3) := by decide +kernel
theorem dX5_readLine_77 : decode cX5_readLine 77 = .ok (.invokevirtual 131, 3) := by decide +kernel
theorem dX5_readLine_80 : decode cX5_readLine 80 = .ok (.aload_n 0, 1) := by decide +kernel
theorem dX5_readLine_81 : decode cX5_readLine 81 = .ok (.iconst 0, 1) := by decide +kernel
theorem dX5_readLine_82 : decode cX5_readLine 82 = .ok (.invokevirtual 139, 3) := by decide +kernel
theorem dX5_readLine_85 : decode cX5_readLine 85 = .ok (.goto 8, 3) := by decide +kernel
theorem dX5_readLine_88 : decode cX5_readLine 88 = .ok (.aload_n 0, 1) := by decide +kernel
theorem dX5_readLine_89 : decode cX5_readLine 89 = .ok (.iconst 2, 1) := by decide +kernel
theorem dX5_readLine_90 : decode cX5_readLine 90 = .ok (.invokevirtual 107, 3) := by decide +kernel
theorem dX5_readLine_93 : decode cX5_readLine 93 = .ok (.aload_n 0, 1) := by decide +kernel
theorem dX5_readLine_94 : decode cX5_readLine 94 = .ok (.ldc 85, 2) := by decide +kernel
theorem dX5_readLine_96 : decode cX5_readLine 96 = .ok (.invokevirtual 75, 3) := by decide +kernel
theorem dX5_readLine_99 : decode cX5_readLine 99 = .ok (.return_, 1) := by decide +kernel
theorem fl_X5_25 : FLk RX5 25 5 2 := ⟨_, rfl, by decide, mW 88 (by decide +kernel) rfl⟩
theorem ml_X5_131 : Cond.methodLink RX5 131 yX5_beginLaw ∈ Wd := mW 623 (by decide +kernel) rfl
theorem mk_X5_beginLaw : MokV yX5_beginLaw cX5_beginLaw 2 none 1 := ⟨⟨mW 2 (by decide +kernel) rfl, mW 626 (by decide +kernel) rfl, ⟨by decide, by decide, by decide +kernel⟩, by decide⟩, mW 625 (by decide +kernel) rfl, mS (q := (yX5_beginLaw, 15)) 8 (by decide +kernel)⟩
theorem fl_X5_21 : FLk RX5 21 5 1 := ⟨_, rfl, by decide, mW 87 (by decide +kernel) rfl⟩
theorem ml_X5_124 : Cond.methodLink RX5 124 yX5_readRoad ∈ Wd := mW 616 (by decide +kernel) rfl
theorem mk_X5_readRoad : MokV yX5_readRoad cX5_readRoad 3 none 0 := ⟨⟨mW 2 (by decide +kernel) rfl, mW 619 (by decide +kernel) rfl, ⟨by decide, by decide, by decide +kernel⟩, by decide⟩, mW 618 (by decide +kernel) rfl, mS (q := (yX5_readRoad, 15)) 7 (by decide +kernel)⟩
theorem ml_X5_119 : Cond.methodLink RX5 119 yX5_readPlace ∈ Wd := mW 605 (by decide +kernel) rfl
theorem mk_X5_readPlace : MokV yX5_readPlace cX5_readPlace 1 none 0 := ⟨⟨mW 2 (by decide +kernel) rfl, mW 608 (by decide +kernel) rfl, ⟨by decide, by decide, by decide +kernel⟩, by decide⟩, mW 607 (by decide +kernel) rfl, mS (q := (yX5_readPlace, 15)) 5 (by decide +kernel)⟩
def Reader_readLine  (h : Hp) (Q : Hp → Prop) : Prop := Tokens_is 4 h (fun r1 h2 => ∀ J93 : Hp → Prop, J93 = (fun h3 => Reader_expect 3 h3 (fun h4 => Q h4)) → (r1 = 0 → Tokens_is 7 h2 (fun r5 h6 => (r5 = 0 → Reader_take 10 h6 (fun r7 h8 => (r7 = 0 → Reader_take 32 h8 (fun r9 h10 => (r9 = 0 → Reader_refuse 2 h10 (fun h11 => J93 h11)) ∧ (¬ r9 = 0 → Reader_beginLaw 7 h10 (fun h12 => Reader_truth 64 0 h12 (fun h13 => J93 h13))))) ∧ (¬ r7 = 0 → Reader_beginLaw 4 h8 (fun h14 => Reader_sum 64 0 h14 (fun h15 => J93 h15))))) ∧ (¬ r5 = 0 → Reader_readRoad  h6 (fun h16 => J93 h16)))) ∧ (¬ r1 = 0 → Reader_readPlace  h2 (fun h17 => J93 h17)))
set_option maxHeartbeats 4000000 in
set_option maxRecDepth 20000 in
theorem c_Reader_readLine {G : Gx}   {h : Hp} {Q : Hp → Prop} (hw : Reader_readLine  h Q) : Ct yX5_readLine cX5_readLine 1 none 76 G [.ref (gAd G 2)] h (QV G Q) := by
  refine ct_go [(0, .ref (gAd G 2))] (plainFor_of_name (by decide)) rfl (Nat.le_of_ble_eq_true rfl) rfl ?_
  refine g_aload_n dX5_readLine_0 rfl rfl ?_
  refine g_getO dX5_readLine_1 fl_X5_12 sh2 rfl ?_
  refine g_ldcS (i := 4) dX5_readLine_4 (by decide) rfl ?_
  refine g_callVI [.ref (gSa G 4)] (ci := 9) dX5_readLine_6 ml_X5_100 mk_X9_is rfl rfl sh3 (Nat.le_of_ble_eq_true rfl) (Nat.le_of_ble_eq_true rfl) rfl (c_Tokens_is (by decide) hw) (fun r1 h2 hw => ?_)
  refine jn_el hw (fun J93 eJ93 hw => ?_)
  have hJ93 : ∀ (h3 : Hp), J93 h3 → Go cX5_readLine 1 RX5 none 76 G (QV G Q) 93 [(0, .ref (gAd G 2))] [] h3 := by
    intro h3 hw
    subst eJ93
    refine g_aload_n dX5_readLine_93 rfl rfl ?_
    refine g_ldcS (i := 3) dX5_readLine_94 (by decide) rfl ?_
    refine g_callVV [.ref (gSa G 3)] (ci := 5) dX5_readLine_96 ml_X5_75 mk_X5_expect rfl rfl sh2 (Nat.le_of_ble_eq_true rfl) (Nat.le_of_ble_eq_true rfl) rfl (c_Reader_expect (by decide) hw) (fun h4 hw => ?_)
    exact g_vret dX5_readLine_99 hw
  refine g_if_eq 19 dX5_readLine_9 rfl (fun hc => ?_) (fun hc => ?_)
  · have hw := hw.1 hc
    refine g_aload_n dX5_readLine_19 rfl rfl ?_
    refine g_getO dX5_readLine_20 fl_X5_12 sh2 rfl ?_
    refine g_ldcS (i := 7) dX5_readLine_23 (by decide) rfl ?_
    refine g_callVI [.ref (gSa G 7)] (ci := 9) dX5_readLine_25 ml_X5_100 mk_X9_is rfl rfl sh3 (Nat.le_of_ble_eq_true rfl) (Nat.le_of_ble_eq_true rfl) rfl (c_Tokens_is (by decide) hw) (fun r5 h6 hw => ?_)
    refine g_if_eq 38 dX5_readLine_28 rfl (fun hc => ?_) (fun hc => ?_)
    · have hw := hw.1 hc
      refine g_aload_n dX5_readLine_38 rfl rfl ?_
      refine g_ldcS (i := 10) dX5_readLine_39 (by decide) rfl ?_
      refine g_callVI [.ref (gSa G 10)] (ci := 5) dX5_readLine_41 ml_X5_128 mk_X5_take rfl rfl sh2 (Nat.le_of_ble_eq_true rfl) (Nat.le_of_ble_eq_true rfl) rfl (c_Reader_take (by decide) hw) (fun r7 h8 hw => ?_)
      refine g_if_eq 63 dX5_readLine_44 rfl (fun hc => ?_) (fun hc => ?_)
      · have hw := hw.1 hc
        refine g_aload_n dX5_readLine_63 rfl rfl ?_
        refine g_ldcS (i := 32) dX5_readLine_64 (by decide) rfl ?_
        refine g_callVI [.ref (gSa G 32)] (ci := 5) dX5_readLine_66 ml_X5_128 mk_X5_take rfl rfl sh2 (Nat.le_of_ble_eq_true rfl) (Nat.le_of_ble_eq_true rfl) rfl (c_Reader_take (by decide) hw) (fun r9 h10 hw => ?_)
        refine g_if_eq 88 dX5_readLine_69 rfl (fun hc => ?_) (fun hc => ?_)
        · have hw := hw.1 hc
          refine g_aload_n dX5_readLine_88 rfl rfl ?_
          refine g_iconst (v := 2) dX5_readLine_89 (by decide) ?_
          refine g_callVV [.int 2] (ci := 5) dX5_readLine_90 ml_X5_107 mk_X5_refuse rfl rfl sh2 (Nat.le_of_ble_eq_true rfl) (Nat.le_of_ble_eq_true rfl) rfl (c_Reader_refuse hw) (fun h11 hw => ?_)
          exact hJ93 _ hw
        · have hw := hw.2 hc
          refine g_aload_n dX5_readLine_72 rfl rfl ?_
          refine g_aload_n dX5_readLine_73 rfl rfl ?_
          refine g_getO dX5_readLine_74 fl_X5_25 sh2 rfl ?_
          refine g_callVV [.ref (gAd G 7)] (ci := 5) dX5_readLine_77 ml_X5_131 mk_X5_beginLaw rfl rfl sh2 (Nat.le_of_ble_eq_true rfl) (Nat.le_of_ble_eq_true rfl) rfl (c_Reader_beginLaw sh7 hw) (fun h12 hw => ?_)
          refine g_aload_n dX5_readLine_80 rfl rfl ?_
          refine g_iconst (v := 0) dX5_readLine_81 (by decide) ?_
          refine g_callVV [.int 0] (ci := 5) dX5_readLine_82 ml_X5_139 mk_X5_truth rfl rfl sh2 (Nat.le_of_ble_eq_true rfl) (Nat.le_of_ble_eq_true rfl) rfl (c_Reader_truth hw) (fun h13 hw => ?_)
          refine g_goto 93 dX5_readLine_85 rfl ?_
          exact hJ93 _ hw
      · have hw := hw.2 hc
        refine g_aload_n dX5_readLine_47 rfl rfl ?_
        refine g_aload_n dX5_readLine_48 rfl rfl ?_
        refine g_getO dX5_readLine_49 fl_X5_21 sh2 rfl ?_
        refine g_callVV [.ref (gAd G 4)] (ci := 5) dX5_readLine_52 ml_X5_131 mk_X5_beginLaw rfl rfl sh2 (Nat.le_of_ble_eq_true rfl) (Nat.le_of_ble_eq_true rfl) rfl (c_Reader_beginLaw sh4 hw) (fun h14 hw => ?_)
        refine g_aload_n dX5_readLine_55 rfl rfl ?_
        refine g_iconst (v := 0) dX5_readLine_56 (by decide) ?_
        refine g_callVV [.int 0] (ci := 5) dX5_readLine_57 ml_X5_135 mk_X5_sum rfl rfl sh2 (Nat.le_of_ble_eq_true rfl) (Nat.le_of_ble_eq_true rfl) rfl (c_Reader_sum hw) (fun h15 hw => ?_)
        refine g_goto 93 dX5_readLine_60 rfl ?_
        exact hJ93 _ hw
    · have hw := hw.2 hc
      refine g_aload_n dX5_readLine_31 rfl rfl ?_
      refine g_callVV [] (ci := 5) dX5_readLine_32 ml_X5_124 mk_X5_readRoad rfl rfl sh2 (Nat.le_of_ble_eq_true rfl) (Nat.le_of_ble_eq_true rfl) rfl (c_Reader_readRoad hw) (fun h16 hw => ?_)
      refine g_goto 93 dX5_readLine_35 rfl ?_
      exact hJ93 _ hw
  · have hw := hw.2 hc
    refine g_aload_n dX5_readLine_12 rfl rfl ?_
    refine g_callVV [] (ci := 5) dX5_readLine_13 ml_X5_119 mk_X5_readPlace rfl rfl sh2 (Nat.le_of_ble_eq_true rfl) (Nat.le_of_ble_eq_true rfl) rfl (c_Reader_readPlace hw) (fun h17 hw => ?_)
    refine g_goto 93 dX5_readLine_16 rfl ?_
    exact hJ93 _ hw
theorem dX5_readText_0 : decode cX5_readText 0 = .ok (.aload_n 0, 1) := by decide +kernel
theorem dX5_readText_1 : decode cX5_readText 1 = .ok (.iconst 0, 1) := by decide +kernel
theorem dX5_readText_2 : decode cX5_readText 2 = .ok (.putfield 60, 3) := by decide +kernel
theorem dX5_readText_5 : decode cX5_readText 5 = .ok (.aload_n 0, 1) := by decide +kernel
theorem dX5_readText_6 : decode cX5_readText 6 = .ok (.iconst (-1), 1) := by decide +kernel
theorem dX5_readText_7 : decode cX5_readText 7 = .ok (.putfield 63, 3) := by decide +kernel
theorem dX5_readText_10 : decode cX5_readText 10 = .ok (.aload_n 0, 1) := by decide +kernel
theorem dX5_readText_11 : decode cX5_readText 11 = .ok (.getfield 21, 3) := by decide +kernel
theorem dX5_readText_14 : decode cX5_readText 14 = .ok (.iconst 0, 1) := by decide +kernel
theorem dX5_readText_15 : decode cX5_readText 15 = .ok (.putfield 66, 3) := by decide +kernel
theorem dX5_readText_18 : decode cX5_readText 18 = .ok (.aload_n 0, 1) := by decide +kernel
theorem dX5_readText_19 : decode cX5_readText 19 = .ok (.getfield 25, 3) := by decide +kernel
theorem dX5_readText_22 : decode cX5_readText 22 = .ok (.iconst 0, 1) := by decide +kernel
theorem dX5_readText_23 : decode cX5_readText 23 = .ok (.putfield 66, 3) := by decide +kernel
theorem dX5_readText_26 : decode cX5_readText 26 = .ok (.aload_n 0, 1) := by decide +kernel
theorem dX5_readText_27 : decode cX5_readText 27 = .ok (.iconst 0, 1) := by decide +kernel
theorem dX5_readText_28 : decode cX5_readText 28 = .ok (.putfield 31, 3) := by decide +kernel
theorem dX5_readText_31 : decode cX5_readText 31 = .ok (.aload_n 0, 1) := by decide +kernel
theorem dX5_readText_32 : decode cX5_readText 32 = .ok (.iconst 0, 1) := by decide +kernel
theorem dX5_readText_33 : decode cX5_readText 33 = .ok (.putfield 35, 3) := by decide +kernel
theorem dX5_readText_36 : decode cX5_readText 36 = .ok (.aload_n 0, 1) := by decide +kernel
theorem dX5_readText_37 : decode cX5_readText 37 = .ok (.iconst 0, 1) := by decide +kernel
theorem dX5_readText_38 : decode cX5_readText 38 = .ok (.putfield 38, 3) := by decide +kernel
theorem dX5_readText_41 : decode cX5_readText 41 = .ok (.aload_n 0, 1) := by decide +kernel
theorem dX5_readText_42 : decode cX5_readText 42 = .ok (.getfield 12, 3) := by decide +kernel
theorem dX5_readText_45 : decode cX5_readText 45 = .ok (.aload_n 1, 1) := by decide +kernel
theorem dX5_readText_46 : decode cX5_readText 46 = .ok (.iload_n 2, 1) := by decide +kernel
theorem dX5_readText_47 : decode cX5_readText 47 = .ok (.invokevirtual 69, 3) := by decide +kernel
theorem dX5_readText_50 : decode cX5_readText 50 = .ok (.aload_n 0, 1) := by decide +kernel
theorem dX5_readText_51 : decode cX5_readText 51 = .ok (.ldc 73, 2) := by decide +kernel
theorem dX5_readText_53 : decode cX5_readText 53 = .ok (.invokevirtual 75, 3) := by decide +kernel
theorem dX5_readText_56 : decode cX5_readText 56 = .ok (.aload_n 0, 1) := by decide +kernel
theorem dX5_readText_57 : decode cX5_readText 57 = .ok (.ldc 79, 2) := by decide +kernel
theorem dX5_readText_59 : decode cX5_readText 59 = .ok (.invokevirtual 75, 3) := by decide +kernel
theorem dX5_readText_62 : decode cX5_readText 62 = .ok (.aload_n 0, 1) := by decide +kernel
theorem dX5_readText_63 : decode cX5_readText 63 = .ok (.aload_n 0, 1) := by decide +kernel
theorem dX5_readText_64 : decode cX5_readText 64 = .ok (.bipush 9, 2) := by decide +kernel
theorem dX5_readText_66 : decode cX5_readText 66 = .ok (.invokevirtual 81, 3) := by decide +kernel
theorem dX5_readText_69 : decode cX5_readText 69 = .ok (.putfield 57, 3) := by decide +kernel
theorem dX5_readText_72 : decode cX5_readText 72 = .ok (.aload_n 0, 1) := by decide +kernel
theorem dX5_readText_73 : decode cX5_readText 73 = .ok (.ldc 85, 2) := by decide +kernel
theorem dX5_readText_75 : decode cX5_readText 75 = .ok (.invokevirtual 75, 3) := by decide +kernel
theorem dX5_readText_78 : decode cX5_readText 78 = .ok (.aload_n 0, 1) := by decide +kernel
theorem dX5_readText_79 : decode cX5_readText 79 = .ok (.iconst 1, 1) := by decide +kernel
theorem dX5_readText_80 : decode cX5_readText 80 = .ok (.putfield 41, 3) := by decide +kernel
theorem dX5_readText_83 : decode cX5_readText 83 = .ok (.iconst 0, 1) := by decide +kernel
theorem dX5_readText_84 : decode cX5_readText 84 = .ok (.istore_n 3, 1) := by decide +kernel
theorem dX5_readText_85 : decode cX5_readText 85 = .ok (.iload_n 3, 1) := by decide +kernel
theorem dX5_readText_86 : decode cX5_readText 86 = .ok (.sipush 900, 3) := by decide +kernel
theorem dX5_readText_89 : decode cX5_readText 89 = .ok (.if_icmp .ge 40, 3) := by decide +kernel
theorem dX5_readText_92 : decode cX5_readText 92 = .ok (.aload_n 0, 1) := by decide +kernel
theorem dX5_readText_93 : decode cX5_readText 93 = .ok (.getfield 60, 3) := by decide +kernel
theorem dX5_readText_96 : decode cX5_readText 96 = .ok (.ifCond .ne 33, 3) := by decide +kernel
theorem dX5_readText_99 : decode cX5_readText 99 = .ok (.aload_n 0, 1) := by decide +kernel
theorem dX5_readText_100 : decode cX5_readText 100 = .ok (.getfield 12, 3) := by decide +kernel
theorem dX5_readText_103 : decode cX5_readText 103 = .ok (.invokevirtual 87, 3) := by decide +kernel
theorem dX5_readText_106 : decode cX5_readText 106 = .ok (.ifCond .ne 23, 3) := by decide +kernel
theorem dX5_readText_109 : decode cX5_readText 109 = .ok (.aload_n 0, 1) := by decide +kernel
theorem dX5_readText_110 : decode cX5_readText 110 = .ok (.invokevirtual 91, 3) := by decide +kernel
theorem dX5_readText_113 : decode cX5_readText 113 = .ok (.aload_n 0, 1) := by decide +kernel
theorem dX5_readText_114 : decode cX5_readText 114 = .ok (.dup, 1) := by decide +kernel
theorem dX5_readText_115 : decode cX5_readText 115 = .ok (.getfield 41, 3) := by decide +kernel
theorem dX5_readText_118 : decode cX5_readText 118 = .ok (.iconst 1, 1) := by decide +kernel
theorem dX5_readText_119 : decode cX5_readText 119 = .ok (.iadd, 1) := by decide +kernel
theorem dX5_readText_120 : decode cX5_readText 120 = .ok (.putfield 41, 3) := by decide +kernel
theorem dX5_readText_123 : decode cX5_readText 123 = .ok (.iinc 3 1, 3) := by decide +kernel
theorem dX5_readText_126 : decode cX5_readText 126 = .ok (.goto (-41), 3) := by decide +kernel
theorem dX5_readText_129 : decode cX5_readText 129 = .ok (.return_, 1) := by decide +kernel
theorem ml_X5_69 : Cond.methodLink RX5 69 yX9_begin ∈ Wd := mW 444 (by decide +kernel) rfl
theorem mk_X9_begin : MokV yX9_begin cX9_begin 3 none 2 := ⟨⟨mW 3 (by decide +kernel) rfl, mW 447 (by decide +kernel) rfl, ⟨by decide, by decide, by decide +kernel⟩, by decide⟩, mW 445 (by decide +kernel) rfl, mW 446 (by decide +kernel) rfl⟩
theorem fl_X5_57 : FLk RX5 57 5 12 := ⟨_, rfl, by decide, mW 98 (by decide +kernel) rfl⟩
theorem pf_5_12 : parseFieldDescriptor (uD 5 12) = some .int := by decide +kernel
theorem fl_X5_41 : FLk RX5 41 5 7 := ⟨_, rfl, by decide, mW 93 (by decide +kernel) rfl⟩
theorem pf_5_7 : parseFieldDescriptor (uD 5 7) = some .int := by decide +kernel
theorem ml_X5_87 : Cond.methodLink RX5 87 yX9_isEnd ∈ Wd := mW 596 (by decide +kernel) rfl
theorem mk_X9_isEnd : MokV yX9_isEnd cX9_isEnd 1 (some .boolean) 0 := ⟨⟨mW 3 (by decide +kernel) rfl, mW 599 (by decide +kernel) rfl, ⟨by decide, by decide, by decide +kernel⟩, by decide⟩, mW 597 (by decide +kernel) rfl, mW 598 (by decide +kernel) rfl⟩
theorem ml_X5_91 : Cond.methodLink RX5 91 yX5_readLine ∈ Wd := mW 600 (by decide +kernel) rfl
theorem mk_X5_readLine : MokV yX5_readLine cX5_readLine 1 none 0 := ⟨⟨mW 2 (by decide +kernel) rfl, mW 603 (by decide +kernel) rfl, ⟨by decide, by decide, by decide +kernel⟩, by decide⟩, mW 602 (by decide +kernel) rfl, mS (q := (yX5_readLine, 15)) 4 (by decide +kernel)⟩
def Reader_readText_L85 (Q : Hp → Prop) : Nat → Int32 → Hp → Prop
  | 0, _, _ => False
  | n + 1, x3, h => (900 ≤ x3 → Q h) ∧ (¬ 900 ≤ x3 → (¬ (gI h 2 13) = 0 → Q h) ∧ ((gI h 2 13) = 0 → Tokens_isEnd  h (fun r16 h17 => (¬ r16 = 0 → Q h17) ∧ (r16 = 0 → Reader_readLine  h17 (fun h18 => ∀ h19 : Hp, h19 = sI h18 2 7 ((gI h18 2 7) + 1) → ∀ v20 : Int32, v20 = (x3 + 1) → Reader_readText_L85 Q n v20 h19)))))
set_option maxHeartbeats 4000000 in
set_option maxRecDepth 20000 in
theorem gl_Reader_readText_L85 {G : Gx}  {Q : Hp → Prop} : ∀ (n : Nat) (x3 : Int32) (h : Hp), Reader_readText_L85 Q n x3 h → Go cX5_readText 4 RX5 none 77 G (QV G Q) 85 [(0, .ref (gAd G 2)), (3, .int x3)] [] h := by
  intro n
  induction n with
  | zero => intro _ h hw; exact False.elim hw
  | succ n ih =>
    intro x3 h hw
    refine g_iload_n dX5_readText_85 rfl rfl ?_
    refine g_sipush (v := 900) dX5_readText_86 (by decide) ?_
    refine g_icmp_ge 129 dX5_readText_89 rfl (fun hc => ?_) (fun hc => ?_)
    · have hw := hw.1 hc
      exact g_vret dX5_readText_129 hw
    · have hw := hw.2 hc
      refine g_aload_n dX5_readText_92 rfl rfl ?_
      refine g_getI dX5_readText_93 fl_X5_60 sh2 rfl ?_
      refine g_if_ne 129 dX5_readText_96 rfl (fun hc => ?_) (fun hc => ?_)
      · have hw := hw.1 hc
        exact g_vret dX5_readText_129 hw
      · have hw := hw.2 hc
        refine g_aload_n dX5_readText_99 rfl rfl ?_
        refine g_getO dX5_readText_100 fl_X5_12 sh2 rfl ?_
        refine g_callVI [] (ci := 9) dX5_readText_103 ml_X5_87 mk_X9_isEnd rfl rfl sh3 (Nat.le_of_ble_eq_true rfl) (Nat.le_of_ble_eq_true rfl) rfl (c_Tokens_isEnd hw) (fun r16 h17 hw => ?_)
        refine g_if_ne 129 dX5_readText_106 rfl (fun hc => ?_) (fun hc => ?_)
        · have hw := hw.1 hc
          exact g_vret dX5_readText_129 hw
        · have hw := hw.2 hc
          refine g_aload_n dX5_readText_109 rfl rfl ?_
          refine g_callVV [] (ci := 5) dX5_readText_110 ml_X5_91 mk_X5_readLine rfl rfl sh2 (Nat.le_of_ble_eq_true rfl) (Nat.le_of_ble_eq_true rfl) rfl (c_Reader_readLine hw) (fun h18 hw => ?_)
          refine g_aload_n dX5_readText_113 rfl rfl ?_
          refine g_dup dX5_readText_114 rfl ?_
          refine g_getI dX5_readText_115 fl_X5_41 sh2 rfl ?_
          refine g_iconst (v := 1) dX5_readText_118 (by decide) ?_
          refine g_iadd dX5_readText_119 ?_
          refine g_putI dX5_readText_120 fl_X5_41 sh2 rfl rfl pf_5_7 ?_
          refine g_heap (fun h19 eh19 => ?_)
          have hw := hw h19 eh19
          obtain ⟨v20, ev20⟩ : ∃ y : Int32, y = (x3 + 1) := ⟨_, rfl⟩
          have hw := hw v20 ev20
          refine g_iinc dX5_readText_123 rfl (by rw [ev20]; rfl) (by decide) (lv1 := [(0, .ref (gAd G 2)), (3, .int v20)]) rfl ?_
          refine g_goto 85 dX5_readText_126 rfl ?_
          exact ih _ _ hw
def Reader_readText (x2 : Int32) (h : Hp) (Q : Hp → Prop) : Prop := ∀ h1 : Hp, h1 = sI h 2 13 0 → ∀ h2 : Hp, h2 = sI h1 2 14 (-1) → ∀ h3 : Hp, h3 = sI h2 4 3 0 → ∀ h4 : Hp, h4 = sI h3 7 3 0 → ∀ h5 : Hp, h5 = sI h4 2 4 0 → ∀ h6 : Hp, h6 = sI h5 2 5 0 → ∀ h7 : Hp, h7 = sI h6 2 6 0 → Tokens_begin x2 h7 (fun h8 => Reader_expect 1 h8 (fun h9 => Reader_expect 2 h9 (fun h10 => Reader_number 9 h10 (fun r11 h12 => ∀ h13 : Hp, h13 = sI h12 2 12 r11 → Reader_expect 3 h13 (fun h14 => ∀ h15 : Hp, h15 = sI h14 2 7 1 → ∃ n21, Reader_readText_L85 Q n21 0 h15)))))
set_option maxHeartbeats 4000000 in
set_option maxRecDepth 20000 in
theorem c_Reader_readText {G : Gx}  {x2 : Int32} {h : Hp} {Q : Hp → Prop} (hw : Reader_readText x2 h Q) : Ct yX5_readText cX5_readText 4 none 77 G [.ref (gAd G 2), .ref (gAd G 1), .int x2] h (QV G Q) := by
  refine ct_go [(0, .ref (gAd G 2)), (1, .ref (gAd G 1)), (2, .int x2)] (plainFor_of_name (by decide)) rfl (Nat.le_of_ble_eq_true rfl) rfl ?_
  refine g_aload_n dX5_readText_0 rfl rfl ?_
  refine g_iconst (v := 0) dX5_readText_1 (by decide) ?_
  refine g_putI dX5_readText_2 fl_X5_60 sh2 rfl rfl pf_5_13 ?_
  refine g_heap (fun h1 eh1 => ?_)
  have hw := hw h1 eh1
  refine g_aload_n dX5_readText_5 rfl rfl ?_
  refine g_iconst (v := (-1)) dX5_readText_6 (by decide) ?_
  refine g_putI dX5_readText_7 fl_X5_63 sh2 rfl rfl pf_5_14 ?_
  refine g_heap (fun h2 eh2 => ?_)
  have hw := hw h2 eh2
  refine g_aload_n dX5_readText_10 rfl rfl ?_
  refine g_getO dX5_readText_11 fl_X5_21 sh2 rfl ?_
  refine g_iconst (v := 0) dX5_readText_14 (by decide) ?_
  refine g_putI dX5_readText_15 fl_X5_66 sh4 rfl rfl pf_3_3 ?_
  refine g_heap (fun h3 eh3 => ?_)
  have hw := hw h3 eh3
  refine g_aload_n dX5_readText_18 rfl rfl ?_
  refine g_getO dX5_readText_19 fl_X5_25 sh2 rfl ?_
  refine g_iconst (v := 0) dX5_readText_22 (by decide) ?_
  refine g_putI dX5_readText_23 fl_X5_66 sh7 rfl rfl pf_3_3 ?_
  refine g_heap (fun h4 eh4 => ?_)
  have hw := hw h4 eh4
  refine g_aload_n dX5_readText_26 rfl rfl ?_
  refine g_iconst (v := 0) dX5_readText_27 (by decide) ?_
  refine g_putI dX5_readText_28 fl_X5_31 sh2 rfl rfl pf_5_4 ?_
  refine g_heap (fun h5 eh5 => ?_)
  have hw := hw h5 eh5
  refine g_aload_n dX5_readText_31 rfl rfl ?_
  refine g_iconst (v := 0) dX5_readText_32 (by decide) ?_
  refine g_putI dX5_readText_33 fl_X5_35 sh2 rfl rfl pf_5_5 ?_
  refine g_heap (fun h6 eh6 => ?_)
  have hw := hw h6 eh6
  refine g_aload_n dX5_readText_36 rfl rfl ?_
  refine g_iconst (v := 0) dX5_readText_37 (by decide) ?_
  refine g_putI dX5_readText_38 fl_X5_38 sh2 rfl rfl pf_5_6 ?_
  refine g_heap (fun h7 eh7 => ?_)
  have hw := hw h7 eh7
  refine g_aload_n dX5_readText_41 rfl rfl ?_
  refine g_getO dX5_readText_42 fl_X5_12 sh2 rfl ?_
  refine g_aload_n dX5_readText_45 rfl rfl ?_
  refine g_iload_n dX5_readText_46 rfl rfl ?_
  refine g_callVV [.ref (gAd G 1), .int x2] (ci := 9) dX5_readText_47 ml_X5_69 mk_X9_begin rfl rfl sh3 (Nat.le_of_ble_eq_true rfl) (Nat.le_of_ble_eq_true rfl) rfl (c_Tokens_begin hw) (fun h8 hw => ?_)
  refine g_aload_n dX5_readText_50 rfl rfl ?_
  refine g_ldcS (i := 1) dX5_readText_51 (by decide) rfl ?_
  refine g_callVV [.ref (gSa G 1)] (ci := 5) dX5_readText_53 ml_X5_75 mk_X5_expect rfl rfl sh2 (Nat.le_of_ble_eq_true rfl) (Nat.le_of_ble_eq_true rfl) rfl (c_Reader_expect (by decide) hw) (fun h9 hw => ?_)
  refine g_aload_n dX5_readText_56 rfl rfl ?_
  refine g_ldcS (i := 2) dX5_readText_57 (by decide) rfl ?_
  refine g_callVV [.ref (gSa G 2)] (ci := 5) dX5_readText_59 ml_X5_75 mk_X5_expect rfl rfl sh2 (Nat.le_of_ble_eq_true rfl) (Nat.le_of_ble_eq_true rfl) rfl (c_Reader_expect (by decide) hw) (fun h10 hw => ?_)
  refine g_aload_n dX5_readText_62 rfl rfl ?_
  refine g_aload_n dX5_readText_63 rfl rfl ?_
  refine g_bipush (v := 9) dX5_readText_64 (by decide) ?_
  refine g_callVI [.int 9] (ci := 5) dX5_readText_66 ml_X5_81 mk_X5_number rfl rfl sh2 (Nat.le_of_ble_eq_true rfl) (Nat.le_of_ble_eq_true rfl) rfl (c_Reader_number hw) (fun r11 h12 hw => ?_)
  refine g_putI dX5_readText_69 fl_X5_57 sh2 rfl rfl pf_5_12 ?_
  refine g_heap (fun h13 eh13 => ?_)
  have hw := hw h13 eh13
  refine g_aload_n dX5_readText_72 rfl rfl ?_
  refine g_ldcS (i := 3) dX5_readText_73 (by decide) rfl ?_
  refine g_callVV [.ref (gSa G 3)] (ci := 5) dX5_readText_75 ml_X5_75 mk_X5_expect rfl rfl sh2 (Nat.le_of_ble_eq_true rfl) (Nat.le_of_ble_eq_true rfl) rfl (c_Reader_expect (by decide) hw) (fun h14 hw => ?_)
  refine g_aload_n dX5_readText_78 rfl rfl ?_
  refine g_iconst (v := 1) dX5_readText_79 (by decide) ?_
  refine g_putI dX5_readText_80 fl_X5_41 sh2 rfl rfl pf_5_7 ?_
  refine g_heap (fun h15 eh15 => ?_)
  have hw := hw h15 eh15
  refine g_iconst (v := 0) dX5_readText_83 (by decide) ?_
  refine g_istore_n dX5_readText_84 rfl (by decide) (lv1 := [(0, .ref (gAd G 2)), (1, .ref (gAd G 1)), (2, .int x2), (3, .int 0)]) rfl ?_
  obtain ⟨n21, hw⟩ := hw
  refine g_lv [0, 3] rfl ?_
  refine gl_Reader_readText_L85   _ _ _ hw
theorem dJ7_fill_53178_0 : decode cJ7_fill_53178 0 = .ok (.iconst 0, 1) := by decide +kernel
theorem dJ7_fill_53178_1 : decode cJ7_fill_53178 1 = .ok (.istore_n 2, 1) := by decide +kernel
theorem dJ7_fill_53178_2 : decode cJ7_fill_53178 2 = .ok (.aload_n 0, 1) := by decide +kernel
theorem dJ7_fill_53178_3 : decode cJ7_fill_53178 3 = .ok (.arraylength, 1) := by decide +kernel
theorem dJ7_fill_53178_4 : decode cJ7_fill_53178 4 = .ok (.istore_n 3, 1) := by decide +kernel
theorem dJ7_fill_53178_5 : decode cJ7_fill_53178 5 = .ok (.iload_n 2, 1) := by decide +kernel
theorem dJ7_fill_53178_6 : decode cJ7_fill_53178 6 = .ok (.iload_n 3, 1) := by decide +kernel
theorem dJ7_fill_53178_7 : decode cJ7_fill_53178 7 = .ok (.if_icmp .ge 13, 3) := by decide +kernel
theorem dJ7_fill_53178_10 : decode cJ7_fill_53178 10 = .ok (.aload_n 0, 1) := by decide +kernel
theorem dJ7_fill_53178_11 : decode cJ7_fill_53178 11 = .ok (.iload_n 2, 1) := by decide +kernel
theorem dJ7_fill_53178_12 : decode cJ7_fill_53178 12 = .ok (.iload_n 1, 1) := by decide +kernel
theorem dJ7_fill_53178_13 : decode cJ7_fill_53178 13 = .ok (.iastore, 1) := by decide +kernel
theorem dJ7_fill_53178_14 : decode cJ7_fill_53178 14 = .ok (.iinc 2 1, 3) := by decide +kernel
theorem dJ7_fill_53178_17 : decode cJ7_fill_53178 17 = .ok (.goto (-12), 3) := by decide +kernel
theorem dJ7_fill_53178_20 : decode cJ7_fill_53178 20 = .ok (.return_, 1) := by decide +kernel
def J7_fill_53178_L5 (o0 : Nat) (x1 : Int32) (x3 : Int32) (Q : Hp → Prop) : Nat → Int32 → Hp → Prop
  | 0, _, _ => False
  | n + 1, x2, h => (x3 ≤ x2 → Q h) ∧ (¬ x3 ≤ x2 → vp_in x2 (alen o0) ∧ ∀ h2 : Hp, h2 = sI h o0 (x2).toNatClampNeg x1 → ∀ v3 : Int32, v3 = (x2 + 1) → J7_fill_53178_L5 o0 x1 x3 Q n v3 h2)
set_option maxHeartbeats 4000000 in
set_option maxRecDepth 20000 in
theorem gl_J7_fill_53178_L5 {G : Gx} {o0 : Nat} (ho0 : isA o0 0) {x1 : Int32} {x3 : Int32} {Q : Hp → Prop} : ∀ (n : Nat) (x2 : Int32) (h : Hp), J7_fill_53178_L5 o0 x1 x3 Q n x2 h → Go cJ7_fill_53178 4 RJ7 none 1 G (QV G Q) 5 [(0, .ref (gAd G o0)), (1, .int x1), (2, .int x2), (3, .int x3)] [] h := by
  intro n
  induction n with
  | zero => intro _ h hw; exact False.elim hw
  | succ n ih =>
    intro x2 h hw
    refine g_iload_n dJ7_fill_53178_5 rfl rfl ?_
    refine g_iload_n dJ7_fill_53178_6 rfl rfl ?_
    refine g_icmp_ge 20 dJ7_fill_53178_7 rfl (fun hc => ?_) (fun hc => ?_)
    · have hw := hw.1 hc
      exact g_vret dJ7_fill_53178_20 hw
    · have hw := hw.2 hc
      refine g_aload_n dJ7_fill_53178_10 rfl rfl ?_
      refine g_iload_n dJ7_fill_53178_11 rfl rfl ?_
      refine g_iload_n dJ7_fill_53178_12 rfl rfl ?_
      refine g_iast dJ7_fill_53178_13 ho0 rfl hw.1 ?_
      have hw := hw.2
      refine g_heap (fun h2 eh2 => ?_)
      have hw := hw h2 eh2
      obtain ⟨v3, ev3⟩ : ∃ y : Int32, y = (x2 + 1) := ⟨_, rfl⟩
      have hw := hw v3 ev3
      refine g_iinc dJ7_fill_53178_14 rfl (by rw [ev3]; rfl) (by decide) (lv1 := [(0, .ref (gAd G o0)), (1, .int x1), (2, .int v3), (3, .int x3)]) rfl ?_
      refine g_goto 5 dJ7_fill_53178_17 rfl ?_
      exact ih _ _ hw
def J7_fill_53178 (o0 : Nat) (x1 : Int32) (h : Hp) (Q : Hp → Prop) : Prop := ∀ v1 : Int32, v1 = (Int32.ofNat (alen o0)) → ∃ n4, J7_fill_53178_L5 o0 x1 v1 Q n4 0 h
set_option maxHeartbeats 4000000 in
set_option maxRecDepth 20000 in
theorem c_J7_fill_53178 {G : Gx} {o0 : Nat} (ho0 : isA o0 0) {x1 : Int32} {h : Hp} {Q : Hp → Prop} (hw : J7_fill_53178 o0 x1 h Q) : Ct yJ7_fill_53178 cJ7_fill_53178 4 none 1 G [.ref (gAd G o0), .int x1] h (QV G Q) := by
  refine ct_go [(0, .ref (gAd G o0)), (1, .int x1)] (plainFor_of_name (by decide)) rfl (Nat.le_of_ble_eq_true rfl) rfl ?_
  refine g_iconst (v := 0) dJ7_fill_53178_0 (by decide) ?_
  refine g_istore_n dJ7_fill_53178_1 rfl (by decide) (lv1 := [(0, .ref (gAd G o0)), (1, .int x1), (2, .int 0)]) rfl ?_
  refine g_aload_n dJ7_fill_53178_2 rfl rfl ?_
  refine g_alen dJ7_fill_53178_3 ho0 (by decide) rfl rfl ?_
  refine g_topi (fun v1 ev1 => ?_)
  have hw := hw v1 ev1
  refine g_istore_n dJ7_fill_53178_4 rfl (by decide) (lv1 := [(0, .ref (gAd G o0)), (1, .int x1), (2, .int 0), (3, .int v1)]) rfl ?_
  obtain ⟨n4, hw⟩ := hw
  refine gl_J7_fill_53178_L5 ho0  _ _ _ hw
theorem dX2_hasPlace_0 : decode cX2_hasPlace 0 = .ok (.iload_n 1, 1) := by decide +kernel
theorem dX2_hasPlace_1 : decode cX2_hasPlace 1 = .ok (.ifCond .lt 21, 3) := by decide +kernel
theorem dX2_hasPlace_4 : decode cX2_hasPlace 4 = .ok (.iload_n 1, 1) := by decide +kernel
theorem dX2_hasPlace_5 : decode cX2_hasPlace 5 = .ok (.aload_n 0, 1) := by decide +kernel
theorem dX2_hasPlace_6 : decode cX2_hasPlace 6 = .ok (.getfield 9, 3) := by decide +kernel
theorem dX2_hasPlace_9 : decode cX2_hasPlace 9 = .ok (.if_icmp .ge 13, 3) := by decide +kernel
theorem dX2_hasPlace_12 : decode cX2_hasPlace 12 = .ok (.iload_n 1, 1) := by decide +kernel
theorem dX2_hasPlace_13 : decode cX2_hasPlace 13 = .ok (.bipush 8, 2) := by decide +kernel
theorem dX2_hasPlace_15 : decode cX2_hasPlace 15 = .ok (.if_icmp .ge 7, 3) := by decide +kernel
theorem dX2_hasPlace_18 : decode cX2_hasPlace 18 = .ok (.iconst 1, 1) := by decide +kernel
theorem dX2_hasPlace_19 : decode cX2_hasPlace 19 = .ok (.goto 4, 3) := by decide +kernel
theorem dX2_hasPlace_22 : decode cX2_hasPlace 22 = .ok (.iconst 0, 1) := by decide +kernel
theorem dX2_hasPlace_23 : decode cX2_hasPlace 23 = .ok (.ireturn, 1) := by decide +kernel
theorem fl_X2_9 : FLk RX2 9 2 0 := ⟨_, rfl, by decide, mW 141 (by decide +kernel) rfl⟩
def Land_hasPlace (x1 : Int32) (h : Hp) (Q : Int32 → Hp → Prop) : Prop := (x1 < 0 → Q 0 h) ∧ (¬ x1 < 0 → ((gI h 14 0) ≤ x1 → Q 0 h) ∧ (¬ (gI h 14 0) ≤ x1 → (8 ≤ x1 → Q 0 h) ∧ (¬ 8 ≤ x1 → Q 1 h)))
set_option maxHeartbeats 4000000 in
set_option maxRecDepth 20000 in
theorem c_Land_hasPlace {G : Gx}  {x1 : Int32} {h : Hp} {Q : Int32 → Hp → Prop} (hw : Land_hasPlace x1 h Q) : Ct yX2_hasPlace cX2_hasPlace 2 (some .boolean) 1 G [.ref (gAd G 14), .int x1] h (QI G Q) := by
  refine ct_go [(0, .ref (gAd G 14)), (1, .int x1)] (plainFor_of_name (by decide)) rfl (Nat.le_of_ble_eq_true rfl) rfl ?_
  refine g_iload_n dX2_hasPlace_0 rfl rfl ?_
  refine g_if_lt 22 dX2_hasPlace_1 rfl (fun hc => ?_) (fun hc => ?_)
  · have hw := hw.1 hc
    refine g_iconst (v := 0) dX2_hasPlace_22 (by decide) ?_
    exact g_zret dX2_hasPlace_23 rfl hw
  · have hw := hw.2 hc
    refine g_iload_n dX2_hasPlace_4 rfl rfl ?_
    refine g_aload_n dX2_hasPlace_5 rfl rfl ?_
    refine g_getI dX2_hasPlace_6 fl_X2_9 sh14 rfl ?_
    refine g_icmp_ge 22 dX2_hasPlace_9 rfl (fun hc => ?_) (fun hc => ?_)
    · have hw := hw.1 hc
      refine g_iconst (v := 0) dX2_hasPlace_22 (by decide) ?_
      exact g_zret dX2_hasPlace_23 rfl hw
    · have hw := hw.2 hc
      refine g_iload_n dX2_hasPlace_12 rfl rfl ?_
      refine g_bipush (v := 8) dX2_hasPlace_13 (by decide) ?_
      refine g_icmp_ge 22 dX2_hasPlace_15 rfl (fun hc => ?_) (fun hc => ?_)
      · have hw := hw.1 hc
        refine g_iconst (v := 0) dX2_hasPlace_22 (by decide) ?_
        exact g_zret dX2_hasPlace_23 rfl hw
      · have hw := hw.2 hc
        refine g_iconst (v := 1) dX2_hasPlace_18 (by decide) ?_
        refine g_goto 23 dX2_hasPlace_19 rfl ?_
        exact g_zret dX2_hasPlace_23 rfl hw
theorem dX3_push_0 : decode cX3_push 0 = .ok (.aload_n 0, 1) := by decide +kernel
theorem dX3_push_1 : decode cX3_push 1 = .ok (.getfield 18, 3) := by decide +kernel
theorem dX3_push_4 : decode cX3_push 4 = .ok (.aload_n 0, 1) := by decide +kernel
theorem dX3_push_5 : decode cX3_push 5 = .ok (.getfield 15, 3) := by decide +kernel
theorem dX3_push_8 : decode cX3_push 8 = .ok (.arraylength, 1) := by decide +kernel
theorem dX3_push_9 : decode cX3_push 9 = .ok (.if_icmp .ge 23, 3) := by decide +kernel
theorem dX3_push_12 : decode cX3_push 12 = .ok (.aload_n 0, 1) := by decide +kernel
theorem dX3_push_13 : decode cX3_push 13 = .ok (.getfield 15, 3) := by decide +kernel
theorem dX3_push_16 : decode cX3_push 16 = .ok (.aload_n 0, 1) := by decide +kernel
theorem dX3_push_17 : decode cX3_push 17 = .ok (.getfield 18, 3) := by decide +kernel
theorem dX3_push_20 : decode cX3_push 20 = .ok (.iload_n 1, 1) := by decide +kernel
theorem dX3_push_21 : decode cX3_push 21 = .ok (.iastore, 1) := by decide +kernel
theorem dX3_push_22 : decode cX3_push 22 = .ok (.aload_n 0, 1) := by decide +kernel
theorem dX3_push_23 : decode cX3_push 23 = .ok (.dup, 1) := by decide +kernel
theorem dX3_push_24 : decode cX3_push 24 = .ok (.getfield 18, 3) := by decide +kernel
theorem dX3_push_27 : decode cX3_push 27 = .ok (.iconst 1, 1) := by decide +kernel
theorem dX3_push_28 : decode cX3_push 28 = .ok (.iadd, 1) := by decide +kernel
theorem dX3_push_29 : decode cX3_push 29 = .ok (.putfield 18, 3) := by decide +kernel
theorem dX3_push_32 : decode cX3_push 32 = .ok (.return_, 1) := by decide +kernel
theorem fl_X3_18 : FLk RX3 18 3 2 := ⟨_, rfl, by decide, mW 73 (by decide +kernel) rfl⟩
theorem fl_X3_15 : FLk RX3 15 3 1 := ⟨_, rfl, by decide, mW 72 (by decide +kernel) rfl⟩
theorem pf_3_2 : parseFieldDescriptor (uD 3 2) = some .int := by decide +kernel
def Law_push (o0 : Nat) (x1 : Int32) (h : Hp) (Q : Hp → Prop) : Prop := (64 ≤ (gI h o0 2) → Q h) ∧ (¬ 64 ≤ (gI h o0 2) → vp_in (gI h o0 2) 64 ∧ ∀ h1 : Hp, h1 = sI h (rf o0 1) ((gI h o0 2)).toNatClampNeg x1 → ∀ h2 : Hp, h2 = sI h1 o0 2 ((gI h1 o0 2) + 1) → Q h2)
set_option maxHeartbeats 4000000 in
set_option maxRecDepth 20000 in
theorem c_Law_push {G : Gx} {o0 : Nat} (ho0 : SH o0 = .inl 3) {x1 : Int32} {h : Hp} {Q : Hp → Prop} (hw : Law_push o0 x1 h Q) : Ct yX3_push cX3_push 2 none 1 G [.ref (gAd G o0), .int x1] h (QV G Q) := by
  refine ct_go [(0, .ref (gAd G o0)), (1, .int x1)] (plainFor_of_name (by decide)) rfl (Nat.le_of_ble_eq_true rfl) rfl ?_
  refine g_aload_n dX3_push_0 rfl rfl ?_
  refine g_getI dX3_push_1 fl_X3_18 ho0 rfl ?_
  refine g_aload_n dX3_push_4 rfl rfl ?_
  refine g_getA dX3_push_5 fl_X3_15 ho0 rfl ?_
  refine g_alen dX3_push_8 (rf_a ho0 (k := 1) rfl) (by decide) (ln_3_1 ho0) (v := 64) (by decide) ?_
  refine g_icmp_ge 32 dX3_push_9 rfl (fun hc => ?_) (fun hc => ?_)
  · have hw := hw.1 hc
    exact g_vret dX3_push_32 hw
  · have hw := hw.2 hc
    refine g_aload_n dX3_push_12 rfl rfl ?_
    refine g_getA dX3_push_13 fl_X3_15 ho0 rfl ?_
    refine g_aload_n dX3_push_16 rfl rfl ?_
    refine g_getI dX3_push_17 fl_X3_18 ho0 rfl ?_
    refine g_iload_n dX3_push_20 rfl rfl ?_
    refine g_iast dX3_push_21 (rf_a ho0 (k := 1) rfl) (ln_3_1 ho0) hw.1 ?_
    have hw := hw.2
    refine g_heap (fun h1 eh1 => ?_)
    have hw := hw h1 eh1
    refine g_aload_n dX3_push_22 rfl rfl ?_
    refine g_dup dX3_push_23 rfl ?_
    refine g_getI dX3_push_24 fl_X3_18 ho0 rfl ?_
    refine g_iconst (v := 1) dX3_push_27 (by decide) ?_
    refine g_iadd dX3_push_28 ?_
    refine g_putI dX3_push_29 fl_X3_18 ho0 rfl rfl pf_3_2 ?_
    refine g_heap (fun h2 eh2 => ?_)
    have hw := hw h2 eh2
    exact g_vret dX3_push_32 hw
theorem dX3_pop_0 : decode cX3_pop 0 = .ok (.aload_n 0, 1) := by decide +kernel
theorem dX3_pop_1 : decode cX3_pop 1 = .ok (.getfield 18, 3) := by decide +kernel
theorem dX3_pop_4 : decode cX3_pop 4 = .ok (.ifCond .le 23, 3) := by decide +kernel
theorem dX3_pop_7 : decode cX3_pop 7 = .ok (.aload_n 0, 1) := by decide +kernel
theorem dX3_pop_8 : decode cX3_pop 8 = .ok (.dup, 1) := by decide +kernel
theorem dX3_pop_9 : decode cX3_pop 9 = .ok (.getfield 18, 3) := by decide +kernel
theorem dX3_pop_12 : decode cX3_pop 12 = .ok (.iconst 1, 1) := by decide +kernel
theorem dX3_pop_13 : decode cX3_pop 13 = .ok (.isub, 1) := by decide +kernel
theorem dX3_pop_14 : decode cX3_pop 14 = .ok (.putfield 18, 3) := by decide +kernel
theorem dX3_pop_17 : decode cX3_pop 17 = .ok (.aload_n 0, 1) := by decide +kernel
theorem dX3_pop_18 : decode cX3_pop 18 = .ok (.getfield 15, 3) := by decide +kernel
theorem dX3_pop_21 : decode cX3_pop 21 = .ok (.aload_n 0, 1) := by decide +kernel
theorem dX3_pop_22 : decode cX3_pop 22 = .ok (.getfield 18, 3) := by decide +kernel
theorem dX3_pop_25 : decode cX3_pop 25 = .ok (.iaload, 1) := by decide +kernel
theorem dX3_pop_26 : decode cX3_pop 26 = .ok (.ireturn, 1) := by decide +kernel
theorem dX3_pop_27 : decode cX3_pop 27 = .ok (.iconst 0, 1) := by decide +kernel
theorem dX3_pop_28 : decode cX3_pop 28 = .ok (.ireturn, 1) := by decide +kernel
def Law_pop (o0 : Nat) (h : Hp) (Q : Int32 → Hp → Prop) : Prop := ((gI h o0 2) ≤ 0 → Q 0 h) ∧ (¬ (gI h o0 2) ≤ 0 → ∀ h1 : Hp, h1 = sI h o0 2 ((gI h o0 2) - 1) → vp_in (gI h1 o0 2) 64 ∧ Q (gI h1 (rf o0 1) ((gI h1 o0 2)).toNatClampNeg) h1)
set_option maxHeartbeats 4000000 in
set_option maxRecDepth 20000 in
theorem c_Law_pop {G : Gx} {o0 : Nat} (ho0 : SH o0 = .inl 3)  {h : Hp} {Q : Int32 → Hp → Prop} (hw : Law_pop o0 h Q) : Ct yX3_pop cX3_pop 1 (some .int) 1 G [.ref (gAd G o0)] h (QI G Q) := by
  refine ct_go [(0, .ref (gAd G o0))] (plainFor_of_name (by decide)) rfl (Nat.le_of_ble_eq_true rfl) rfl ?_
  refine g_aload_n dX3_pop_0 rfl rfl ?_
  refine g_getI dX3_pop_1 fl_X3_18 ho0 rfl ?_
  refine g_if_le 27 dX3_pop_4 rfl (fun hc => ?_) (fun hc => ?_)
  · have hw := hw.1 hc
    refine g_iconst (v := 0) dX3_pop_27 (by decide) ?_
    exact g_iret dX3_pop_28 hw
  · have hw := hw.2 hc
    refine g_aload_n dX3_pop_7 rfl rfl ?_
    refine g_dup dX3_pop_8 rfl ?_
    refine g_getI dX3_pop_9 fl_X3_18 ho0 rfl ?_
    refine g_iconst (v := 1) dX3_pop_12 (by decide) ?_
    refine g_isub dX3_pop_13 ?_
    refine g_putI dX3_pop_14 fl_X3_18 ho0 rfl rfl pf_3_2 ?_
    refine g_heap (fun h1 eh1 => ?_)
    have hw := hw h1 eh1
    refine g_aload_n dX3_pop_17 rfl rfl ?_
    refine g_getA dX3_pop_18 fl_X3_15 ho0 rfl ?_
    refine g_aload_n dX3_pop_21 rfl rfl ?_
    refine g_getI dX3_pop_22 fl_X3_18 ho0 rfl ?_
    refine g_iald dX3_pop_25 (rf_a ho0 (k := 1) rfl) (ln_3_1 ho0) hw.1 ?_
    have hw := hw.2
    exact g_iret dX3_pop_26 hw
theorem dX3_choose_0 : decode cX3_choose 0 = .ok (.aload_n 0, 1) := by decide +kernel
theorem dX3_choose_1 : decode cX3_choose 1 = .ok (.invokevirtual 29, 3) := by decide +kernel
theorem dX3_choose_4 : decode cX3_choose 4 = .ok (.istore_n 1, 1) := by decide +kernel
theorem dX3_choose_5 : decode cX3_choose 5 = .ok (.aload_n 0, 1) := by decide +kernel
theorem dX3_choose_6 : decode cX3_choose 6 = .ok (.invokevirtual 29, 3) := by decide +kernel
theorem dX3_choose_9 : decode cX3_choose 9 = .ok (.istore_n 2, 1) := by decide +kernel
theorem dX3_choose_10 : decode cX3_choose 10 = .ok (.aload_n 0, 1) := by decide +kernel
theorem dX3_choose_11 : decode cX3_choose 11 = .ok (.aload_n 0, 1) := by decide +kernel
theorem dX3_choose_12 : decode cX3_choose 12 = .ok (.invokevirtual 29, 3) := by decide +kernel
theorem dX3_choose_15 : decode cX3_choose 15 = .ok (.iconst 1, 1) := by decide +kernel
theorem dX3_choose_16 : decode cX3_choose 16 = .ok (.if_icmp .ne 7, 3) := by decide +kernel
theorem dX3_choose_19 : decode cX3_choose 19 = .ok (.iload_n 2, 1) := by decide +kernel
theorem dX3_choose_20 : decode cX3_choose 20 = .ok (.goto 4, 3) := by decide +kernel
theorem dX3_choose_23 : decode cX3_choose 23 = .ok (.iload_n 1, 1) := by decide +kernel
theorem dX3_choose_24 : decode cX3_choose 24 = .ok (.invokevirtual 25, 3) := by decide +kernel
theorem dX3_choose_27 : decode cX3_choose 27 = .ok (.return_, 1) := by decide +kernel
theorem ml_X3_29 : Cond.methodLink RX3 29 yX3_pop ∈ Wd := mW 714 (by decide +kernel) rfl
theorem mk_X3_pop : MokV yX3_pop cX3_pop 1 (some .int) 0 := ⟨⟨mW 4 (by decide +kernel) rfl, mW 717 (by decide +kernel) rfl, ⟨by decide, by decide, by decide +kernel⟩, by decide⟩, mW 716 (by decide +kernel) rfl, mS (q := (yX3_pop, 4)) 21 (by decide +kernel)⟩
theorem ml_X3_25 : Cond.methodLink RX3 25 yX3_push ∈ Wd := mW 710 (by decide +kernel) rfl
theorem mk_X3_push : MokV yX3_push cX3_push 2 none 1 := ⟨⟨mW 4 (by decide +kernel) rfl, mW 713 (by decide +kernel) rfl, ⟨by decide, by decide, by decide +kernel⟩, by decide⟩, mW 712 (by decide +kernel) rfl, mS (q := (yX3_push, 4)) 20 (by decide +kernel)⟩
def Law_choose (o0 : Nat) (h : Hp) (Q : Hp → Prop) : Prop := Law_pop o0 h (fun r1 h2 => Law_pop o0 h2 (fun r3 h4 => Law_pop o0 h4 (fun r5 h6 => ∀ J24 : Int32 → Hp → Prop, J24 = (fun s7 h8 => Law_push o0 s7 h8 (fun h9 => Q h9)) → (¬ r5 = 1 → J24 r1 h6) ∧ (r5 = 1 → J24 r3 h6))))
set_option maxHeartbeats 4000000 in
set_option maxRecDepth 20000 in
theorem c_Law_choose {G : Gx} {o0 : Nat} (ho0 : SH o0 = .inl 3)  {h : Hp} {Q : Hp → Prop} (hw : Law_choose o0 h Q) : Ct yX3_choose cX3_choose 3 none 2 G [.ref (gAd G o0)] h (QV G Q) := by
  refine ct_go [(0, .ref (gAd G o0))] (plainFor_of_name (by decide)) rfl (Nat.le_of_ble_eq_true rfl) rfl ?_
  refine g_aload_n dX3_choose_0 rfl rfl ?_
  refine g_callVI [] (ci := 3) dX3_choose_1 ml_X3_29 mk_X3_pop rfl rfl ho0 (Nat.le_of_ble_eq_true rfl) (Nat.le_of_ble_eq_true rfl) rfl (c_Law_pop ho0 hw) (fun r1 h2 hw => ?_)
  refine g_istore_n dX3_choose_4 rfl (by decide) (lv1 := [(0, .ref (gAd G o0)), (1, .int r1)]) rfl ?_
  refine g_aload_n dX3_choose_5 rfl rfl ?_
  refine g_callVI [] (ci := 3) dX3_choose_6 ml_X3_29 mk_X3_pop rfl rfl ho0 (Nat.le_of_ble_eq_true rfl) (Nat.le_of_ble_eq_true rfl) rfl (c_Law_pop ho0 hw) (fun r3 h4 hw => ?_)
  refine g_istore_n dX3_choose_9 rfl (by decide) (lv1 := [(0, .ref (gAd G o0)), (1, .int r1), (2, .int r3)]) rfl ?_
  refine g_aload_n dX3_choose_10 rfl rfl ?_
  refine g_aload_n dX3_choose_11 rfl rfl ?_
  refine g_callVI [] (ci := 3) dX3_choose_12 ml_X3_29 mk_X3_pop rfl rfl ho0 (Nat.le_of_ble_eq_true rfl) (Nat.le_of_ble_eq_true rfl) rfl (c_Law_pop ho0 hw) (fun r5 h6 hw => ?_)
  refine g_iconst (v := 1) dX3_choose_15 (by decide) ?_
  refine jn_el hw (fun J24 eJ24 hw => ?_)
  have hJ24 : ∀ (s7 : Int32) (h8 : Hp), J24 s7 h8 → Go cX3_choose 3 RX3 none 2 G (QV G Q) 24 [] [.int s7, .ref (gAd G o0)] h8 := by
    intro s7 h8 hw
    subst eJ24
    refine g_callVV [.int s7] (ci := 3) dX3_choose_24 ml_X3_25 mk_X3_push rfl rfl ho0 (Nat.le_of_ble_eq_true rfl) (Nat.le_of_ble_eq_true rfl) rfl (c_Law_push ho0 hw) (fun h9 hw => ?_)
    exact g_vret dX3_choose_27 hw
  refine g_icmp_ne 23 dX3_choose_16 rfl (fun hc => ?_) (fun hc => ?_)
  · have hw := hw.1 hc
    refine g_iload_n dX3_choose_23 rfl rfl ?_
    refine g_lv [] rfl ?_
    exact hJ24 _ _ hw
  · have hw := hw.2 hc
    refine g_iload_n dX3_choose_19 rfl rfl ?_
    refine g_goto 24 dX3_choose_20 rfl ?_
    refine g_lv [] rfl ?_
    exact hJ24 _ _ hw
theorem dJ9_min_f86c9_0 : decode cJ9_min_f86c9 0 = .ok (.lload_n 0, 1) := by decide +kernel
theorem dJ9_min_f86c9_1 : decode cJ9_min_f86c9 1 = .ok (.lload_n 2, 1) := by decide +kernel
theorem dJ9_min_f86c9_2 : decode cJ9_min_f86c9 2 = .ok (.lcmp, 1) := by decide +kernel
theorem dJ9_min_f86c9_3 : decode cJ9_min_f86c9 3 = .ok (.ifCond .gt 7, 3) := by decide +kernel
theorem dJ9_min_f86c9_6 : decode cJ9_min_f86c9 6 = .ok (.lload_n 0, 1) := by decide +kernel
theorem dJ9_min_f86c9_7 : decode cJ9_min_f86c9 7 = .ok (.goto 4, 3) := by decide +kernel
theorem dJ9_min_f86c9_10 : decode cJ9_min_f86c9 10 = .ok (.lload_n 2, 1) := by decide +kernel
theorem dJ9_min_f86c9_11 : decode cJ9_min_f86c9 11 = .ok (.lreturn, 1) := by decide +kernel
def J9_min_f86c9 (x0 : Int64) (x2 : Int64) (h : Hp) (Q : Int64 → Hp → Prop) : Prop := (x2 < x0 → Q x2 h) ∧ (¬ x2 < x0 → Q x0 h)
set_option maxHeartbeats 4000000 in
set_option maxRecDepth 20000 in
theorem c_J9_min_f86c9 {G : Gx}  {x0 : Int64} {x2 : Int64} {h : Hp} {Q : Int64 → Hp → Prop} (hw : J9_min_f86c9 x0 x2 h Q) : Ct yJ9_min_f86c9 cJ9_min_f86c9 4 (some .long) 1 G [.long x0, .long x2] h (QJ G Q) := by
  refine ct_go [(0, .long x0), (2, .long x2)] (by decide +kernel) rfl (Nat.le_of_ble_eq_true rfl) rfl ?_
  refine g_lload_n dJ9_min_f86c9_0 rfl rfl ?_
  refine g_lload_n dJ9_min_f86c9_1 rfl rfl ?_
  refine g_lc_gt 10 dJ9_min_f86c9_2 dJ9_min_f86c9_3 rfl (fun hc => ?_) (fun hc => ?_)
  · have hw := hw.1 hc
    refine g_lload_n dJ9_min_f86c9_10 rfl rfl ?_
    exact g_lret dJ9_min_f86c9_11 hw
  · have hw := hw.2 hc
    refine g_lload_n dJ9_min_f86c9_6 rfl rfl ?_
    refine g_goto 11 dJ9_min_f86c9_7 rfl ?_
    exact g_lret dJ9_min_f86c9_11 hw
theorem dJ9_max_f86c9_0 : decode cJ9_max_f86c9 0 = .ok (.lload_n 0, 1) := by decide +kernel
theorem dJ9_max_f86c9_1 : decode cJ9_max_f86c9 1 = .ok (.lload_n 2, 1) := by decide +kernel
theorem dJ9_max_f86c9_2 : decode cJ9_max_f86c9 2 = .ok (.lcmp, 1) := by decide +kernel
theorem dJ9_max_f86c9_3 : decode cJ9_max_f86c9 3 = .ok (.ifCond .lt 7, 3) := by decide +kernel
theorem dJ9_max_f86c9_6 : decode cJ9_max_f86c9 6 = .ok (.lload_n 0, 1) := by decide +kernel
theorem dJ9_max_f86c9_7 : decode cJ9_max_f86c9 7 = .ok (.goto 4, 3) := by decide +kernel
theorem dJ9_max_f86c9_10 : decode cJ9_max_f86c9 10 = .ok (.lload_n 2, 1) := by decide +kernel
theorem dJ9_max_f86c9_11 : decode cJ9_max_f86c9 11 = .ok (.lreturn, 1) := by decide +kernel
def J9_max_f86c9 (x0 : Int64) (x2 : Int64) (h : Hp) (Q : Int64 → Hp → Prop) : Prop := (x0 < x2 → Q x2 h) ∧ (¬ x0 < x2 → Q x0 h)
set_option maxHeartbeats 4000000 in
set_option maxRecDepth 20000 in
theorem c_J9_max_f86c9 {G : Gx}  {x0 : Int64} {x2 : Int64} {h : Hp} {Q : Int64 → Hp → Prop} (hw : J9_max_f86c9 x0 x2 h Q) : Ct yJ9_max_f86c9 cJ9_max_f86c9 4 (some .long) 1 G [.long x0, .long x2] h (QJ G Q) := by
  refine ct_go [(0, .long x0), (2, .long x2)] (by decide +kernel) rfl (Nat.le_of_ble_eq_true rfl) rfl ?_
  refine g_lload_n dJ9_max_f86c9_0 rfl rfl ?_
  refine g_lload_n dJ9_max_f86c9_1 rfl rfl ?_
  refine g_lc_lt 10 dJ9_max_f86c9_2 dJ9_max_f86c9_3 rfl (fun hc => ?_) (fun hc => ?_)
  · have hw := hw.1 hc
    refine g_lload_n dJ9_max_f86c9_10 rfl rfl ?_
    exact g_lret dJ9_max_f86c9_11 hw
  · have hw := hw.2 hc
    refine g_lload_n dJ9_max_f86c9_6 rfl rfl ?_
    refine g_goto 11 dJ9_max_f86c9_7 rfl ?_
    exact g_lret dJ9_max_f86c9_11 hw
theorem dX3_kept_0 : decode cX3_kept 0 = .ok (.ldc2_w 44, 3) := by decide +kernel
theorem dX3_kept_3 : decode cX3_kept 3 = .ok (.ldc2_w 46, 3) := by decide +kernel
theorem dX3_kept_6 : decode cX3_kept 6 = .ok (.lload_n 0, 1) := by decide +kernel
theorem dX3_kept_7 : decode cX3_kept 7 = .ok (.invokestatic 48, 3) := by decide +kernel
theorem dX3_kept_10 : decode cX3_kept 10 = .ok (.invokestatic 54, 3) := by decide +kernel
theorem dX3_kept_13 : decode cX3_kept 13 = .ok (.l2i, 1) := by decide +kernel
theorem dX3_kept_14 : decode cX3_kept 14 = .ok (.ireturn, 1) := by decide +kernel
theorem kl_X3_44 : Cond.constantLong RX3 44 (-1000000) ∈ Wd := mW 728 (by decide +kernel) rfl
theorem kl_X3_46 : Cond.constantLong RX3 46 (1000000) ∈ Wd := mW 729 (by decide +kernel) rfl
theorem ml_X3_48 : Cond.methodLink RX3 48 yJ9_min_f86c9 ∈ Wd := mW 730 (by decide +kernel) rfl
theorem mk_J9_min_f86c9 : MokS yJ9_min_f86c9 cJ9_min_f86c9 4 (some .long) 2 := ⟨⟨mW 15 (by decide +kernel) rfl, mW 732 (by decide +kernel) rfl, ⟨by decide, by decide, by decide +kernel⟩, by decide⟩, mW 731 (by decide +kernel) rfl⟩
theorem ml_X3_54 : Cond.methodLink RX3 54 yJ9_max_f86c9 ∈ Wd := mW 733 (by decide +kernel) rfl
theorem mk_J9_max_f86c9 : MokS yJ9_max_f86c9 cJ9_max_f86c9 4 (some .long) 2 := ⟨⟨mW 15 (by decide +kernel) rfl, mW 735 (by decide +kernel) rfl, ⟨by decide, by decide, by decide +kernel⟩, by decide⟩, mW 734 (by decide +kernel) rfl⟩
def Law_kept (x0 : Int64) (h : Hp) (Q : Int32 → Hp → Prop) : Prop := J9_min_f86c9 (1000000 : Int64) x0 h (fun r1 h2 => J9_max_f86c9 (-1000000 : Int64) r1 h2 (fun r3 h4 => Q ((r3).toInt32) h4))
set_option maxHeartbeats 4000000 in
set_option maxRecDepth 20000 in
theorem c_Law_kept {G : Gx}  {x0 : Int64} {h : Hp} {Q : Int32 → Hp → Prop} (hw : Law_kept x0 h Q) : Ct yX3_kept cX3_kept 2 (some .int) 2 G [.long x0] h (QI G Q) := by
  refine ct_go [(0, .long x0)] (plainFor_of_name (by decide)) rfl (Nat.le_of_ble_eq_true rfl) rfl ?_
  refine g_ldc2 dX3_kept_0 kl_X3_44 ?_
  refine g_ldc2 dX3_kept_3 kl_X3_46 ?_
  refine g_lload_n dX3_kept_6 rfl rfl ?_
  refine g_callSJ [.long (1000000 : Int64), .long x0] dX3_kept_7 ml_X3_48 mk_J9_min_f86c9 rfl (Nat.le_of_ble_eq_true rfl) (Nat.le_of_ble_eq_true rfl) rfl (c_J9_min_f86c9 hw) (fun r1 h2 hw => ?_)
  refine g_callSJ [.long (-1000000 : Int64), .long r1] dX3_kept_10 ml_X3_54 mk_J9_max_f86c9 rfl (Nat.le_of_ble_eq_true rfl) (Nat.le_of_ble_eq_true rfl) rfl (c_J9_max_f86c9 hw) (fun r3 h4 hw => ?_)
  refine g_l2i dX3_kept_13 ?_
  exact g_iret dX3_kept_14 hw
theorem dX3_joined_0 : decode cX3_joined 0 = .ok (.iload_n 0, 1) := by decide +kernel
theorem dX3_joined_1 : decode cX3_joined 1 = .ok (.tableswitch 107 1010 1016 #[43, 52, 61, 70, 81, 92, 103], 43) := by decide +kernel
theorem dX3_joined_44 : decode cX3_joined 44 = .ok (.iload_n 1, 1) := by decide +kernel
theorem dX3_joined_45 : decode cX3_joined 45 = .ok (.i2l, 1) := by decide +kernel
theorem dX3_joined_46 : decode cX3_joined 46 = .ok (.iload_n 2, 1) := by decide +kernel
theorem dX3_joined_47 : decode cX3_joined 47 = .ok (.i2l, 1) := by decide +kernel
theorem dX3_joined_48 : decode cX3_joined 48 = .ok (.ladd, 1) := by decide +kernel
theorem dX3_joined_49 : decode cX3_joined 49 = .ok (.invokestatic 40, 3) := by decide +kernel
theorem dX3_joined_52 : decode cX3_joined 52 = .ok (.ireturn, 1) := by decide +kernel
theorem dX3_joined_53 : decode cX3_joined 53 = .ok (.iload_n 1, 1) := by decide +kernel
theorem dX3_joined_54 : decode cX3_joined 54 = .ok (.i2l, 1) := by decide +kernel
theorem dX3_joined_55 : decode cX3_joined 55 = .ok (.iload_n 2, 1) := by decide +kernel
theorem dX3_joined_56 : decode cX3_joined 56 = .ok (.i2l, 1) := by decide +kernel
theorem dX3_joined_57 : decode cX3_joined 57 = .ok (.lsub, 1) := by decide +kernel
theorem dX3_joined_58 : decode cX3_joined 58 = .ok (.invokestatic 40, 3) := by decide +kernel
theorem dX3_joined_61 : decode cX3_joined 61 = .ok (.ireturn, 1) := by decide +kernel
theorem dX3_joined_62 : decode cX3_joined 62 = .ok (.iload_n 1, 1) := by decide +kernel
theorem dX3_joined_63 : decode cX3_joined 63 = .ok (.i2l, 1) := by decide +kernel
theorem dX3_joined_64 : decode cX3_joined 64 = .ok (.iload_n 2, 1) := by decide +kernel
theorem dX3_joined_65 : decode cX3_joined 65 = .ok (.i2l, 1) := by decide +kernel
theorem dX3_joined_66 : decode cX3_joined 66 = .ok (.lmul, 1) := by decide +kernel
theorem dX3_joined_67 : decode cX3_joined 67 = .ok (.invokestatic 40, 3) := by decide +kernel
theorem dX3_joined_70 : decode cX3_joined 70 = .ok (.ireturn, 1) := by decide +kernel
theorem dX3_joined_71 : decode cX3_joined 71 = .ok (.iload_n 1, 1) := by decide +kernel
theorem dX3_joined_72 : decode cX3_joined 72 = .ok (.iload_n 2, 1) := by decide +kernel
theorem dX3_joined_73 : decode cX3_joined 73 = .ok (.if_icmp .ne 7, 3) := by decide +kernel
theorem dX3_joined_76 : decode cX3_joined 76 = .ok (.iconst 1, 1) := by decide +kernel
theorem dX3_joined_77 : decode cX3_joined 77 = .ok (.goto 4, 3) := by decide +kernel
theorem dX3_joined_80 : decode cX3_joined 80 = .ok (.iconst 0, 1) := by decide +kernel
theorem dX3_joined_81 : decode cX3_joined 81 = .ok (.ireturn, 1) := by decide +kernel
theorem dX3_joined_82 : decode cX3_joined 82 = .ok (.iload_n 1, 1) := by decide +kernel
theorem dX3_joined_83 : decode cX3_joined 83 = .ok (.iload_n 2, 1) := by decide +kernel
theorem dX3_joined_84 : decode cX3_joined 84 = .ok (.if_icmp .ge 7, 3) := by decide +kernel
theorem dX3_joined_87 : decode cX3_joined 87 = .ok (.iconst 1, 1) := by decide +kernel
theorem dX3_joined_88 : decode cX3_joined 88 = .ok (.goto 4, 3) := by decide +kernel
theorem dX3_joined_91 : decode cX3_joined 91 = .ok (.iconst 0, 1) := by decide +kernel
theorem dX3_joined_92 : decode cX3_joined 92 = .ok (.ireturn, 1) := by decide +kernel
theorem dX3_joined_93 : decode cX3_joined 93 = .ok (.iload_n 1, 1) := by decide +kernel
theorem dX3_joined_94 : decode cX3_joined 94 = .ok (.iload_n 2, 1) := by decide +kernel
theorem dX3_joined_95 : decode cX3_joined 95 = .ok (.if_icmp .le 7, 3) := by decide +kernel
theorem dX3_joined_98 : decode cX3_joined 98 = .ok (.iconst 1, 1) := by decide +kernel
theorem dX3_joined_99 : decode cX3_joined 99 = .ok (.goto 4, 3) := by decide +kernel
theorem dX3_joined_102 : decode cX3_joined 102 = .ok (.iconst 0, 1) := by decide +kernel
theorem dX3_joined_103 : decode cX3_joined 103 = .ok (.ireturn, 1) := by decide +kernel
theorem dX3_joined_104 : decode cX3_joined 104 = .ok (.iload_n 1, 1) := by decide +kernel
theorem dX3_joined_105 : decode cX3_joined 105 = .ok (.iload_n 2, 1) := by decide +kernel
theorem dX3_joined_106 : decode cX3_joined 106 = .ok (.iand, 1) := by decide +kernel
theorem dX3_joined_107 : decode cX3_joined 107 = .ok (.ireturn, 1) := by decide +kernel
theorem dX3_joined_108 : decode cX3_joined 108 = .ok (.iload_n 1, 1) := by decide +kernel
theorem dX3_joined_109 : decode cX3_joined 109 = .ok (.iload_n 2, 1) := by decide +kernel
theorem dX3_joined_110 : decode cX3_joined 110 = .ok (.ior, 1) := by decide +kernel
theorem dX3_joined_111 : decode cX3_joined 111 = .ok (.ireturn, 1) := by decide +kernel
theorem ml_X3_40 : Cond.methodLink RX3 40 yX3_kept ∈ Wd := mW 725 (by decide +kernel) rfl
theorem mk_X3_kept : MokS yX3_kept cX3_kept 2 (some .int) 1 := ⟨⟨mW 4 (by decide +kernel) rfl, mW 727 (by decide +kernel) rfl, ⟨by decide, by decide, by decide +kernel⟩, by decide⟩, mW 726 (by decide +kernel) rfl⟩
def Law_joined (x0 : Int32) (x1 : Int32) (x2 : Int32) (h : Hp) (Q : Int32 → Hp → Prop) : Prop := (x0.toInt < 1010 ∨ 1016 < x0.toInt → Q (x1 ||| x2) h) ∧ (x0 = 1010 → Law_kept (((x1).toInt64) + ((x2).toInt64)) h (fun r1 h2 => Q r1 h2)) ∧ (x0 = 1011 → Law_kept (((x1).toInt64) - ((x2).toInt64)) h (fun r3 h4 => Q r3 h4)) ∧ (x0 = 1012 → Law_kept (((x1).toInt64) * ((x2).toInt64)) h (fun r5 h6 => Q r5 h6)) ∧ (x0 = 1013 → (¬ x1 = x2 → Q 0 h) ∧ (x1 = x2 → Q 1 h)) ∧ (x0 = 1014 → (x2 ≤ x1 → Q 0 h) ∧ (¬ x2 ≤ x1 → Q 1 h)) ∧ (x0 = 1015 → (x1 ≤ x2 → Q 0 h) ∧ (¬ x1 ≤ x2 → Q 1 h)) ∧ (x0 = 1016 → Q (x1 &&& x2) h)
set_option maxHeartbeats 4000000 in
set_option maxRecDepth 20000 in
theorem c_Law_joined {G : Gx}  {x0 : Int32} {x1 : Int32} {x2 : Int32} {h : Hp} {Q : Int32 → Hp → Prop} (hw : Law_joined x0 x1 x2 h Q) : Ct yX3_joined cX3_joined 3 (some .int) 3 G [.int x0, .int x1, .int x2] h (QI G Q) := by
  refine ct_go [(0, .int x0), (1, .int x1), (2, .int x2)] (plainFor_of_name (by decide)) rfl (Nat.le_of_ble_eq_true rfl) rfl ?_
  refine g_iload_n dX3_joined_0 rfl rfl ?_
  rcases tsw_in x0 (1010) (1016) 7 (by decide) with hc | ⟨j, hj, hc⟩
  · have hw := hw.1 hc
    refine g_tswD 108 dX3_joined_1 hc rfl ?_
    refine g_iload_n dX3_joined_108 rfl rfl ?_
    refine g_iload_n dX3_joined_109 rfl rfl ?_
    refine g_ior dX3_joined_110 ?_
    exact g_iret dX3_joined_111 hw
  · match j, hj, hc with
    | 0, _, hc =>
      have hc : x0 = 1010 := tsw_eq hc (by decide)
      have hw := hw.2.1 hc
      refine g_tswI 1010 44 dX3_joined_1 hc (by decide) (by decide) (off := 43) (by decide) rfl ?_
      refine g_iload_n dX3_joined_44 rfl rfl ?_
      refine g_i2l dX3_joined_45 ?_
      refine g_iload_n dX3_joined_46 rfl rfl ?_
      refine g_i2l dX3_joined_47 ?_
      refine g_ladd dX3_joined_48 ?_
      refine g_callSI [.long (((x1).toInt64) + ((x2).toInt64))] dX3_joined_49 ml_X3_40 mk_X3_kept rfl (Nat.le_of_ble_eq_true rfl) (Nat.le_of_ble_eq_true rfl) rfl (c_Law_kept hw) (fun r1 h2 hw => ?_)
      exact g_iret dX3_joined_52 hw
    | 1, _, hc =>
      have hc : x0 = 1011 := tsw_eq hc (by decide)
      have hw := hw.2.2.1 hc
      refine g_tswI 1011 53 dX3_joined_1 hc (by decide) (by decide) (off := 52) (by decide) rfl ?_
      refine g_iload_n dX3_joined_53 rfl rfl ?_
      refine g_i2l dX3_joined_54 ?_
      refine g_iload_n dX3_joined_55 rfl rfl ?_
      refine g_i2l dX3_joined_56 ?_
      refine g_lsub dX3_joined_57 ?_
      refine g_callSI [.long (((x1).toInt64) - ((x2).toInt64))] dX3_joined_58 ml_X3_40 mk_X3_kept rfl (Nat.le_of_ble_eq_true rfl) (Nat.le_of_ble_eq_true rfl) rfl (c_Law_kept hw) (fun r3 h4 hw => ?_)
      exact g_iret dX3_joined_61 hw
    | 2, _, hc =>
      have hc : x0 = 1012 := tsw_eq hc (by decide)
      have hw := hw.2.2.2.1 hc
      refine g_tswI 1012 62 dX3_joined_1 hc (by decide) (by decide) (off := 61) (by decide) rfl ?_
      refine g_iload_n dX3_joined_62 rfl rfl ?_
      refine g_i2l dX3_joined_63 ?_
      refine g_iload_n dX3_joined_64 rfl rfl ?_
      refine g_i2l dX3_joined_65 ?_
      refine g_lmul dX3_joined_66 ?_
      refine g_callSI [.long (((x1).toInt64) * ((x2).toInt64))] dX3_joined_67 ml_X3_40 mk_X3_kept rfl (Nat.le_of_ble_eq_true rfl) (Nat.le_of_ble_eq_true rfl) rfl (c_Law_kept hw) (fun r5 h6 hw => ?_)
      exact g_iret dX3_joined_70 hw
    | 3, _, hc =>
      have hc : x0 = 1013 := tsw_eq hc (by decide)
      have hw := hw.2.2.2.2.1 hc
      refine g_tswI 1013 71 dX3_joined_1 hc (by decide) (by decide) (off := 70) (by decide) rfl ?_
      refine g_iload_n dX3_joined_71 rfl rfl ?_
      refine g_iload_n dX3_joined_72 rfl rfl ?_
      refine g_icmp_ne 80 dX3_joined_73 rfl (fun hc => ?_) (fun hc => ?_)
      · have hw := hw.1 hc
        refine g_iconst (v := 0) dX3_joined_80 (by decide) ?_
        exact g_iret dX3_joined_81 hw
      · have hw := hw.2 hc
        refine g_iconst (v := 1) dX3_joined_76 (by decide) ?_
        refine g_goto 81 dX3_joined_77 rfl ?_
        exact g_iret dX3_joined_81 hw
    | 4, _, hc =>
      have hc : x0 = 1014 := tsw_eq hc (by decide)
      have hw := hw.2.2.2.2.2.1 hc
      refine g_tswI 1014 82 dX3_joined_1 hc (by decide) (by decide) (off := 81) (by decide) rfl ?_
      refine g_iload_n dX3_joined_82 rfl rfl ?_
      refine g_iload_n dX3_joined_83 rfl rfl ?_
      refine g_icmp_ge 91 dX3_joined_84 rfl (fun hc => ?_) (fun hc => ?_)
      · have hw := hw.1 hc
        refine g_iconst (v := 0) dX3_joined_91 (by decide) ?_
        exact g_iret dX3_joined_92 hw
      · have hw := hw.2 hc
        refine g_iconst (v := 1) dX3_joined_87 (by decide) ?_
        refine g_goto 92 dX3_joined_88 rfl ?_
        exact g_iret dX3_joined_92 hw
    | 5, _, hc =>
      have hc : x0 = 1015 := tsw_eq hc (by decide)
      have hw := hw.2.2.2.2.2.2.1 hc
      refine g_tswI 1015 93 dX3_joined_1 hc (by decide) (by decide) (off := 92) (by decide) rfl ?_
      refine g_iload_n dX3_joined_93 rfl rfl ?_
      refine g_iload_n dX3_joined_94 rfl rfl ?_
      refine g_icmp_le 102 dX3_joined_95 rfl (fun hc => ?_) (fun hc => ?_)
      · have hw := hw.1 hc
        refine g_iconst (v := 0) dX3_joined_102 (by decide) ?_
        exact g_iret dX3_joined_103 hw
      · have hw := hw.2 hc
        refine g_iconst (v := 1) dX3_joined_98 (by decide) ?_
        refine g_goto 103 dX3_joined_99 rfl ?_
        exact g_iret dX3_joined_103 hw
    | 6, _, hc =>
      have hc : x0 = 1016 := tsw_eq hc (by decide)
      have hw := hw.2.2.2.2.2.2.2 hc
      refine g_tswI 1016 104 dX3_joined_1 hc (by decide) (by decide) (off := 103) (by decide) rfl ?_
      refine g_iload_n dX3_joined_104 rfl rfl ?_
      refine g_iload_n dX3_joined_105 rfl rfl ?_
      refine g_iand dX3_joined_106 ?_
      exact g_iret dX3_joined_107 hw
    | k + 7, hj, _ => exact absurd hj (by omega)
theorem dX3_tell_0 : decode cX3_tell 0 = .ok (.aload_n 0, 1) := by decide +kernel
theorem dX3_tell_1 : decode cX3_tell 1 = .ok (.iconst 0, 1) := by decide +kernel
theorem dX3_tell_2 : decode cX3_tell 2 = .ok (.putfield 18, 3) := by decide +kernel
theorem dX3_tell_5 : decode cX3_tell 5 = .ok (.iconst 0, 1) := by decide +kernel
theorem dX3_tell_6 : decode cX3_tell 6 = .ok (.istore_n 2, 1) := by decide +kernel
theorem dX3_tell_7 : decode cX3_tell 7 = .ok (.iload_n 2, 1) := by decide +kernel
theorem dX3_tell_8 : decode cX3_tell 8 = .ok (.aload_n 0, 1) := by decide +kernel
theorem dX3_tell_9 : decode cX3_tell 9 = .ok (.getfield 22, 3) := by decide +kernel
theorem dX3_tell_12 : decode cX3_tell 12 = .ok (.if_icmp .ge 129, 3) := by decide +kernel
theorem dX3_tell_15 : decode cX3_tell 15 = .ok (.iload_n 2, 1) := by decide +kernel
theorem dX3_tell_16 : decode cX3_tell 16 = .ok (.aload_n 0, 1) := by decide +kernel
theorem dX3_tell_17 : decode cX3_tell 17 = .ok (.getfield 9, 3) := by decide +kernel
theorem dX3_tell_20 : decode cX3_tell 20 = .ok (.arraylength, 1) := by decide +kernel
theorem dX3_tell_21 : decode cX3_tell 21 = .ok (.if_icmp .ge 120, 3) := by decide +kernel
theorem dX3_tell_24 : decode cX3_tell 24 = .ok (.aload_n 0, 1) := by decide +kernel
theorem dX3_tell_25 : decode cX3_tell 25 = .ok (.getfield 9, 3) := by decide +kernel
theorem dX3_tell_28 : decode cX3_tell 28 = .ok (.iload_n 2, 1) := by decide +kernel
theorem dX3_tell_29 : decode cX3_tell 29 = .ok (.iaload, 1) := by decide +kernel
theorem dX3_tell_30 : decode cX3_tell 30 = .ok (.istore_n 3, 1) := by decide +kernel
theorem dX3_tell_31 : decode cX3_tell 31 = .ok (.iload_n 3, 1) := by decide +kernel
theorem dX3_tell_32 : decode cX3_tell 32 = .ok (.sipush 1000, 3) := by decide +kernel
theorem dX3_tell_35 : decode cX3_tell 35 = .ok (.if_icmp .ge 11, 3) := by decide +kernel
theorem dX3_tell_38 : decode cX3_tell 38 = .ok (.aload_n 0, 1) := by decide +kernel
theorem dX3_tell_39 : decode cX3_tell 39 = .ok (.iload_n 3, 1) := by decide +kernel
theorem dX3_tell_40 : decode cX3_tell 40 = .ok (.invokevirtual 25, 3) := by decide +kernel
theorem dX3_tell_43 : decode cX3_tell 43 = .ok (.goto 92, 3) := by decide +kernel
theorem dX3_tell_46 : decode cX3_tell 46 = .ok (.iload_n 3, 1) := by decide +kernel
theorem dX3_tell_47 : decode cX3_tell 47 = .ok (.sipush 1004, 3) := by decide +kernel
theorem dX3_tell_50 : decode cX3_tell 50 = .ok (.if_icmp .gt 31, 3) := by decide +kernel
theorem dX3_tell_53 : decode cX3_tell 53 = .ok (.aload_n 0, 1) := by decide +kernel
theorem dX3_tell_54 : decode cX3_tell 54 = .ok (.iload_n 3, 1) := by decide +kernel
theorem dX3_tell_55 : decode cX3_tell 55 = .ok (.sipush 1000, 3) := by decide +kernel
theorem dX3_tell_58 : decode cX3_tell 58 = .ok (.isub, 1) := by decide +kernel
theorem dX3_tell_59 : decode cX3_tell 59 = .ok (.aload_n 1, 1) := by decide +kernel
theorem dX3_tell_60 : decode cX3_tell 60 = .ok (.arraylength, 1) := by decide +kernel
theorem dX3_tell_61 : decode cX3_tell 61 = .ok (.if_icmp .ge 13, 3) := by decide +kernel
theorem dX3_tell_64 : decode cX3_tell 64 = .ok (.aload_n 1, 1) := by decide +kernel
theorem dX3_tell_65 : decode cX3_tell 65 = .ok (.iload_n 3, 1) := by decide +kernel
theorem dX3_tell_66 : decode cX3_tell 66 = .ok (.sipush 1000, 3) := by decide +kernel
theorem dX3_tell_69 : decode cX3_tell 69 = .ok (.isub, 1) := by decide +kernel
theorem dX3_tell_70 : decode cX3_tell 70 = .ok (.iaload, 1) := by decide +kernel
theorem dX3_tell_71 : decode cX3_tell 71 = .ok (.goto 4, 3) := by decide +kernel
theorem dX3_tell_74 : decode cX3_tell 74 = .ok (.iconst 0, 1) := by decide +kernel
theorem dX3_tell_75 : decode cX3_tell 75 = .ok (.invokevirtual 25, 3) := by decide +kernel
theorem dX3_tell_78 : decode cX3_tell 78 = .ok (.goto 57, 3) := by decide +kernel
theorem dX3_tell_81 : decode cX3_tell 81 = .ok (.iload_n 3, 1) := by decide +kernel
theorem dX3_tell_82 : decode cX3_tell 82 = .ok (.sipush 1018, 3) := by decide +kernel
theorem dX3_tell_85 : decode cX3_tell 85 = .ok (.if_icmp .ne 16, 3) := by decide +kernel
theorem dX3_tell_88 : decode cX3_tell 88 = .ok (.aload_n 0, 1) := by decide +kernel
theorem dX3_tell_89 : decode cX3_tell 89 = .ok (.iconst 1, 1) := by decide +kernel
theorem dX3_tell_90 : decode cX3_tell 90 = .ok (.aload_n 0, 1) := by decide +kernel
theorem dX3_tell_91 : decode cX3_tell 91 = .ok (.invokevirtual 29, 3) := by decide +kernel
theorem dX3_tell_94 : decode cX3_tell 94 = .ok (.isub, 1) := by decide +kernel
theorem dX3_tell_95 : decode cX3_tell 95 = .ok (.invokevirtual 25, 3) := by decide +kernel
theorem dX3_tell_98 : decode cX3_tell 98 = .ok (.goto 37, 3) := by decide +kernel
theorem dX3_tell_101 : decode cX3_tell 101 = .ok (.iload_n 3, 1) := by decide +kernel
theorem dX3_tell_102 : decode cX3_tell 102 = .ok (.sipush 1019, 3) := by decide +kernel
theorem dX3_tell_105 : decode cX3_tell 105 = .ok (.if_icmp .ne 10, 3) := by decide +kernel
theorem dX3_tell_108 : decode cX3_tell 108 = .ok (.aload_n 0, 1) := by decide +kernel
theorem dX3_tell_109 : decode cX3_tell 109 = .ok (.invokevirtual 33, 3) := by decide +kernel
theorem dX3_tell_112 : decode cX3_tell 112 = .ok (.goto 23, 3) := by decide +kernel
theorem dX3_tell_115 : decode cX3_tell 115 = .ok (.aload_n 0, 1) := by decide +kernel
theorem dX3_tell_116 : decode cX3_tell 116 = .ok (.invokevirtual 29, 3) := by decide +kernel
theorem dX3_tell_119 : decode cX3_tell 119 = .ok (.istore 4, 2) := by decide +kernel
theorem dX3_tell_121 : decode cX3_tell 121 = .ok (.aload_n 0, 1) := by decide +kernel
theorem dX3_tell_122 : decode cX3_tell 122 = .ok (.iload_n 3, 1) := by decide +kernel
theorem dX3_tell_123 : decode cX3_tell 123 = .ok (.aload_n 0, 1) := by decide +kernel
theorem dX3_tell_124 : decode cX3_tell 124 = .ok (.invokevirtual 29, 3) := by decide +kernel
theorem dX3_tell_127 : decode cX3_tell 127 = .ok (.iload 4, 2) := by decide +kernel
theorem dX3_tell_129 : decode cX3_tell 129 = .ok (.invokestatic 36, 3) := by decide +kernel
theorem dX3_tell_132 : decode cX3_tell 132 = .ok (.invokevirtual 25, 3) := by decide +kernel
theorem dX3_tell_135 : decode cX3_tell 135 = .ok (.iinc 2 1, 3) := by decide +kernel
theorem dX3_tell_138 : decode cX3_tell 138 = .ok (.goto (-131), 3) := by decide +kernel
theorem dX3_tell_141 : decode cX3_tell 141 = .ok (.aload_n 0, 1) := by decide +kernel
theorem dX3_tell_142 : decode cX3_tell 142 = .ok (.invokevirtual 29, 3) := by decide +kernel
theorem dX3_tell_145 : decode cX3_tell 145 = .ok (.ireturn, 1) := by decide +kernel
theorem ml_X3_36 : Cond.methodLink RX3 36 yX3_joined ∈ Wd := mW 722 (by decide +kernel) rfl
theorem mk_X3_joined : MokS yX3_joined cX3_joined 3 (some .int) 3 := ⟨⟨mW 4 (by decide +kernel) rfl, mW 724 (by decide +kernel) rfl, ⟨by decide, by decide, by decide +kernel⟩, by decide⟩, mW 723 (by decide +kernel) rfl⟩
theorem ml_X3_33 : Cond.methodLink RX3 33 yX3_choose ∈ Wd := mW 718 (by decide +kernel) rfl
theorem mk_X3_choose : MokV yX3_choose cX3_choose 3 none 0 := ⟨⟨mW 4 (by decide +kernel) rfl, mW 721 (by decide +kernel) rfl, ⟨by decide, by decide, by decide +kernel⟩, by decide⟩, mW 720 (by decide +kernel) rfl, mS (q := (yX3_choose, 4)) 22 (by decide +kernel)⟩
def Law_tell_L7 (o0 : Nat) (Q : Int32 → Hp → Prop) : Nat → Int32 → Hp → Prop
  | 0, _, _ => False
  | n + 1, x2, h => ((gI h o0 3) ≤ x2 → Law_pop o0 h (fun r2 h3 => Q r2 h3)) ∧ (¬ (gI h o0 3) ≤ x2 → (900 ≤ x2 → Law_pop o0 h (fun r4 h5 => Q r4 h5)) ∧ (¬ 900 ≤ x2 → vp_in x2 900 ∧ ∀ v6 : Int32, v6 = (gI h (rf o0 0) (x2).toNatClampNeg) → ∀ J135 : Hp → Prop, J135 = (fun h7 => ∀ v8 : Int32, v8 = (x2 + 1) → Law_tell_L7 o0 Q n v8 h7) → (1000 ≤ v6 → (1004 < v6 → (¬ v6 = 1018 → (¬ v6 = 1019 → Law_pop o0 h (fun r9 h10 => Law_pop o0 h10 (fun r11 h12 => Law_joined v6 r11 r9 h12 (fun r13 h14 => Law_push o0 r13 h14 (fun h15 => J135 h15))))) ∧ (v6 = 1019 → Law_choose o0 h (fun h16 => J135 h16))) ∧ (v6 = 1018 → Law_pop o0 h (fun r17 h18 => Law_push o0 ((1 : Int32) - r17) h18 (fun h19 => J135 h19)))) ∧ (¬ 1004 < v6 → ∀ J75 : Int32 → Hp → Prop, J75 = (fun s20 h21 => Law_push o0 s20 h21 (fun h22 => J135 h22)) → (5 ≤ (v6 - 1000) → J75 0 h) ∧ (¬ 5 ≤ (v6 - 1000) → vp_in (v6 - 1000) 5 ∧ J75 (gI h 13 ((v6 - 1000)).toNatClampNeg) h))) ∧ (¬ 1000 ≤ v6 → Law_push o0 v6 h (fun h23 => J135 h23))))
set_option maxHeartbeats 4000000 in
set_option maxRecDepth 20000 in
theorem gl_Law_tell_L7 {G : Gx} {o0 : Nat} (ho0 : SH o0 = .inl 3) {Q : Int32 → Hp → Prop} : ∀ (n : Nat) (x2 : Int32) (h : Hp), Law_tell_L7 o0 Q n x2 h → Go cX3_tell 5 RX3 (some .int) 4 G (QI G Q) 7 [(0, .ref (gAd G o0)), (1, .ref (gAd G 13)), (2, .int x2)] [] h := by
  intro n
  induction n with
  | zero => intro _ h hw; exact False.elim hw
  | succ n ih =>
    intro x2 h hw
    refine g_iload_n dX3_tell_7 rfl rfl ?_
    refine g_aload_n dX3_tell_8 rfl rfl ?_
    refine g_getI dX3_tell_9 fl_X3_22 ho0 rfl ?_
    refine g_icmp_ge 141 dX3_tell_12 rfl (fun hc => ?_) (fun hc => ?_)
    · have hw := hw.1 hc
      refine g_aload_n dX3_tell_141 rfl rfl ?_
      refine g_callVI [] (ci := 3) dX3_tell_142 ml_X3_29 mk_X3_pop rfl rfl ho0 (Nat.le_of_ble_eq_true rfl) (Nat.le_of_ble_eq_true rfl) rfl (c_Law_pop ho0 hw) (fun r2 h3 hw => ?_)
      exact g_iret dX3_tell_145 hw
    · have hw := hw.2 hc
      refine g_iload_n dX3_tell_15 rfl rfl ?_
      refine g_aload_n dX3_tell_16 rfl rfl ?_
      refine g_getA dX3_tell_17 fl_X3_9 ho0 rfl ?_
      refine g_alen dX3_tell_20 (rf_a ho0 (k := 0) rfl) (by decide) (ln_3_0 ho0) (v := 900) (by decide) ?_
      refine g_icmp_ge 141 dX3_tell_21 rfl (fun hc => ?_) (fun hc => ?_)
      · have hw := hw.1 hc
        refine g_aload_n dX3_tell_141 rfl rfl ?_
        refine g_callVI [] (ci := 3) dX3_tell_142 ml_X3_29 mk_X3_pop rfl rfl ho0 (Nat.le_of_ble_eq_true rfl) (Nat.le_of_ble_eq_true rfl) rfl (c_Law_pop ho0 hw) (fun r4 h5 hw => ?_)
        exact g_iret dX3_tell_145 hw
      · have hw := hw.2 hc
        refine g_aload_n dX3_tell_24 rfl rfl ?_
        refine g_getA dX3_tell_25 fl_X3_9 ho0 rfl ?_
        refine g_iload_n dX3_tell_28 rfl rfl ?_
        refine g_iald dX3_tell_29 (rf_a ho0 (k := 0) rfl) (ln_3_0 ho0) hw.1 ?_
        have hw := hw.2
        refine g_topi (fun v6 ev6 => ?_)
        have hw := hw v6 ev6
        refine g_istore_n dX3_tell_30 rfl (by decide) (lv1 := [(0, .ref (gAd G o0)), (1, .ref (gAd G 13)), (2, .int x2), (3, .int v6)]) rfl ?_
        refine g_iload_n dX3_tell_31 rfl rfl ?_
        refine g_sipush (v := 1000) dX3_tell_32 (by decide) ?_
        refine jn_el hw (fun J135 eJ135 hw => ?_)
        have hJ135 : ∀ (h7 : Hp), J135 h7 → Go cX3_tell 5 RX3 (some .int) 4 G (QI G Q) 135 [(0, .ref (gAd G o0)), (1, .ref (gAd G 13)), (2, .int x2)] [] h7 := by
          intro h7 hw
          subst eJ135
          obtain ⟨v8, ev8⟩ : ∃ y : Int32, y = (x2 + 1) := ⟨_, rfl⟩
          have hw := hw v8 ev8
          refine g_iinc dX3_tell_135 rfl (by rw [ev8]; rfl) (by decide) (lv1 := [(0, .ref (gAd G o0)), (1, .ref (gAd G 13)), (2, .int v8)]) rfl ?_
          refine g_goto 7 dX3_tell_138 rfl ?_
          exact ih _ _ hw
        refine g_icmp_ge 46 dX3_tell_35 rfl (fun hc => ?_) (fun hc => ?_)
        · have hw := hw.1 hc
          refine g_iload_n dX3_tell_46 rfl rfl ?_
          refine g_sipush (v := 1004) dX3_tell_47 (by decide) ?_
          refine g_icmp_gt 81 dX3_tell_50 rfl (fun hc => ?_) (fun hc => ?_)
          · have hw := hw.1 hc
            refine g_iload_n dX3_tell_81 rfl rfl ?_
            refine g_sipush (v := 1018) dX3_tell_82 (by decide) ?_
            refine g_icmp_ne 101 dX3_tell_85 rfl (fun hc => ?_) (fun hc => ?_)
            · have hw := hw.1 hc
              refine g_iload_n dX3_tell_101 rfl rfl ?_
              refine g_sipush (v := 1019) dX3_tell_102 (by decide) ?_
              refine g_icmp_ne 115 dX3_tell_105 rfl (fun hc => ?_) (fun hc => ?_)
              · have hw := hw.1 hc
                refine g_aload_n dX3_tell_115 rfl rfl ?_
                refine g_callVI [] (ci := 3) dX3_tell_116 ml_X3_29 mk_X3_pop rfl rfl ho0 (Nat.le_of_ble_eq_true rfl) (Nat.le_of_ble_eq_true rfl) rfl (c_Law_pop ho0 hw) (fun r9 h10 hw => ?_)
                refine g_istore dX3_tell_119 (by decide) (lv1 := [(0, .ref (gAd G o0)), (1, .ref (gAd G 13)), (2, .int x2), (3, .int v6), (4, .int r9)]) rfl ?_
                refine g_aload_n dX3_tell_121 rfl rfl ?_
                refine g_iload_n dX3_tell_122 rfl rfl ?_
                refine g_aload_n dX3_tell_123 rfl rfl ?_
                refine g_callVI [] (ci := 3) dX3_tell_124 ml_X3_29 mk_X3_pop rfl rfl ho0 (Nat.le_of_ble_eq_true rfl) (Nat.le_of_ble_eq_true rfl) rfl (c_Law_pop ho0 hw) (fun r11 h12 hw => ?_)
                refine g_iload dX3_tell_127 rfl ?_
                refine g_callSI [.int v6, .int r11, .int r9] dX3_tell_129 ml_X3_36 mk_X3_joined rfl (Nat.le_of_ble_eq_true rfl) (Nat.le_of_ble_eq_true rfl) rfl (c_Law_joined hw) (fun r13 h14 hw => ?_)
                refine g_callVV [.int r13] (ci := 3) dX3_tell_132 ml_X3_25 mk_X3_push rfl rfl ho0 (Nat.le_of_ble_eq_true rfl) (Nat.le_of_ble_eq_true rfl) rfl (c_Law_push ho0 hw) (fun h15 hw => ?_)
                refine g_lv [0, 1, 2] rfl ?_
                exact hJ135 _ hw
              · have hw := hw.2 hc
                refine g_aload_n dX3_tell_108 rfl rfl ?_
                refine g_callVV [] (ci := 3) dX3_tell_109 ml_X3_33 mk_X3_choose rfl rfl ho0 (Nat.le_of_ble_eq_true rfl) (Nat.le_of_ble_eq_true rfl) rfl (c_Law_choose ho0 hw) (fun h16 hw => ?_)
                refine g_goto 135 dX3_tell_112 rfl ?_
                refine g_lv [0, 1, 2] rfl ?_
                exact hJ135 _ hw
            · have hw := hw.2 hc
              refine g_aload_n dX3_tell_88 rfl rfl ?_
              refine g_iconst (v := 1) dX3_tell_89 (by decide) ?_
              refine g_aload_n dX3_tell_90 rfl rfl ?_
              refine g_callVI [] (ci := 3) dX3_tell_91 ml_X3_29 mk_X3_pop rfl rfl ho0 (Nat.le_of_ble_eq_true rfl) (Nat.le_of_ble_eq_true rfl) rfl (c_Law_pop ho0 hw) (fun r17 h18 hw => ?_)
              refine g_isub dX3_tell_94 ?_
              refine g_callVV [.int ((1 : Int32) - r17)] (ci := 3) dX3_tell_95 ml_X3_25 mk_X3_push rfl rfl ho0 (Nat.le_of_ble_eq_true rfl) (Nat.le_of_ble_eq_true rfl) rfl (c_Law_push ho0 hw) (fun h19 hw => ?_)
              refine g_goto 135 dX3_tell_98 rfl ?_
              refine g_lv [0, 1, 2] rfl ?_
              exact hJ135 _ hw
          · have hw := hw.2 hc
            refine g_aload_n dX3_tell_53 rfl rfl ?_
            refine g_iload_n dX3_tell_54 rfl rfl ?_
            refine g_sipush (v := 1000) dX3_tell_55 (by decide) ?_
            refine g_isub dX3_tell_58 ?_
            refine g_aload_n dX3_tell_59 rfl rfl ?_
            refine g_alen dX3_tell_60 ia13 (by decide) al13 (v := 5) (by decide) ?_
            refine jn_el hw (fun J75 eJ75 hw => ?_)
            have hJ75 : ∀ (s20 : Int32) (h21 : Hp), J75 s20 h21 → Go cX3_tell 5 RX3 (some .int) 4 G (QI G Q) 75 [(0, .ref (gAd G o0)), (1, .ref (gAd G 13)), (2, .int x2)] [.int s20, .ref (gAd G o0)] h21 := by
              intro s20 h21 hw
              subst eJ75
              refine g_callVV [.int s20] (ci := 3) dX3_tell_75 ml_X3_25 mk_X3_push rfl rfl ho0 (Nat.le_of_ble_eq_true rfl) (Nat.le_of_ble_eq_true rfl) rfl (c_Law_push ho0 hw) (fun h22 hw => ?_)
              refine g_goto 135 dX3_tell_78 rfl ?_
              exact hJ135 _ hw
            refine g_icmp_ge 74 dX3_tell_61 rfl (fun hc => ?_) (fun hc => ?_)
            · have hw := hw.1 hc
              refine g_iconst (v := 0) dX3_tell_74 (by decide) ?_
              refine g_lv [0, 1, 2] rfl ?_
              exact hJ75 _ _ hw
            · have hw := hw.2 hc
              refine g_aload_n dX3_tell_64 rfl rfl ?_
              refine g_iload_n dX3_tell_65 rfl rfl ?_
              refine g_sipush (v := 1000) dX3_tell_66 (by decide) ?_
              refine g_isub dX3_tell_69 ?_
              refine g_iald dX3_tell_70 ia13 al13 hw.1 ?_
              have hw := hw.2
              refine g_goto 75 dX3_tell_71 rfl ?_
              refine g_lv [0, 1, 2] rfl ?_
              exact hJ75 _ _ hw
        · have hw := hw.2 hc
          refine g_aload_n dX3_tell_38 rfl rfl ?_
          refine g_iload_n dX3_tell_39 rfl rfl ?_
          refine g_callVV [.int v6] (ci := 3) dX3_tell_40 ml_X3_25 mk_X3_push rfl rfl ho0 (Nat.le_of_ble_eq_true rfl) (Nat.le_of_ble_eq_true rfl) rfl (c_Law_push ho0 hw) (fun h23 hw => ?_)
          refine g_goto 135 dX3_tell_43 rfl ?_
          refine g_lv [0, 1, 2] rfl ?_
          exact hJ135 _ hw
def Law_tell (o0 : Nat) (h : Hp) (Q : Int32 → Hp → Prop) : Prop := ∀ h1 : Hp, h1 = sI h o0 2 0 → ∃ n24, Law_tell_L7 o0 Q n24 0 h1
set_option maxHeartbeats 4000000 in
set_option maxRecDepth 20000 in
theorem c_Law_tell {G : Gx} {o0 : Nat} (ho0 : SH o0 = .inl 3)  {h : Hp} {Q : Int32 → Hp → Prop} (hw : Law_tell o0 h Q) : Ct yX3_tell cX3_tell 5 (some .int) 4 G [.ref (gAd G o0), .ref (gAd G 13)] h (QI G Q) := by
  refine ct_go [(0, .ref (gAd G o0)), (1, .ref (gAd G 13))] (plainFor_of_name (by decide)) rfl (Nat.le_of_ble_eq_true rfl) rfl ?_
  refine g_aload_n dX3_tell_0 rfl rfl ?_
  refine g_iconst (v := 0) dX3_tell_1 (by decide) ?_
  refine g_putI dX3_tell_2 fl_X3_18 ho0 rfl rfl pf_3_2 ?_
  refine g_heap (fun h1 eh1 => ?_)
  have hw := hw h1 eh1
  refine g_iconst (v := 0) dX3_tell_5 (by decide) ?_
  refine g_istore_n dX3_tell_6 rfl (by decide) (lv1 := [(0, .ref (gAd G o0)), (1, .ref (gAd G 13)), (2, .int 0)]) rfl ?_
  obtain ⟨n24, hw⟩ := hw
  refine gl_Law_tell_L7 ho0  _ _ _ hw
