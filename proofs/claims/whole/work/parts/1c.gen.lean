theorem dX0_isBestSoFar_0 : decode cX0_isBestSoFar 0 = .ok (.iconst 0, 1) := by decide +kernel
theorem dX0_isBestSoFar_1 : decode cX0_isBestSoFar 1 = .ok (.istore 4, 2) := by decide +kernel
theorem dX0_isBestSoFar_3 : decode cX0_isBestSoFar 3 = .ok (.iload 4, 2) := by decide +kernel
theorem dX0_isBestSoFar_5 : decode cX0_isBestSoFar 5 = .ok (.aload_n 1, 1) := by decide +kernel
theorem dX0_isBestSoFar_6 : decode cX0_isBestSoFar 6 = .ok (.getfield 81, 3) := by decide +kernel
theorem dX0_isBestSoFar_9 : decode cX0_isBestSoFar 9 = .ok (.if_icmp .ge 38, 3) := by decide +kernel
theorem dX0_isBestSoFar_12 : decode cX0_isBestSoFar 12 = .ok (.iload 4, 2) := by decide +kernel
theorem dX0_isBestSoFar_14 : decode cX0_isBestSoFar 14 = .ok (.aload_n 0, 1) := by decide +kernel
theorem dX0_isBestSoFar_15 : decode cX0_isBestSoFar 15 = .ok (.getfield 19, 3) := by decide +kernel
theorem dX0_isBestSoFar_18 : decode cX0_isBestSoFar 18 = .ok (.arraylength, 1) := by decide +kernel
theorem dX0_isBestSoFar_19 : decode cX0_isBestSoFar 19 = .ok (.if_icmp .ge 28, 3) := by decide +kernel
theorem dX0_isBestSoFar_22 : decode cX0_isBestSoFar 22 = .ok (.aload_n 2, 1) := by decide +kernel
theorem dX0_isBestSoFar_23 : decode cX0_isBestSoFar 23 = .ok (.iload_n 3, 1) := by decide +kernel
theorem dX0_isBestSoFar_24 : decode cX0_isBestSoFar 24 = .ok (.iload 4, 2) := by decide +kernel
theorem dX0_isBestSoFar_26 : decode cX0_isBestSoFar 26 = .ok (.invokevirtual 84, 3) := by decide +kernel
theorem dX0_isBestSoFar_29 : decode cX0_isBestSoFar 29 = .ok (.aload_n 0, 1) := by decide +kernel
theorem dX0_isBestSoFar_30 : decode cX0_isBestSoFar 30 = .ok (.getfield 19, 3) := by decide +kernel
theorem dX0_isBestSoFar_33 : decode cX0_isBestSoFar 33 = .ok (.iload 4, 2) := by decide +kernel
theorem dX0_isBestSoFar_35 : decode cX0_isBestSoFar 35 = .ok (.iaload, 1) := by decide +kernel
theorem dX0_isBestSoFar_36 : decode cX0_isBestSoFar 36 = .ok (.if_icmp .eq 5, 3) := by decide +kernel
theorem dX0_isBestSoFar_39 : decode cX0_isBestSoFar 39 = .ok (.iconst 0, 1) := by decide +kernel
theorem dX0_isBestSoFar_40 : decode cX0_isBestSoFar 40 = .ok (.ireturn, 1) := by decide +kernel
theorem dX0_isBestSoFar_41 : decode cX0_isBestSoFar 41 = .ok (.iinc 4 1, 3) := by decide +kernel
theorem dX0_isBestSoFar_44 : decode cX0_isBestSoFar 44 = .ok (.goto (-41), 3) := by decide +kernel
theorem dX0_isBestSoFar_47 : decode cX0_isBestSoFar 47 = .ok (.iconst 1, 1) := by decide +kernel
theorem dX0_isBestSoFar_48 : decode cX0_isBestSoFar 48 = .ok (.ireturn, 1) := by decide +kernel
def Game_isBestSoFar_L3 (x3 : Int32) (Q : Int32 → Hp → Prop) : Nat → Int32 → Hp → Prop
  | 0, _, _ => False
  | n + 1, x4, h => ((gI h 14 0) ≤ x4 → Q 1 h) ∧ (¬ (gI h 14 0) ≤ x4 → (8 ≤ x4 → Q 1 h) ∧ (¬ 8 ≤ x4 → Survey_securedBy x3 x4 h (fun r1 h2 => vp_in x4 8 ∧ (r1 = (gI h2 82 (x4).toNatClampNeg) → ∀ v3 : Int32, v3 = (x4 + 1) → Game_isBestSoFar_L3 x3 Q n v3 h2) ∧ (¬ r1 = (gI h2 82 (x4).toNatClampNeg) → Q 0 h2))))
set_option maxHeartbeats 4000000 in
set_option maxRecDepth 20000 in
theorem gl_Game_isBestSoFar_L3 {G : Gx}  {x3 : Int32} {Q : Int32 → Hp → Prop} : ∀ (n : Nat) (x4 : Int32) (h : Hp), Game_isBestSoFar_L3 x3 Q n x4 h → Go cX0_isBestSoFar 5 RX0 (some .boolean) 2 G (QI G Q) 3 [(0, .ref (gAd G 80)), (1, .ref (gAd G 14)), (2, .ref (gAd G 73)), (3, .int x3), (4, .int x4)] [] h := by
  intro n
  induction n with
  | zero => intro _ h hw; exact False.elim hw
  | succ n ih =>
    intro x4 h hw
    refine g_iload dX0_isBestSoFar_3 rfl ?_
    refine g_aload_n dX0_isBestSoFar_5 rfl rfl ?_
    refine g_getI dX0_isBestSoFar_6 fl_X0_81 sh14 rfl ?_
    refine g_icmp_ge 47 dX0_isBestSoFar_9 rfl (fun hc => ?_) (fun hc => ?_)
    · have hw := hw.1 hc
      refine g_iconst (v := 1) dX0_isBestSoFar_47 (by decide) ?_
      exact g_zret dX0_isBestSoFar_48 rfl hw
    · have hw := hw.2 hc
      refine g_iload dX0_isBestSoFar_12 rfl ?_
      refine g_aload_n dX0_isBestSoFar_14 rfl rfl ?_
      refine g_getA dX0_isBestSoFar_15 fl_X0_19 sh80 rfl ?_
      refine g_alen dX0_isBestSoFar_18 ia82 (by decide) al82 (v := 8) (by decide) ?_
      refine g_icmp_ge 47 dX0_isBestSoFar_19 rfl (fun hc => ?_) (fun hc => ?_)
      · have hw := hw.1 hc
        refine g_iconst (v := 1) dX0_isBestSoFar_47 (by decide) ?_
        exact g_zret dX0_isBestSoFar_48 rfl hw
      · have hw := hw.2 hc
        refine g_aload_n dX0_isBestSoFar_22 rfl rfl ?_
        refine g_iload_n dX0_isBestSoFar_23 rfl rfl ?_
        refine g_iload dX0_isBestSoFar_24 rfl ?_
        refine g_callVI [.int x3, .int x4] (ci := 8) dX0_isBestSoFar_26 ml_X0_84 mk_X8_securedBy rfl rfl sh73 (Nat.le_of_ble_eq_true rfl) (Nat.le_of_ble_eq_true rfl) rfl (c_Survey_securedBy hw) (fun r1 h2 hw => ?_)
        refine g_aload_n dX0_isBestSoFar_29 rfl rfl ?_
        refine g_getA dX0_isBestSoFar_30 fl_X0_19 sh80 rfl ?_
        refine g_iload dX0_isBestSoFar_33 rfl ?_
        refine g_iald dX0_isBestSoFar_35 ia82 al82 hw.1 ?_
        have hw := hw.2
        refine g_icmp_eq 41 dX0_isBestSoFar_36 rfl (fun hc => ?_) (fun hc => ?_)
        · have hw := hw.1 hc
          obtain ⟨v3, ev3⟩ : ∃ y : Int32, y = (x4 + 1) := ⟨_, rfl⟩
          have hw := hw v3 ev3
          refine g_iinc dX0_isBestSoFar_41 rfl (by rw [ev3]; rfl) (by decide) (lv1 := [(0, .ref (gAd G 80)), (1, .ref (gAd G 14)), (2, .ref (gAd G 73)), (3, .int x3), (4, .int v3)]) rfl ?_
          refine g_goto 3 dX0_isBestSoFar_44 rfl ?_
          exact ih _ _ hw
        · have hw := hw.2 hc
          refine g_iconst (v := 0) dX0_isBestSoFar_39 (by decide) ?_
          exact g_zret dX0_isBestSoFar_40 rfl hw
def Game_isBestSoFar (x3 : Int32) (h : Hp) (Q : Int32 → Hp → Prop) : Prop := ∃ n4, Game_isBestSoFar_L3 x3 Q n4 0 h
set_option maxHeartbeats 4000000 in
set_option maxRecDepth 20000 in
theorem c_Game_isBestSoFar {G : Gx}  {x3 : Int32} {h : Hp} {Q : Int32 → Hp → Prop} (hw : Game_isBestSoFar x3 h Q) : Ct yX0_isBestSoFar cX0_isBestSoFar 5 (some .boolean) 2 G [.ref (gAd G 80), .ref (gAd G 14), .ref (gAd G 73), .int x3] h (QI G Q) := by
  refine ct_go [(0, .ref (gAd G 80)), (1, .ref (gAd G 14)), (2, .ref (gAd G 73)), (3, .int x3)] (plainFor_of_name (by decide)) rfl (Nat.le_of_ble_eq_true rfl) rfl ?_
  refine g_iconst (v := 0) dX0_isBestSoFar_0 (by decide) ?_
  refine g_istore dX0_isBestSoFar_1 (by decide) (lv1 := [(0, .ref (gAd G 80)), (1, .ref (gAd G 14)), (2, .ref (gAd G 73)), (3, .int x3), (4, .int 0)]) rfl ?_
  obtain ⟨n4, hw⟩ := hw
  refine gl_Game_isBestSoFar_L3   _ _ _ hw
theorem dX0_keepPlan_0 : decode cX0_keepPlan 0 = .ok (.iconst 0, 1) := by decide +kernel
theorem dX0_keepPlan_1 : decode cX0_keepPlan 1 = .ok (.istore 4, 2) := by decide +kernel
theorem dX0_keepPlan_3 : decode cX0_keepPlan 3 = .ok (.iload 4, 2) := by decide +kernel
theorem dX0_keepPlan_5 : decode cX0_keepPlan 5 = .ok (.aload_n 1, 1) := by decide +kernel
theorem dX0_keepPlan_6 : decode cX0_keepPlan 6 = .ok (.getfield 81, 3) := by decide +kernel
theorem dX0_keepPlan_9 : decode cX0_keepPlan 9 = .ok (.if_icmp .ge 50, 3) := by decide +kernel
theorem dX0_keepPlan_12 : decode cX0_keepPlan 12 = .ok (.iload 4, 2) := by decide +kernel
theorem dX0_keepPlan_14 : decode cX0_keepPlan 14 = .ok (.aload_n 0, 1) := by decide +kernel
theorem dX0_keepPlan_15 : decode cX0_keepPlan 15 = .ok (.getfield 22, 3) := by decide +kernel
theorem dX0_keepPlan_18 : decode cX0_keepPlan 18 = .ok (.arraylength, 1) := by decide +kernel
theorem dX0_keepPlan_19 : decode cX0_keepPlan 19 = .ok (.if_icmp .ge 40, 3) := by decide +kernel
theorem dX0_keepPlan_22 : decode cX0_keepPlan 22 = .ok (.iload 4, 2) := by decide +kernel
theorem dX0_keepPlan_24 : decode cX0_keepPlan 24 = .ok (.aload_n 3, 1) := by decide +kernel
theorem dX0_keepPlan_25 : decode cX0_keepPlan 25 = .ok (.arraylength, 1) := by decide +kernel
theorem dX0_keepPlan_26 : decode cX0_keepPlan 26 = .ok (.if_icmp .ge 33, 3) := by decide +kernel
theorem dX0_keepPlan_29 : decode cX0_keepPlan 29 = .ok (.aload_n 1, 1) := by decide +kernel
theorem dX0_keepPlan_30 : decode cX0_keepPlan 30 = .ok (.iload 4, 2) := by decide +kernel
theorem dX0_keepPlan_32 : decode cX0_keepPlan 32 = .ok (.invokevirtual 87, 3) := by decide +kernel
theorem dX0_keepPlan_35 : decode cX0_keepPlan 35 = .ok (.iload_n 2, 1) := by decide +kernel
theorem dX0_keepPlan_36 : decode cX0_keepPlan 36 = .ok (.if_icmp .ne 17, 3) := by decide +kernel
theorem dX0_keepPlan_39 : decode cX0_keepPlan 39 = .ok (.aload_n 0, 1) := by decide +kernel
theorem dX0_keepPlan_40 : decode cX0_keepPlan 40 = .ok (.getfield 22, 3) := by decide +kernel
theorem dX0_keepPlan_43 : decode cX0_keepPlan 43 = .ok (.iload 4, 2) := by decide +kernel
theorem dX0_keepPlan_45 : decode cX0_keepPlan 45 = .ok (.aload_n 3, 1) := by decide +kernel
theorem dX0_keepPlan_46 : decode cX0_keepPlan 46 = .ok (.iload 4, 2) := by decide +kernel
theorem dX0_keepPlan_48 : decode cX0_keepPlan 48 = .ok (.iaload, 1) := by decide +kernel
theorem dX0_keepPlan_49 : decode cX0_keepPlan 49 = .ok (.invokestatic 91, 3) := by decide +kernel
theorem dX0_keepPlan_52 : decode cX0_keepPlan 52 = .ok (.iastore, 1) := by decide +kernel
theorem dX0_keepPlan_53 : decode cX0_keepPlan 53 = .ok (.iinc 4 1, 3) := by decide +kernel
theorem dX0_keepPlan_56 : decode cX0_keepPlan 56 = .ok (.goto (-53), 3) := by decide +kernel
theorem dX0_keepPlan_59 : decode cX0_keepPlan 59 = .ok (.return_, 1) := by decide +kernel
theorem fl_X0_22 : FLk RX0 22 0 3 := ⟨_, rfl, by decide, mW 293 (by decide +kernel) rfl⟩
theorem ml_X0_91 : Cond.methodLink RX0 91 yJ6_numberOfTrailingZeros_0f7a4 ∈ Wd := mW 959 (by decide +kernel) rfl
def Game_keepPlan_L3 (x2 : Int32) (Q : Hp → Prop) : Nat → Int32 → Hp → Prop
  | 0, _, _ => False
  | n + 1, x4, h => ((gI h 14 0) ≤ x4 → Q h) ∧ (¬ (gI h 14 0) ≤ x4 → (8 ≤ x4 → Q h) ∧ (¬ 8 ≤ x4 → (8 ≤ x4 → Q h) ∧ (¬ 8 ≤ x4 → Land_owner x4 h (fun r1 h2 => ∀ J53 : Hp → Prop, J53 = (fun h3 => ∀ v4 : Int32, v4 = (x4 + 1) → Game_keepPlan_L3 x2 Q n v4 h3) → (¬ r1 = x2 → J53 h2) ∧ (r1 = x2 → vp_in x4 8 ∧ J6_numberOfTrailingZeros_0f7a4 (gI h2 74 (x4).toNatClampNeg) h2 (fun r5 h6 => vp_in x4 8 ∧ ∀ h7 : Hp, h7 = sI h6 83 (x4).toNatClampNeg r5 → J53 h7))))))
set_option maxHeartbeats 4000000 in
set_option maxRecDepth 20000 in
theorem gl_Game_keepPlan_L3 {G : Gx}  {x2 : Int32} {Q : Hp → Prop} : ∀ (n : Nat) (x4 : Int32) (h : Hp), Game_keepPlan_L3 x2 Q n x4 h → Go cX0_keepPlan 5 RX0 none 2 G (QV G Q) 3 [(0, .ref (gAd G 80)), (1, .ref (gAd G 14)), (2, .int x2), (3, .ref (gAd G 74)), (4, .int x4)] [] h := by
  intro n
  induction n with
  | zero => intro _ h hw; exact False.elim hw
  | succ n ih =>
    intro x4 h hw
    refine g_iload dX0_keepPlan_3 rfl ?_
    refine g_aload_n dX0_keepPlan_5 rfl rfl ?_
    refine g_getI dX0_keepPlan_6 fl_X0_81 sh14 rfl ?_
    refine g_icmp_ge 59 dX0_keepPlan_9 rfl (fun hc => ?_) (fun hc => ?_)
    · have hw := hw.1 hc
      exact g_vret dX0_keepPlan_59 hw
    · have hw := hw.2 hc
      refine g_iload dX0_keepPlan_12 rfl ?_
      refine g_aload_n dX0_keepPlan_14 rfl rfl ?_
      refine g_getA dX0_keepPlan_15 fl_X0_22 sh80 rfl ?_
      refine g_alen dX0_keepPlan_18 ia83 (by decide) al83 (v := 8) (by decide) ?_
      refine g_icmp_ge 59 dX0_keepPlan_19 rfl (fun hc => ?_) (fun hc => ?_)
      · have hw := hw.1 hc
        exact g_vret dX0_keepPlan_59 hw
      · have hw := hw.2 hc
        refine g_iload dX0_keepPlan_22 rfl ?_
        refine g_aload_n dX0_keepPlan_24 rfl rfl ?_
        refine g_alen dX0_keepPlan_25 ia74 (by decide) al74 (v := 8) (by decide) ?_
        refine g_icmp_ge 59 dX0_keepPlan_26 rfl (fun hc => ?_) (fun hc => ?_)
        · have hw := hw.1 hc
          exact g_vret dX0_keepPlan_59 hw
        · have hw := hw.2 hc
          refine g_aload_n dX0_keepPlan_29 rfl rfl ?_
          refine g_iload dX0_keepPlan_30 rfl ?_
          refine g_callVI [.int x4] (ci := 2) dX0_keepPlan_32 ml_X0_87 mk_X2_owner rfl rfl sh14 (Nat.le_of_ble_eq_true rfl) (Nat.le_of_ble_eq_true rfl) rfl (c_Land_owner hw) (fun r1 h2 hw => ?_)
          refine g_iload_n dX0_keepPlan_35 rfl rfl ?_
          refine jn_el hw (fun J53 eJ53 hw => ?_)
          have hJ53 : ∀ (h3 : Hp), J53 h3 → Go cX0_keepPlan 5 RX0 none 2 G (QV G Q) 53 [(0, .ref (gAd G 80)), (1, .ref (gAd G 14)), (2, .int x2), (3, .ref (gAd G 74)), (4, .int x4)] [] h3 := by
            intro h3 hw
            subst eJ53
            obtain ⟨v4, ev4⟩ : ∃ y : Int32, y = (x4 + 1) := ⟨_, rfl⟩
            have hw := hw v4 ev4
            refine g_iinc dX0_keepPlan_53 rfl (by rw [ev4]; rfl) (by decide) (lv1 := [(0, .ref (gAd G 80)), (1, .ref (gAd G 14)), (2, .int x2), (3, .ref (gAd G 74)), (4, .int v4)]) rfl ?_
            refine g_goto 3 dX0_keepPlan_56 rfl ?_
            exact ih _ _ hw
          refine g_icmp_ne 53 dX0_keepPlan_36 rfl (fun hc => ?_) (fun hc => ?_)
          · have hw := hw.1 hc
            exact hJ53 _ hw
          · have hw := hw.2 hc
            refine g_aload_n dX0_keepPlan_39 rfl rfl ?_
            refine g_getA dX0_keepPlan_40 fl_X0_22 sh80 rfl ?_
            refine g_iload dX0_keepPlan_43 rfl ?_
            refine g_aload_n dX0_keepPlan_45 rfl rfl ?_
            refine g_iload dX0_keepPlan_46 rfl ?_
            refine g_iald dX0_keepPlan_48 ia74 al74 hw.1 ?_
            have hw := hw.2
            refine g_callSI [.int (gI h2 74 (x4).toNatClampNeg)] dX0_keepPlan_49 ml_X0_91 mk_J6_numberOfTrailingZeros_0f7a4 rfl (Nat.le_of_ble_eq_true rfl) (Nat.le_of_ble_eq_true rfl) rfl (c_J6_numberOfTrailingZeros_0f7a4 hw) (fun r5 h6 hw => ?_)
            refine g_iast dX0_keepPlan_52 ia83 al83 hw.1 ?_
            have hw := hw.2
            refine g_heap (fun h7 eh7 => ?_)
            have hw := hw h7 eh7
            exact hJ53 _ hw
def Game_keepPlan (x2 : Int32) (h : Hp) (Q : Hp → Prop) : Prop := ∃ n8, Game_keepPlan_L3 x2 Q n8 0 h
set_option maxHeartbeats 4000000 in
set_option maxRecDepth 20000 in
theorem c_Game_keepPlan {G : Gx}  {x2 : Int32} {h : Hp} {Q : Hp → Prop} (hw : Game_keepPlan x2 h Q) : Ct yX0_keepPlan cX0_keepPlan 5 none 2 G [.ref (gAd G 80), .ref (gAd G 14), .int x2, .ref (gAd G 74)] h (QV G Q) := by
  refine ct_go [(0, .ref (gAd G 80)), (1, .ref (gAd G 14)), (2, .int x2), (3, .ref (gAd G 74))] (plainFor_of_name (by decide)) rfl (Nat.le_of_ble_eq_true rfl) rfl ?_
  refine g_iconst (v := 0) dX0_keepPlan_0 (by decide) ?_
  refine g_istore dX0_keepPlan_1 (by decide) (lv1 := [(0, .ref (gAd G 80)), (1, .ref (gAd G 14)), (2, .int x2), (3, .ref (gAd G 74)), (4, .int 0)]) rfl ?_
  obtain ⟨n8, hw⟩ := hw
  refine gl_Game_keepPlan_L3   _ _ _ hw
theorem dX0_nextPlan_0 : decode cX0_nextPlan 0 = .ok (.aload_n 1, 1) := by decide +kernel
theorem dX0_nextPlan_1 : decode cX0_nextPlan 1 = .ok (.getfield 81, 3) := by decide +kernel
theorem dX0_nextPlan_4 : decode cX0_nextPlan 4 = .ok (.aload_n 0, 1) := by decide +kernel
theorem dX0_nextPlan_5 : decode cX0_nextPlan 5 = .ok (.getfield 15, 3) := by decide +kernel
theorem dX0_nextPlan_8 : decode cX0_nextPlan 8 = .ok (.arraylength, 1) := by decide +kernel
theorem dX0_nextPlan_9 : decode cX0_nextPlan 9 = .ok (.invokestatic 99, 3) := by decide +kernel
theorem dX0_nextPlan_12 : decode cX0_nextPlan 12 = .ok (.iconst 1, 1) := by decide +kernel
theorem dX0_nextPlan_13 : decode cX0_nextPlan 13 = .ok (.isub, 1) := by decide +kernel
theorem dX0_nextPlan_14 : decode cX0_nextPlan 14 = .ok (.istore 4, 2) := by decide +kernel
theorem dX0_nextPlan_16 : decode cX0_nextPlan 16 = .ok (.iload 4, 2) := by decide +kernel
theorem dX0_nextPlan_18 : decode cX0_nextPlan 18 = .ok (.ifCond .lt 73, 3) := by decide +kernel
theorem dX0_nextPlan_21 : decode cX0_nextPlan 21 = .ok (.aload_n 1, 1) := by decide +kernel
theorem dX0_nextPlan_22 : decode cX0_nextPlan 22 = .ok (.iload 4, 2) := by decide +kernel
theorem dX0_nextPlan_24 : decode cX0_nextPlan 24 = .ok (.invokevirtual 87, 3) := by decide +kernel
theorem dX0_nextPlan_27 : decode cX0_nextPlan 27 = .ok (.iload_n 2, 1) := by decide +kernel
theorem dX0_nextPlan_28 : decode cX0_nextPlan 28 = .ok (.if_icmp .ne 57, 3) := by decide +kernel
theorem dX0_nextPlan_31 : decode cX0_nextPlan 31 = .ok (.iload 4, 2) := by decide +kernel
theorem dX0_nextPlan_33 : decode cX0_nextPlan 33 = .ok (.aload_n 3, 1) := by decide +kernel
theorem dX0_nextPlan_34 : decode cX0_nextPlan 34 = .ok (.arraylength, 1) := by decide +kernel
theorem dX0_nextPlan_35 : decode cX0_nextPlan 35 = .ok (.if_icmp .ge 50, 3) := by decide +kernel
theorem dX0_nextPlan_38 : decode cX0_nextPlan 38 = .ok (.aload_n 0, 1) := by decide +kernel
theorem dX0_nextPlan_39 : decode cX0_nextPlan 39 = .ok (.getfield 15, 3) := by decide +kernel
theorem dX0_nextPlan_42 : decode cX0_nextPlan 42 = .ok (.iload 4, 2) := by decide +kernel
theorem dX0_nextPlan_44 : decode cX0_nextPlan 44 = .ok (.iaload, 1) := by decide +kernel
theorem dX0_nextPlan_45 : decode cX0_nextPlan 45 = .ok (.aload_n 3, 1) := by decide +kernel
theorem dX0_nextPlan_46 : decode cX0_nextPlan 46 = .ok (.iload 4, 2) := by decide +kernel
theorem dX0_nextPlan_48 : decode cX0_nextPlan 48 = .ok (.iaload, 1) := by decide +kernel
theorem dX0_nextPlan_49 : decode cX0_nextPlan 49 = .ok (.iconst 1, 1) := by decide +kernel
theorem dX0_nextPlan_50 : decode cX0_nextPlan 50 = .ok (.ishl, 1) := by decide +kernel
theorem dX0_nextPlan_51 : decode cX0_nextPlan 51 = .ok (.ineg, 1) := by decide +kernel
theorem dX0_nextPlan_52 : decode cX0_nextPlan 52 = .ok (.iand, 1) := by decide +kernel
theorem dX0_nextPlan_53 : decode cX0_nextPlan 53 = .ok (.istore 5, 2) := by decide +kernel
theorem dX0_nextPlan_55 : decode cX0_nextPlan 55 = .ok (.iload 5, 2) := by decide +kernel
theorem dX0_nextPlan_57 : decode cX0_nextPlan 57 = .ok (.ifCond .eq 14, 3) := by decide +kernel
theorem dX0_nextPlan_60 : decode cX0_nextPlan 60 = .ok (.aload_n 3, 1) := by decide +kernel
theorem dX0_nextPlan_61 : decode cX0_nextPlan 61 = .ok (.iload 4, 2) := by decide +kernel
theorem dX0_nextPlan_63 : decode cX0_nextPlan 63 = .ok (.iload 5, 2) := by decide +kernel
theorem dX0_nextPlan_65 : decode cX0_nextPlan 65 = .ok (.invokestatic 96, 3) := by decide +kernel
theorem dX0_nextPlan_68 : decode cX0_nextPlan 68 = .ok (.iastore, 1) := by decide +kernel
theorem dX0_nextPlan_69 : decode cX0_nextPlan 69 = .ok (.iconst 1, 1) := by decide +kernel
theorem dX0_nextPlan_70 : decode cX0_nextPlan 70 = .ok (.ireturn, 1) := by decide +kernel
theorem dX0_nextPlan_71 : decode cX0_nextPlan 71 = .ok (.aload_n 3, 1) := by decide +kernel
theorem dX0_nextPlan_72 : decode cX0_nextPlan 72 = .ok (.iload 4, 2) := by decide +kernel
theorem dX0_nextPlan_74 : decode cX0_nextPlan 74 = .ok (.aload_n 0, 1) := by decide +kernel
theorem dX0_nextPlan_75 : decode cX0_nextPlan 75 = .ok (.getfield 15, 3) := by decide +kernel
theorem dX0_nextPlan_78 : decode cX0_nextPlan 78 = .ok (.iload 4, 2) := by decide +kernel
theorem dX0_nextPlan_80 : decode cX0_nextPlan 80 = .ok (.iaload, 1) := by decide +kernel
theorem dX0_nextPlan_81 : decode cX0_nextPlan 81 = .ok (.invokestatic 96, 3) := by decide +kernel
theorem dX0_nextPlan_84 : decode cX0_nextPlan 84 = .ok (.iastore, 1) := by decide +kernel
theorem dX0_nextPlan_85 : decode cX0_nextPlan 85 = .ok (.iinc 4 (-1), 3) := by decide +kernel
theorem dX0_nextPlan_88 : decode cX0_nextPlan 88 = .ok (.goto (-72), 3) := by decide +kernel
theorem dX0_nextPlan_91 : decode cX0_nextPlan 91 = .ok (.iconst 0, 1) := by decide +kernel
theorem dX0_nextPlan_92 : decode cX0_nextPlan 92 = .ok (.ireturn, 1) := by decide +kernel
theorem ml_X0_99 : Cond.methodLink RX0 99 yJ9_min_7cf53 ∈ Wd := mW 964 (by decide +kernel) rfl
def Game_nextPlan_L16 (x2 : Int32) (Q : Int32 → Hp → Prop) : Nat → Int32 → Hp → Prop
  | 0, _, _ => False
  | n + 1, x4, h => (x4 < 0 → Q 0 h) ∧ (¬ x4 < 0 → Land_owner x4 h (fun r4 h5 => ∀ J85 : Hp → Prop, J85 = (fun h6 => ∀ v7 : Int32, v7 = (x4 + (-1)) → Game_nextPlan_L16 x2 Q n v7 h6) → (¬ r4 = x2 → J85 h5) ∧ (r4 = x2 → (8 ≤ x4 → J85 h5) ∧ (¬ 8 ≤ x4 → vp_in x4 8 ∧ vp_in x4 8 ∧ ∀ v8 : Int32, v8 = ((gI h5 81 (x4).toNatClampNeg) &&& (-((gI h5 74 (x4).toNatClampNeg) <<< (1 &&& 31)))) → (v8 = 0 → vp_in x4 8 ∧ J6_lowestOneBit_0f7a4 (gI h5 81 (x4).toNatClampNeg) h5 (fun r9 h10 => vp_in x4 8 ∧ ∀ h11 : Hp, h11 = sI h10 74 (x4).toNatClampNeg r9 → J85 h11)) ∧ (¬ v8 = 0 → J6_lowestOneBit_0f7a4 v8 h5 (fun r12 h13 => vp_in x4 8 ∧ ∀ h14 : Hp, h14 = sI h13 74 (x4).toNatClampNeg r12 → Q 1 h14))))))
set_option maxHeartbeats 4000000 in
set_option maxRecDepth 20000 in
theorem gl_Game_nextPlan_L16 {G : Gx}  {x2 : Int32} {Q : Int32 → Hp → Prop} : ∀ (n : Nat) (x4 : Int32) (h : Hp), Game_nextPlan_L16 x2 Q n x4 h → Go cX0_nextPlan 6 RX0 (some .boolean) 2 G (QI G Q) 16 [(0, .ref (gAd G 80)), (1, .ref (gAd G 14)), (2, .int x2), (3, .ref (gAd G 74)), (4, .int x4)] [] h := by
  intro n
  induction n with
  | zero => intro _ h hw; exact False.elim hw
  | succ n ih =>
    intro x4 h hw
    refine g_iload dX0_nextPlan_16 rfl ?_
    refine g_if_lt 91 dX0_nextPlan_18 rfl (fun hc => ?_) (fun hc => ?_)
    · have hw := hw.1 hc
      refine g_iconst (v := 0) dX0_nextPlan_91 (by decide) ?_
      exact g_zret dX0_nextPlan_92 rfl hw
    · have hw := hw.2 hc
      refine g_aload_n dX0_nextPlan_21 rfl rfl ?_
      refine g_iload dX0_nextPlan_22 rfl ?_
      refine g_callVI [.int x4] (ci := 2) dX0_nextPlan_24 ml_X0_87 mk_X2_owner rfl rfl sh14 (Nat.le_of_ble_eq_true rfl) (Nat.le_of_ble_eq_true rfl) rfl (c_Land_owner hw) (fun r4 h5 hw => ?_)
      refine g_iload_n dX0_nextPlan_27 rfl rfl ?_
      refine jn_el hw (fun J85 eJ85 hw => ?_)
      have hJ85 : ∀ (h6 : Hp), J85 h6 → Go cX0_nextPlan 6 RX0 (some .boolean) 2 G (QI G Q) 85 [(0, .ref (gAd G 80)), (1, .ref (gAd G 14)), (2, .int x2), (3, .ref (gAd G 74)), (4, .int x4)] [] h6 := by
        intro h6 hw
        subst eJ85
        obtain ⟨v7, ev7⟩ : ∃ y : Int32, y = (x4 + (-1)) := ⟨_, rfl⟩
        have hw := hw v7 ev7
        refine g_iinc dX0_nextPlan_85 rfl (by rw [ev7]; rfl) (by decide) (lv1 := [(0, .ref (gAd G 80)), (1, .ref (gAd G 14)), (2, .int x2), (3, .ref (gAd G 74)), (4, .int v7)]) rfl ?_
        refine g_goto 16 dX0_nextPlan_88 rfl ?_
        exact ih _ _ hw
      refine g_icmp_ne 85 dX0_nextPlan_28 rfl (fun hc => ?_) (fun hc => ?_)
      · have hw := hw.1 hc
        exact hJ85 _ hw
      · have hw := hw.2 hc
        refine g_iload dX0_nextPlan_31 rfl ?_
        refine g_aload_n dX0_nextPlan_33 rfl rfl ?_
        refine g_alen dX0_nextPlan_34 ia74 (by decide) al74 (v := 8) (by decide) ?_
        refine g_icmp_ge 85 dX0_nextPlan_35 rfl (fun hc => ?_) (fun hc => ?_)
        · have hw := hw.1 hc
          exact hJ85 _ hw
        · have hw := hw.2 hc
          refine g_aload_n dX0_nextPlan_38 rfl rfl ?_
          refine g_getA dX0_nextPlan_39 fl_X0_15 sh80 rfl ?_
          refine g_iload dX0_nextPlan_42 rfl ?_
          refine g_iald dX0_nextPlan_44 ia81 al81 hw.1 ?_
          have hw := hw.2
          refine g_aload_n dX0_nextPlan_45 rfl rfl ?_
          refine g_iload dX0_nextPlan_46 rfl ?_
          refine g_iald dX0_nextPlan_48 ia74 al74 hw.1 ?_
          have hw := hw.2
          refine g_iconst (v := 1) dX0_nextPlan_49 (by decide) ?_
          refine g_ishl dX0_nextPlan_50 ?_
          refine g_ineg dX0_nextPlan_51 ?_
          refine g_iand dX0_nextPlan_52 ?_
          refine g_topi (fun v8 ev8 => ?_)
          have hw := hw v8 ev8
          refine g_istore dX0_nextPlan_53 (by decide) (lv1 := [(0, .ref (gAd G 80)), (1, .ref (gAd G 14)), (2, .int x2), (3, .ref (gAd G 74)), (4, .int x4), (5, .int v8)]) rfl ?_
          refine g_iload dX0_nextPlan_55 rfl ?_
          refine g_if_eq 71 dX0_nextPlan_57 rfl (fun hc => ?_) (fun hc => ?_)
          · have hw := hw.1 hc
            refine g_aload_n dX0_nextPlan_71 rfl rfl ?_
            refine g_iload dX0_nextPlan_72 rfl ?_
            refine g_aload_n dX0_nextPlan_74 rfl rfl ?_
            refine g_getA dX0_nextPlan_75 fl_X0_15 sh80 rfl ?_
            refine g_iload dX0_nextPlan_78 rfl ?_
            refine g_iald dX0_nextPlan_80 ia81 al81 hw.1 ?_
            have hw := hw.2
            refine g_callSI [.int (gI h5 81 (x4).toNatClampNeg)] dX0_nextPlan_81 ml_X0_96 mk_J6_lowestOneBit_0f7a4 rfl (Nat.le_of_ble_eq_true rfl) (Nat.le_of_ble_eq_true rfl) rfl (c_J6_lowestOneBit_0f7a4 hw) (fun r9 h10 hw => ?_)
            refine g_iast dX0_nextPlan_84 ia74 al74 hw.1 ?_
            have hw := hw.2
            refine g_heap (fun h11 eh11 => ?_)
            have hw := hw h11 eh11
            refine g_lv [0, 1, 2, 3, 4] rfl ?_
            exact hJ85 _ hw
          · have hw := hw.2 hc
            refine g_aload_n dX0_nextPlan_60 rfl rfl ?_
            refine g_iload dX0_nextPlan_61 rfl ?_
            refine g_iload dX0_nextPlan_63 rfl ?_
            refine g_callSI [.int v8] dX0_nextPlan_65 ml_X0_96 mk_J6_lowestOneBit_0f7a4 rfl (Nat.le_of_ble_eq_true rfl) (Nat.le_of_ble_eq_true rfl) rfl (c_J6_lowestOneBit_0f7a4 hw) (fun r12 h13 hw => ?_)
            refine g_iast dX0_nextPlan_68 ia74 al74 hw.1 ?_
            have hw := hw.2
            refine g_heap (fun h14 eh14 => ?_)
            have hw := hw h14 eh14
            refine g_iconst (v := 1) dX0_nextPlan_69 (by decide) ?_
            exact g_zret dX0_nextPlan_70 rfl hw
def Game_nextPlan (x2 : Int32) (h : Hp) (Q : Int32 → Hp → Prop) : Prop := J9_min_7cf53 (gI h 14 0) 8 h (fun r1 h2 => ∀ v3 : Int32, v3 = (r1 - 1) → ∃ n15, Game_nextPlan_L16 x2 Q n15 v3 h2)
set_option maxHeartbeats 4000000 in
set_option maxRecDepth 20000 in
theorem c_Game_nextPlan {G : Gx}  {x2 : Int32} {h : Hp} {Q : Int32 → Hp → Prop} (hw : Game_nextPlan x2 h Q) : Ct yX0_nextPlan cX0_nextPlan 6 (some .boolean) 2 G [.ref (gAd G 80), .ref (gAd G 14), .int x2, .ref (gAd G 74)] h (QI G Q) := by
  refine ct_go [(0, .ref (gAd G 80)), (1, .ref (gAd G 14)), (2, .int x2), (3, .ref (gAd G 74))] (plainFor_of_name (by decide)) rfl (Nat.le_of_ble_eq_true rfl) rfl ?_
  refine g_aload_n dX0_nextPlan_0 rfl rfl ?_
  refine g_getI dX0_nextPlan_1 fl_X0_81 sh14 rfl ?_
  refine g_aload_n dX0_nextPlan_4 rfl rfl ?_
  refine g_getA dX0_nextPlan_5 fl_X0_15 sh80 rfl ?_
  refine g_alen dX0_nextPlan_8 ia81 (by decide) al81 (v := 8) (by decide) ?_
  refine g_callSI [.int (gI h 14 0), .int 8] dX0_nextPlan_9 ml_X0_99 mk_J9_min_7cf53 rfl (Nat.le_of_ble_eq_true rfl) (Nat.le_of_ble_eq_true rfl) rfl (c_J9_min_7cf53 hw) (fun r1 h2 hw => ?_)
  refine g_iconst (v := 1) dX0_nextPlan_12 (by decide) ?_
  refine g_isub dX0_nextPlan_13 ?_
  refine g_topi (fun v3 ev3 => ?_)
  have hw := hw v3 ev3
  refine g_istore dX0_nextPlan_14 (by decide) (lv1 := [(0, .ref (gAd G 80)), (1, .ref (gAd G 14)), (2, .int x2), (3, .ref (gAd G 74)), (4, .int v3)]) rfl ?_
  obtain ⟨n15, hw⟩ := hw
  refine gl_Game_nextPlan_L16   _ _ _ hw
theorem dX0_weighPlans_0 : decode cX0_weighPlans 0 = .ok (.aload_n 0, 1) := by decide +kernel
theorem dX0_weighPlans_1 : decode cX0_weighPlans 1 = .ok (.aload_n 1, 1) := by decide +kernel
theorem dX0_weighPlans_2 : decode cX0_weighPlans 2 = .ok (.iload_n 3, 1) := by decide +kernel
theorem dX0_weighPlans_3 : decode cX0_weighPlans 3 = .ok (.aload_n 2, 1) := by decide +kernel
theorem dX0_weighPlans_4 : decode cX0_weighPlans 4 = .ok (.getfield 50, 3) := by decide +kernel
theorem dX0_weighPlans_7 : decode cX0_weighPlans 7 = .ok (.invokevirtual 53, 3) := by decide +kernel
theorem dX0_weighPlans_10 : decode cX0_weighPlans 10 = .ok (.aload 4, 2) := by decide +kernel
theorem dX0_weighPlans_12 : decode cX0_weighPlans 12 = .ok (.iconst 0, 1) := by decide +kernel
theorem dX0_weighPlans_13 : decode cX0_weighPlans 13 = .ok (.invokestatic 57, 3) := by decide +kernel
theorem dX0_weighPlans_16 : decode cX0_weighPlans 16 = .ok (.iconst 1, 1) := by decide +kernel
theorem dX0_weighPlans_17 : decode cX0_weighPlans 17 = .ok (.istore 5, 2) := by decide +kernel
theorem dX0_weighPlans_19 : decode cX0_weighPlans 19 = .ok (.iconst 0, 1) := by decide +kernel
theorem dX0_weighPlans_20 : decode cX0_weighPlans 20 = .ok (.istore 6, 2) := by decide +kernel
theorem dX0_weighPlans_22 : decode cX0_weighPlans 22 = .ok (.iconst 0, 1) := by decide +kernel
theorem dX0_weighPlans_23 : decode cX0_weighPlans 23 = .ok (.istore 7, 2) := by decide +kernel
theorem dX0_weighPlans_25 : decode cX0_weighPlans 25 = .ok (.iload 7, 2) := by decide +kernel
theorem dX0_weighPlans_27 : decode cX0_weighPlans 27 = .ok (.sipush 324, 3) := by decide +kernel
theorem dX0_weighPlans_30 : decode cX0_weighPlans 30 = .ok (.if_icmp .ge 97, 3) := by decide +kernel
theorem dX0_weighPlans_33 : decode cX0_weighPlans 33 = .ok (.iload 5, 2) := by decide +kernel
theorem dX0_weighPlans_35 : decode cX0_weighPlans 35 = .ok (.ifCond .eq 92, 3) := by decide +kernel
theorem dX0_weighPlans_38 : decode cX0_weighPlans 38 = .ok (.aload_n 2, 1) := by decide +kernel
theorem dX0_weighPlans_39 : decode cX0_weighPlans 39 = .ok (.invokevirtual 63, 3) := by decide +kernel
theorem dX0_weighPlans_42 : decode cX0_weighPlans 42 = .ok (.aload_n 0, 1) := by decide +kernel
theorem dX0_weighPlans_43 : decode cX0_weighPlans 43 = .ok (.aload_n 1, 1) := by decide +kernel
theorem dX0_weighPlans_44 : decode cX0_weighPlans 44 = .ok (.aload_n 2, 1) := by decide +kernel
theorem dX0_weighPlans_45 : decode cX0_weighPlans 45 = .ok (.iload_n 3, 1) := by decide +kernel
theorem dX0_weighPlans_46 : decode cX0_weighPlans 46 = .ok (.aload 4, 2) := by decide +kernel
theorem dX0_weighPlans_48 : decode cX0_weighPlans 48 = .ok (.invokevirtual 66, 3) := by decide +kernel
theorem dX0_weighPlans_51 : decode cX0_weighPlans 51 = .ok (.istore 8, 2) := by decide +kernel
theorem dX0_weighPlans_53 : decode cX0_weighPlans 53 = .ok (.aload_n 0, 1) := by decide +kernel
theorem dX0_weighPlans_54 : decode cX0_weighPlans 54 = .ok (.aload_n 1, 1) := by decide +kernel
theorem dX0_weighPlans_55 : decode cX0_weighPlans 55 = .ok (.aload_n 2, 1) := by decide +kernel
theorem dX0_weighPlans_56 : decode cX0_weighPlans 56 = .ok (.iload_n 3, 1) := by decide +kernel
theorem dX0_weighPlans_57 : decode cX0_weighPlans 57 = .ok (.invokevirtual 70, 3) := by decide +kernel
theorem dX0_weighPlans_60 : decode cX0_weighPlans 60 = .ok (.istore 9, 2) := by decide +kernel
theorem dX0_weighPlans_62 : decode cX0_weighPlans 62 = .ok (.iload 9, 2) := by decide +kernel
theorem dX0_weighPlans_64 : decode cX0_weighPlans 64 = .ok (.ifCond .eq 23, 3) := by decide +kernel
theorem dX0_weighPlans_67 : decode cX0_weighPlans 67 = .ok (.iload 8, 2) := by decide +kernel
theorem dX0_weighPlans_69 : decode cX0_weighPlans 69 = .ok (.ifCond .ne 8, 3) := by decide +kernel
theorem dX0_weighPlans_72 : decode cX0_weighPlans 72 = .ok (.iload 6, 2) := by decide +kernel
theorem dX0_weighPlans_74 : decode cX0_weighPlans 74 = .ok (.ifCond .ne 13, 3) := by decide +kernel
theorem dX0_weighPlans_77 : decode cX0_weighPlans 77 = .ok (.aload_n 0, 1) := by decide +kernel
theorem dX0_weighPlans_78 : decode cX0_weighPlans 78 = .ok (.aload_n 1, 1) := by decide +kernel
theorem dX0_weighPlans_79 : decode cX0_weighPlans 79 = .ok (.iload_n 3, 1) := by decide +kernel
theorem dX0_weighPlans_80 : decode cX0_weighPlans 80 = .ok (.aload_n 2, 1) := by decide +kernel
theorem dX0_weighPlans_81 : decode cX0_weighPlans 81 = .ok (.getfield 50, 3) := by decide +kernel
theorem dX0_weighPlans_84 : decode cX0_weighPlans 84 = .ok (.invokevirtual 74, 3) := by decide +kernel
theorem dX0_weighPlans_87 : decode cX0_weighPlans 87 = .ok (.iload 9, 2) := by decide +kernel
theorem dX0_weighPlans_89 : decode cX0_weighPlans 89 = .ok (.ifCond .ne 13, 3) := by decide +kernel
theorem dX0_weighPlans_92 : decode cX0_weighPlans 92 = .ok (.iload 6, 2) := by decide +kernel
theorem dX0_weighPlans_94 : decode cX0_weighPlans 94 = .ok (.ifCond .eq 12, 3) := by decide +kernel
theorem dX0_weighPlans_97 : decode cX0_weighPlans 97 = .ok (.iload 8, 2) := by decide +kernel
theorem dX0_weighPlans_99 : decode cX0_weighPlans 99 = .ok (.ifCond .ne 7, 3) := by decide +kernel
theorem dX0_weighPlans_102 : decode cX0_weighPlans 102 = .ok (.iconst 1, 1) := by decide +kernel
theorem dX0_weighPlans_103 : decode cX0_weighPlans 103 = .ok (.goto 4, 3) := by decide +kernel
theorem dX0_weighPlans_106 : decode cX0_weighPlans 106 = .ok (.iconst 0, 1) := by decide +kernel
theorem dX0_weighPlans_107 : decode cX0_weighPlans 107 = .ok (.istore 6, 2) := by decide +kernel
theorem dX0_weighPlans_109 : decode cX0_weighPlans 109 = .ok (.aload_n 0, 1) := by decide +kernel
theorem dX0_weighPlans_110 : decode cX0_weighPlans 110 = .ok (.aload_n 1, 1) := by decide +kernel
theorem dX0_weighPlans_111 : decode cX0_weighPlans 111 = .ok (.iload_n 3, 1) := by decide +kernel
theorem dX0_weighPlans_112 : decode cX0_weighPlans 112 = .ok (.aload_n 2, 1) := by decide +kernel
theorem dX0_weighPlans_113 : decode cX0_weighPlans 113 = .ok (.getfield 50, 3) := by decide +kernel
theorem dX0_weighPlans_116 : decode cX0_weighPlans 116 = .ok (.invokevirtual 77, 3) := by decide +kernel
theorem dX0_weighPlans_119 : decode cX0_weighPlans 119 = .ok (.istore 5, 2) := by decide +kernel
theorem dX0_weighPlans_121 : decode cX0_weighPlans 121 = .ok (.iinc 7 1, 3) := by decide +kernel
theorem dX0_weighPlans_124 : decode cX0_weighPlans 124 = .ok (.goto (-99), 3) := by decide +kernel
theorem dX0_weighPlans_127 : decode cX0_weighPlans 127 = .ok (.return_, 1) := by decide +kernel
theorem fl_X0_50 : FLk RX0 50 8 3 := ⟨_, rfl, by decide, mW 252 (by decide +kernel) rfl⟩
theorem ml_X0_53 : Cond.methodLink RX0 53 yX0_firstPlan ∈ Wd := mW 903 (by decide +kernel) rfl
theorem mk_X0_firstPlan : MokV yX0_firstPlan cX0_firstPlan 5 none 3 := ⟨⟨mW 10 (by decide +kernel) rfl, mW 906 (by decide +kernel) rfl, ⟨by decide, by decide, by decide +kernel⟩, by decide⟩, mW 905 (by decide +kernel) rfl, mS (q := (yX0_firstPlan, 7)) 24 (by decide +kernel)⟩
theorem ml_X0_57 : Cond.methodLink RX0 57 yJ7_fill_53178 ∈ Wd := mW 911 (by decide +kernel) rfl
theorem ml_X0_63 : Cond.methodLink RX0 63 yX8_look ∈ Wd := mW 912 (by decide +kernel) rfl
theorem mk_X8_look : MokV yX8_look cX8_look 3 none 0 := ⟨⟨mW 9 (by decide +kernel) rfl, mW 915 (by decide +kernel) rfl, ⟨by decide, by decide, by decide +kernel⟩, by decide⟩, mW 913 (by decide +kernel) rfl, mW 914 (by decide +kernel) rfl⟩
theorem ml_X0_66 : Cond.methodLink RX0 66 yX0_raiseValues ∈ Wd := mW 943 (by decide +kernel) rfl
theorem mk_X0_raiseValues : MokV yX0_raiseValues cX0_raiseValues 8 (some .boolean) 4 := ⟨⟨mW 10 (by decide +kernel) rfl, mW 946 (by decide +kernel) rfl, ⟨by decide, by decide, by decide +kernel⟩, by decide⟩, mW 945 (by decide +kernel) rfl, mS (q := (yX0_raiseValues, 7)) 30 (by decide +kernel)⟩
theorem ml_X0_70 : Cond.methodLink RX0 70 yX0_isBestSoFar ∈ Wd := mW 951 (by decide +kernel) rfl
theorem mk_X0_isBestSoFar : MokV yX0_isBestSoFar cX0_isBestSoFar 5 (some .boolean) 3 := ⟨⟨mW 10 (by decide +kernel) rfl, mW 954 (by decide +kernel) rfl, ⟨by decide, by decide, by decide +kernel⟩, by decide⟩, mW 953 (by decide +kernel) rfl, mS (q := (yX0_isBestSoFar, 7)) 31 (by decide +kernel)⟩
theorem ml_X0_77 : Cond.methodLink RX0 77 yX0_nextPlan ∈ Wd := mW 960 (by decide +kernel) rfl
theorem mk_X0_nextPlan : MokV yX0_nextPlan cX0_nextPlan 6 (some .boolean) 3 := ⟨⟨mW 10 (by decide +kernel) rfl, mW 963 (by decide +kernel) rfl, ⟨by decide, by decide, by decide +kernel⟩, by decide⟩, mW 962 (by decide +kernel) rfl, mS (q := (yX0_nextPlan, 7)) 33 (by decide +kernel)⟩
theorem ml_X0_74 : Cond.methodLink RX0 74 yX0_keepPlan ∈ Wd := mW 955 (by decide +kernel) rfl
theorem mk_X0_keepPlan : MokV yX0_keepPlan cX0_keepPlan 5 none 3 := ⟨⟨mW 10 (by decide +kernel) rfl, mW 958 (by decide +kernel) rfl, ⟨by decide, by decide, by decide +kernel⟩, by decide⟩, mW 957 (by decide +kernel) rfl, mS (q := (yX0_keepPlan, 7)) 32 (by decide +kernel)⟩
def Game_weighPlans_L25 (o4 : Nat) (x3 : Int32) (Q : Hp → Prop) : Nat → Int32 → Int32 → Int32 → Hp → Prop
  | 0, _, _, _, _ => False
  | n + 1, x5, x6, x7, h => (324 ≤ x7 → Q h) ∧ (¬ 324 ≤ x7 → (x5 = 0 → Q h) ∧ (¬ x5 = 0 → Survey_look  h (fun h3 => Game_raiseValues x3 o4 h3 (fun r4 h5 => Game_isBestSoFar x3 h5 (fun r6 h7 => ∀ J87 : Hp → Prop, J87 = (fun h8 => ∀ J107 : Int32 → Hp → Prop, J107 = (fun s9 h10 => Game_nextPlan x3 h10 (fun r11 h12 => ∀ v13 : Int32, v13 = (x7 + 1) → Game_weighPlans_L25 o4 x3 Q n r11 s9 v13 h12)) → ∀ J102 : Hp → Prop, J102 = (fun h14 => J107 1 h14) → (¬ r6 = 0 → J102 h8) ∧ (r6 = 0 → ∀ J106 : Hp → Prop, J106 = (fun h15 => J107 0 h15) → (x6 = 0 → J106 h8) ∧ (¬ x6 = 0 → (¬ r4 = 0 → J106 h8) ∧ (r4 = 0 → J102 h8)))) → (r6 = 0 → J87 h7) ∧ (¬ r6 = 0 → ∀ J77 : Hp → Prop, J77 = (fun h16 => Game_keepPlan x3 h16 (fun h17 => J87 h17)) → (¬ r4 = 0 → J77 h7) ∧ (r4 = 0 → (¬ x6 = 0 → J87 h7) ∧ (x6 = 0 → J77 h7))))))))
set_option maxHeartbeats 4000000 in
set_option maxRecDepth 20000 in
theorem gl_Game_weighPlans_L25 {G : Gx} {o4 : Nat} (ho4 : isA o4 0) {x3 : Int32} {Q : Hp → Prop} : ∀ (n : Nat) (x5 : Int32) (x6 : Int32) (x7 : Int32) (h : Hp), Game_weighPlans_L25 o4 x3 Q n x5 x6 x7 h → Go cX0_weighPlans 10 RX0 none 15 G (QV G Q) 25 [(0, .ref (gAd G 80)), (1, .ref (gAd G 14)), (2, .ref (gAd G 73)), (3, .int x3), (4, .ref (gAd G o4)), (5, .int x5), (6, .int x6), (7, .int x7)] [] h := by
  intro n
  induction n with
  | zero => intro _ _ _ h hw; exact False.elim hw
  | succ n ih =>
    intro x5 x6 x7 h hw
    refine g_iload dX0_weighPlans_25 rfl ?_
    refine g_sipush (v := 324) dX0_weighPlans_27 (by decide) ?_
    refine g_icmp_ge 127 dX0_weighPlans_30 rfl (fun hc => ?_) (fun hc => ?_)
    · have hw := hw.1 hc
      exact g_vret dX0_weighPlans_127 hw
    · have hw := hw.2 hc
      refine g_iload dX0_weighPlans_33 rfl ?_
      refine g_if_eq 127 dX0_weighPlans_35 rfl (fun hc => ?_) (fun hc => ?_)
      · have hw := hw.1 hc
        exact g_vret dX0_weighPlans_127 hw
      · have hw := hw.2 hc
        refine g_aload_n dX0_weighPlans_38 rfl rfl ?_
        refine g_callVV [] (ci := 8) dX0_weighPlans_39 ml_X0_63 mk_X8_look rfl rfl sh73 (Nat.le_of_ble_eq_true rfl) (Nat.le_of_ble_eq_true rfl) rfl (c_Survey_look hw) (fun h3 hw => ?_)
        refine g_aload_n dX0_weighPlans_42 rfl rfl ?_
        refine g_aload_n dX0_weighPlans_43 rfl rfl ?_
        refine g_aload_n dX0_weighPlans_44 rfl rfl ?_
        refine g_iload_n dX0_weighPlans_45 rfl rfl ?_
        refine g_aload dX0_weighPlans_46 rfl ?_
        refine g_callVI [.ref (gAd G 14), .ref (gAd G 73), .int x3, .ref (gAd G o4)] (ci := 0) dX0_weighPlans_48 ml_X0_66 mk_X0_raiseValues rfl rfl sh80 (Nat.le_of_ble_eq_true rfl) (Nat.le_of_ble_eq_true rfl) rfl (c_Game_raiseValues ho4 hw) (fun r4 h5 hw => ?_)
        refine g_istore dX0_weighPlans_51 (by decide) (lv1 := [(0, .ref (gAd G 80)), (1, .ref (gAd G 14)), (2, .ref (gAd G 73)), (3, .int x3), (4, .ref (gAd G o4)), (5, .int x5), (6, .int x6), (7, .int x7), (8, .int r4)]) rfl ?_
        refine g_aload_n dX0_weighPlans_53 rfl rfl ?_
        refine g_aload_n dX0_weighPlans_54 rfl rfl ?_
        refine g_aload_n dX0_weighPlans_55 rfl rfl ?_
        refine g_iload_n dX0_weighPlans_56 rfl rfl ?_
        refine g_callVI [.ref (gAd G 14), .ref (gAd G 73), .int x3] (ci := 0) dX0_weighPlans_57 ml_X0_70 mk_X0_isBestSoFar rfl rfl sh80 (Nat.le_of_ble_eq_true rfl) (Nat.le_of_ble_eq_true rfl) rfl (c_Game_isBestSoFar hw) (fun r6 h7 hw => ?_)
        refine g_istore dX0_weighPlans_60 (by decide) (lv1 := [(0, .ref (gAd G 80)), (1, .ref (gAd G 14)), (2, .ref (gAd G 73)), (3, .int x3), (4, .ref (gAd G o4)), (5, .int x5), (6, .int x6), (7, .int x7), (8, .int r4), (9, .int r6)]) rfl ?_
        refine g_iload dX0_weighPlans_62 rfl ?_
        refine jn_el hw (fun J87 eJ87 hw => ?_)
        have hJ87 : ∀ (h8 : Hp), J87 h8 → Go cX0_weighPlans 10 RX0 none 15 G (QV G Q) 87 [(0, .ref (gAd G 80)), (1, .ref (gAd G 14)), (2, .ref (gAd G 73)), (3, .int x3), (4, .ref (gAd G o4)), (6, .int x6), (7, .int x7), (8, .int r4), (9, .int r6)] [] h8 := by
          intro h8 hw
          subst eJ87
          refine g_iload dX0_weighPlans_87 rfl ?_
          refine jn_el hw (fun J107 eJ107 hw => ?_)
          have hJ107 : ∀ (s9 : Int32) (h10 : Hp), J107 s9 h10 → Go cX0_weighPlans 10 RX0 none 15 G (QV G Q) 107 [(0, .ref (gAd G 80)), (1, .ref (gAd G 14)), (2, .ref (gAd G 73)), (3, .int x3), (4, .ref (gAd G o4)), (7, .int x7)] [.int s9] h10 := by
            intro s9 h10 hw
            subst eJ107
            refine g_istore dX0_weighPlans_107 (by decide) (lv1 := [(0, .ref (gAd G 80)), (1, .ref (gAd G 14)), (2, .ref (gAd G 73)), (3, .int x3), (4, .ref (gAd G o4)), (6, .int s9), (7, .int x7)]) rfl ?_
            refine g_aload_n dX0_weighPlans_109 rfl rfl ?_
            refine g_aload_n dX0_weighPlans_110 rfl rfl ?_
            refine g_iload_n dX0_weighPlans_111 rfl rfl ?_
            refine g_aload_n dX0_weighPlans_112 rfl rfl ?_
            refine g_getA dX0_weighPlans_113 fl_X0_50 sh73 rfl ?_
            refine g_callVI [.ref (gAd G 14), .int x3, .ref (gAd G 74)] (ci := 0) dX0_weighPlans_116 ml_X0_77 mk_X0_nextPlan rfl rfl sh80 (Nat.le_of_ble_eq_true rfl) (Nat.le_of_ble_eq_true rfl) rfl (c_Game_nextPlan hw) (fun r11 h12 hw => ?_)
            refine g_istore dX0_weighPlans_119 (by decide) (lv1 := [(0, .ref (gAd G 80)), (1, .ref (gAd G 14)), (2, .ref (gAd G 73)), (3, .int x3), (4, .ref (gAd G o4)), (5, .int r11), (6, .int s9), (7, .int x7)]) rfl ?_
            obtain ⟨v13, ev13⟩ : ∃ y : Int32, y = (x7 + 1) := ⟨_, rfl⟩
            have hw := hw v13 ev13
            refine g_iinc dX0_weighPlans_121 rfl (by rw [ev13]; rfl) (by decide) (lv1 := [(0, .ref (gAd G 80)), (1, .ref (gAd G 14)), (2, .ref (gAd G 73)), (3, .int x3), (4, .ref (gAd G o4)), (5, .int r11), (6, .int s9), (7, .int v13)]) rfl ?_
            refine g_goto 25 dX0_weighPlans_124 rfl ?_
            exact ih _ _ _ _ hw
          refine jn_el hw (fun J102 eJ102 hw => ?_)
          have hJ102 : ∀ (h14 : Hp), J102 h14 → Go cX0_weighPlans 10 RX0 none 15 G (QV G Q) 102 [(0, .ref (gAd G 80)), (1, .ref (gAd G 14)), (2, .ref (gAd G 73)), (3, .int x3), (4, .ref (gAd G o4)), (7, .int x7)] [] h14 := by
            intro h14 hw
            subst eJ102
            refine g_iconst (v := 1) dX0_weighPlans_102 (by decide) ?_
            refine g_goto 107 dX0_weighPlans_103 rfl ?_
            exact hJ107 _ _ hw
          refine g_if_ne 102 dX0_weighPlans_89 rfl (fun hc => ?_) (fun hc => ?_)
          · have hw := hw.1 hc
            refine g_lv [0, 1, 2, 3, 4, 6] rfl ?_
            exact hJ102 _ hw
          · have hw := hw.2 hc
            refine g_iload dX0_weighPlans_92 rfl ?_
            refine jn_el hw (fun J106 eJ106 hw => ?_)
            have hJ106 : ∀ (h15 : Hp), J106 h15 → Go cX0_weighPlans 10 RX0 none 15 G (QV G Q) 106 [(0, .ref (gAd G 80)), (1, .ref (gAd G 14)), (2, .ref (gAd G 73)), (3, .int x3), (4, .ref (gAd G o4)), (7, .int x7)] [] h15 := by
              intro h15 hw
              subst eJ106
              refine g_iconst (v := 0) dX0_weighPlans_106 (by decide) ?_
              exact hJ107 _ _ hw
            refine g_if_eq 106 dX0_weighPlans_94 rfl (fun hc => ?_) (fun hc => ?_)
            · have hw := hw.1 hc
              refine g_lv [0, 1, 2, 3, 4, 6] rfl ?_
              exact hJ106 _ hw
            · have hw := hw.2 hc
              refine g_iload dX0_weighPlans_97 rfl ?_
              refine g_if_ne 106 dX0_weighPlans_99 rfl (fun hc => ?_) (fun hc => ?_)
              · have hw := hw.1 hc
                refine g_lv [0, 1, 2, 3, 4, 6] rfl ?_
                exact hJ106 _ hw
              · have hw := hw.2 hc
                refine g_lv [0, 1, 2, 3, 4, 6] rfl ?_
                exact hJ102 _ hw
        refine g_if_eq 87 dX0_weighPlans_64 rfl (fun hc => ?_) (fun hc => ?_)
        · have hw := hw.1 hc
          refine g_lv [0, 1, 2, 3, 4, 6, 7, 8, 9] rfl ?_
          exact hJ87 _ hw
        · have hw := hw.2 hc
          refine g_iload dX0_weighPlans_67 rfl ?_
          refine jn_el hw (fun J77 eJ77 hw => ?_)
          have hJ77 : ∀ (h16 : Hp), J77 h16 → Go cX0_weighPlans 10 RX0 none 15 G (QV G Q) 77 [(0, .ref (gAd G 80)), (1, .ref (gAd G 14)), (2, .ref (gAd G 73)), (3, .int x3), (4, .ref (gAd G o4)), (6, .int x6), (7, .int x7), (8, .int r4), (9, .int r6)] [] h16 := by
            intro h16 hw
            subst eJ77
            refine g_aload_n dX0_weighPlans_77 rfl rfl ?_
            refine g_aload_n dX0_weighPlans_78 rfl rfl ?_
            refine g_iload_n dX0_weighPlans_79 rfl rfl ?_
            refine g_aload_n dX0_weighPlans_80 rfl rfl ?_
            refine g_getA dX0_weighPlans_81 fl_X0_50 sh73 rfl ?_
            refine g_callVV [.ref (gAd G 14), .int x3, .ref (gAd G 74)] (ci := 0) dX0_weighPlans_84 ml_X0_74 mk_X0_keepPlan rfl rfl sh80 (Nat.le_of_ble_eq_true rfl) (Nat.le_of_ble_eq_true rfl) rfl (c_Game_keepPlan hw) (fun h17 hw => ?_)
            exact hJ87 _ hw
          refine g_if_ne 77 dX0_weighPlans_69 rfl (fun hc => ?_) (fun hc => ?_)
          · have hw := hw.1 hc
            refine g_lv [0, 1, 2, 3, 4, 6, 7, 8, 9] rfl ?_
            exact hJ77 _ hw
          · have hw := hw.2 hc
            refine g_iload dX0_weighPlans_72 rfl ?_
            refine g_if_ne 87 dX0_weighPlans_74 rfl (fun hc => ?_) (fun hc => ?_)
            · have hw := hw.1 hc
              refine g_lv [0, 1, 2, 3, 4, 6, 7, 8, 9] rfl ?_
              exact hJ87 _ hw
            · have hw := hw.2 hc
              refine g_lv [0, 1, 2, 3, 4, 6, 7, 8, 9] rfl ?_
              exact hJ77 _ hw
def Game_weighPlans (x3 : Int32) (o4 : Nat) (h : Hp) (Q : Hp → Prop) : Prop := Game_firstPlan x3 h (fun h1 => J7_fill_53178 o4 0 h1 (fun h2 => ∃ n18, Game_weighPlans_L25 o4 x3 Q n18 1 0 0 h2))
set_option maxHeartbeats 4000000 in
set_option maxRecDepth 20000 in
theorem c_Game_weighPlans {G : Gx} {o4 : Nat} (ho4 : isA o4 0) {x3 : Int32} {h : Hp} {Q : Hp → Prop} (hw : Game_weighPlans x3 o4 h Q) : Ct yX0_weighPlans cX0_weighPlans 10 none 15 G [.ref (gAd G 80), .ref (gAd G 14), .ref (gAd G 73), .int x3, .ref (gAd G o4)] h (QV G Q) := by
  refine ct_go [(0, .ref (gAd G 80)), (1, .ref (gAd G 14)), (2, .ref (gAd G 73)), (3, .int x3), (4, .ref (gAd G o4))] (plainFor_of_name (by decide)) rfl (Nat.le_of_ble_eq_true rfl) rfl ?_
  refine g_aload_n dX0_weighPlans_0 rfl rfl ?_
  refine g_aload_n dX0_weighPlans_1 rfl rfl ?_
  refine g_iload_n dX0_weighPlans_2 rfl rfl ?_
  refine g_aload_n dX0_weighPlans_3 rfl rfl ?_
  refine g_getA dX0_weighPlans_4 fl_X0_50 sh73 rfl ?_
  refine g_callVV [.ref (gAd G 14), .int x3, .ref (gAd G 74)] (ci := 0) dX0_weighPlans_7 ml_X0_53 mk_X0_firstPlan rfl rfl sh80 (Nat.le_of_ble_eq_true rfl) (Nat.le_of_ble_eq_true rfl) rfl (c_Game_firstPlan hw) (fun h1 hw => ?_)
  refine g_aload dX0_weighPlans_10 rfl ?_
  refine g_iconst (v := 0) dX0_weighPlans_12 (by decide) ?_
  refine g_callSV [.ref (gAd G o4), .int 0] dX0_weighPlans_13 ml_X0_57 mk_J7_fill_53178 rfl (Nat.le_of_ble_eq_true rfl) (Nat.le_of_ble_eq_true rfl) rfl (c_J7_fill_53178 ho4 hw) (fun h2 hw => ?_)
  refine g_iconst (v := 1) dX0_weighPlans_16 (by decide) ?_
  refine g_istore dX0_weighPlans_17 (by decide) (lv1 := [(0, .ref (gAd G 80)), (1, .ref (gAd G 14)), (2, .ref (gAd G 73)), (3, .int x3), (4, .ref (gAd G o4)), (5, .int 1)]) rfl ?_
  refine g_iconst (v := 0) dX0_weighPlans_19 (by decide) ?_
  refine g_istore dX0_weighPlans_20 (by decide) (lv1 := [(0, .ref (gAd G 80)), (1, .ref (gAd G 14)), (2, .ref (gAd G 73)), (3, .int x3), (4, .ref (gAd G o4)), (5, .int 1), (6, .int 0)]) rfl ?_
  refine g_iconst (v := 0) dX0_weighPlans_22 (by decide) ?_
  refine g_istore dX0_weighPlans_23 (by decide) (lv1 := [(0, .ref (gAd G 80)), (1, .ref (gAd G 14)), (2, .ref (gAd G 73)), (3, .int x3), (4, .ref (gAd G o4)), (5, .int 1), (6, .int 0), (7, .int 0)]) rfl ?_
  obtain ⟨n18, hw⟩ := hw
  refine gl_Game_weighPlans_L25 ho4  _ _ _ _ _ hw
theorem dX0_solve_0 : decode cX0_solve 0 = .ok (.aload_n 0, 1) := by decide +kernel
theorem dX0_solve_1 : decode cX0_solve 1 = .ok (.getfield 9, 3) := by decide +kernel
theorem dX0_solve_4 : decode cX0_solve 4 = .ok (.iload_n 2, 1) := by decide +kernel
theorem dX0_solve_5 : decode cX0_solve 5 = .ok (.if_icmp .ne 4, 3) := by decide +kernel
theorem dX0_solve_8 : decode cX0_solve 8 = .ok (.return_, 1) := by decide +kernel
theorem dX0_solve_9 : decode cX0_solve 9 = .ok (.iconst 0, 1) := by decide +kernel
theorem dX0_solve_10 : decode cX0_solve 10 = .ok (.istore 4, 2) := by decide +kernel
theorem dX0_solve_12 : decode cX0_solve 12 = .ok (.iload 4, 2) := by decide +kernel
theorem dX0_solve_14 : decode cX0_solve 14 = .ok (.aload_n 0, 1) := by decide +kernel
theorem dX0_solve_15 : decode cX0_solve 15 = .ok (.getfield 15, 3) := by decide +kernel
theorem dX0_solve_18 : decode cX0_solve 18 = .ok (.arraylength, 1) := by decide +kernel
theorem dX0_solve_19 : decode cX0_solve 19 = .ok (.if_icmp .ge 23, 3) := by decide +kernel
theorem dX0_solve_22 : decode cX0_solve 22 = .ok (.aload_n 0, 1) := by decide +kernel
theorem dX0_solve_23 : decode cX0_solve 23 = .ok (.getfield 15, 3) := by decide +kernel
theorem dX0_solve_26 : decode cX0_solve 26 = .ok (.iload 4, 2) := by decide +kernel
theorem dX0_solve_28 : decode cX0_solve 28 = .ok (.aload_n 1, 1) := by decide +kernel
theorem dX0_solve_29 : decode cX0_solve 29 = .ok (.iload_n 2, 1) := by decide +kernel
theorem dX0_solve_30 : decode cX0_solve 30 = .ok (.iload 4, 2) := by decide +kernel
theorem dX0_solve_32 : decode cX0_solve 32 = .ok (.invokevirtual 34, 3) := by decide +kernel
theorem dX0_solve_35 : decode cX0_solve 35 = .ok (.iastore, 1) := by decide +kernel
theorem dX0_solve_36 : decode cX0_solve 36 = .ok (.iinc 4 1, 3) := by decide +kernel
theorem dX0_solve_39 : decode cX0_solve 39 = .ok (.goto (-27), 3) := by decide +kernel
theorem dX0_solve_42 : decode cX0_solve 42 = .ok (.aload_n 3, 1) := by decide +kernel
theorem dX0_solve_43 : decode cX0_solve 43 = .ok (.aload_n 1, 1) := by decide +kernel
theorem dX0_solve_44 : decode cX0_solve 44 = .ok (.iload_n 2, 1) := by decide +kernel
theorem dX0_solve_45 : decode cX0_solve 45 = .ok (.invokevirtual 40, 3) := by decide +kernel
theorem dX0_solve_48 : decode cX0_solve 48 = .ok (.aload_n 0, 1) := by decide +kernel
theorem dX0_solve_49 : decode cX0_solve 49 = .ok (.aload_n 1, 1) := by decide +kernel
theorem dX0_solve_50 : decode cX0_solve 50 = .ok (.aload_n 3, 1) := by decide +kernel
theorem dX0_solve_51 : decode cX0_solve 51 = .ok (.iconst 0, 1) := by decide +kernel
theorem dX0_solve_52 : decode cX0_solve 52 = .ok (.aload_n 0, 1) := by decide +kernel
theorem dX0_solve_53 : decode cX0_solve 53 = .ok (.getfield 28, 3) := by decide +kernel
theorem dX0_solve_56 : decode cX0_solve 56 = .ok (.invokevirtual 46, 3) := by decide +kernel
theorem dX0_solve_59 : decode cX0_solve 59 = .ok (.aload_n 3, 1) := by decide +kernel
theorem dX0_solve_60 : decode cX0_solve 60 = .ok (.aload_n 1, 1) := by decide +kernel
theorem dX0_solve_61 : decode cX0_solve 61 = .ok (.iload_n 2, 1) := by decide +kernel
theorem dX0_solve_62 : decode cX0_solve 62 = .ok (.invokevirtual 40, 3) := by decide +kernel
theorem dX0_solve_65 : decode cX0_solve 65 = .ok (.aload_n 0, 1) := by decide +kernel
theorem dX0_solve_66 : decode cX0_solve 66 = .ok (.aload_n 1, 1) := by decide +kernel
theorem dX0_solve_67 : decode cX0_solve 67 = .ok (.aload_n 3, 1) := by decide +kernel
theorem dX0_solve_68 : decode cX0_solve 68 = .ok (.iconst 1, 1) := by decide +kernel
theorem dX0_solve_69 : decode cX0_solve 69 = .ok (.aload_n 0, 1) := by decide +kernel
theorem dX0_solve_70 : decode cX0_solve 70 = .ok (.getfield 25, 3) := by decide +kernel
theorem dX0_solve_73 : decode cX0_solve 73 = .ok (.invokevirtual 46, 3) := by decide +kernel
theorem dX0_solve_76 : decode cX0_solve 76 = .ok (.aload_n 0, 1) := by decide +kernel
theorem dX0_solve_77 : decode cX0_solve 77 = .ok (.iload_n 2, 1) := by decide +kernel
theorem dX0_solve_78 : decode cX0_solve 78 = .ok (.putfield 9, 3) := by decide +kernel
theorem dX0_solve_81 : decode cX0_solve 81 = .ok (.return_, 1) := by decide +kernel
theorem ml_X0_34 : Cond.methodLink RX0 34 yX2_waysFrom ∈ Wd := mW 893 (by decide +kernel) rfl
theorem ml_X0_40 : Cond.methodLink RX0 40 yX8_allWays ∈ Wd := mW 894 (by decide +kernel) rfl
theorem mk_X8_allWays : MokV yX8_allWays cX8_allWays 4 none 2 := ⟨⟨mW 9 (by decide +kernel) rfl, mW 897 (by decide +kernel) rfl, ⟨by decide, by decide, by decide +kernel⟩, by decide⟩, mW 895 (by decide +kernel) rfl, mW 896 (by decide +kernel) rfl⟩
theorem fl_X0_28 : FLk RX0 28 0 5 := ⟨_, rfl, by decide, mW 295 (by decide +kernel) rfl⟩
theorem ml_X0_46 : Cond.methodLink RX0 46 yX0_weighPlans ∈ Wd := mW 899 (by decide +kernel) rfl
theorem mk_X0_weighPlans : MokV yX0_weighPlans cX0_weighPlans 10 none 4 := ⟨⟨mW 10 (by decide +kernel) rfl, mW 902 (by decide +kernel) rfl, ⟨by decide, by decide, by decide +kernel⟩, by decide⟩, mW 901 (by decide +kernel) rfl, mS (q := (yX0_weighPlans, 7)) 23 (by decide +kernel)⟩
theorem fl_X0_25 : FLk RX0 25 0 4 := ⟨_, rfl, by decide, mW 294 (by decide +kernel) rfl⟩
def Game_solve_L12 (x2 : Int32) (K42 : Hp → Prop) : Nat → Int32 → Hp → Prop
  | 0, _, _ => False
  | n + 1, x4, h => (8 ≤ x4 → K42 h) ∧ (¬ 8 ≤ x4 → Land_waysFrom x2 x4 h (fun r1 h2 => vp_in x4 8 ∧ ∀ h3 : Hp, h3 = sI h2 81 (x4).toNatClampNeg r1 → ∀ v4 : Int32, v4 = (x4 + 1) → Game_solve_L12 x2 K42 n v4 h3))
set_option maxHeartbeats 4000000 in
set_option maxRecDepth 20000 in
theorem gl_Game_solve_L12 {G : Gx}  {x2 : Int32} {Q : Hp → Prop} {K42 : Hp → Prop} (hK42 : ∀  (h1 : Hp), K42  h1 → Go cX0_solve 5 RX0 none 16 G (QV G Q) 42 [(0, .ref (gAd G 80)), (1, .ref (gAd G 14)), (2, .int x2), (3, .ref (gAd G 73))] [] h1) : ∀ (n : Nat) (x4 : Int32) (h : Hp), Game_solve_L12 x2 K42 n x4 h → Go cX0_solve 5 RX0 none 16 G (QV G Q) 12 [(0, .ref (gAd G 80)), (1, .ref (gAd G 14)), (2, .int x2), (3, .ref (gAd G 73)), (4, .int x4)] [] h := by
  intro n
  induction n with
  | zero => intro _ h hw; exact False.elim hw
  | succ n ih =>
    intro x4 h hw
    refine g_iload dX0_solve_12 rfl ?_
    refine g_aload_n dX0_solve_14 rfl rfl ?_
    refine g_getA dX0_solve_15 fl_X0_15 sh80 rfl ?_
    refine g_alen dX0_solve_18 ia81 (by decide) al81 (v := 8) (by decide) ?_
    refine g_icmp_ge 42 dX0_solve_19 rfl (fun hc => ?_) (fun hc => ?_)
    · have hw := hw.1 hc
      refine g_lv [0, 1, 2, 3] rfl ?_
      exact hK42 _ hw
    · have hw := hw.2 hc
      refine g_aload_n dX0_solve_22 rfl rfl ?_
      refine g_getA dX0_solve_23 fl_X0_15 sh80 rfl ?_
      refine g_iload dX0_solve_26 rfl ?_
      refine g_aload_n dX0_solve_28 rfl rfl ?_
      refine g_iload_n dX0_solve_29 rfl rfl ?_
      refine g_iload dX0_solve_30 rfl ?_
      refine g_callVI [.int x2, .int x4] (ci := 2) dX0_solve_32 ml_X0_34 mk_X2_waysFrom rfl rfl sh14 (Nat.le_of_ble_eq_true rfl) (Nat.le_of_ble_eq_true rfl) rfl (c_Land_waysFrom hw) (fun r1 h2 hw => ?_)
      refine g_iast dX0_solve_35 ia81 al81 hw.1 ?_
      have hw := hw.2
      refine g_heap (fun h3 eh3 => ?_)
      have hw := hw h3 eh3
      obtain ⟨v4, ev4⟩ : ∃ y : Int32, y = (x4 + 1) := ⟨_, rfl⟩
      have hw := hw v4 ev4
      refine g_iinc dX0_solve_36 rfl (by rw [ev4]; rfl) (by decide) (lv1 := [(0, .ref (gAd G 80)), (1, .ref (gAd G 14)), (2, .int x2), (3, .ref (gAd G 73)), (4, .int v4)]) rfl ?_
      refine g_goto 12 dX0_solve_39 rfl ?_
      exact ih _ _ hw
def Game_solve (x2 : Int32) (h : Hp) (Q : Hp → Prop) : Prop := (¬ (gI h 80 0) = x2 → ∃ n5, Game_solve_L12 x2 (fun h6 => Survey_allWays x2 h6 (fun h7 => Game_weighPlans 0 85 h7 (fun h8 => Survey_allWays x2 h8 (fun h9 => Game_weighPlans 1 84 h9 (fun h10 => ∀ h11 : Hp, h11 = sI h10 80 0 x2 → Q h11))))) n5 0 h) ∧ ((gI h 80 0) = x2 → Q h)
set_option maxHeartbeats 4000000 in
set_option maxRecDepth 20000 in
theorem c_Game_solve {G : Gx}  {x2 : Int32} {h : Hp} {Q : Hp → Prop} (hw : Game_solve x2 h Q) : Ct yX0_solve cX0_solve 5 none 16 G [.ref (gAd G 80), .ref (gAd G 14), .int x2, .ref (gAd G 73)] h (QV G Q) := by
  refine ct_go [(0, .ref (gAd G 80)), (1, .ref (gAd G 14)), (2, .int x2), (3, .ref (gAd G 73))] (plainFor_of_name (by decide)) rfl (Nat.le_of_ble_eq_true rfl) rfl ?_
  refine g_aload_n dX0_solve_0 rfl rfl ?_
  refine g_getI dX0_solve_1 fl_X0_9 sh80 rfl ?_
  refine g_iload_n dX0_solve_4 rfl rfl ?_
  refine g_icmp_ne 9 dX0_solve_5 rfl (fun hc => ?_) (fun hc => ?_)
  · have hw := hw.1 hc
    refine g_iconst (v := 0) dX0_solve_9 (by decide) ?_
    refine g_istore dX0_solve_10 (by decide) (lv1 := [(0, .ref (gAd G 80)), (1, .ref (gAd G 14)), (2, .int x2), (3, .ref (gAd G 73)), (4, .int 0)]) rfl ?_
    obtain ⟨n5, hw⟩ := hw
    refine gl_Game_solve_L12  ?_ _ _ _ hw
    · intro h6 hw
      refine g_aload_n dX0_solve_42 rfl rfl ?_
      refine g_aload_n dX0_solve_43 rfl rfl ?_
      refine g_iload_n dX0_solve_44 rfl rfl ?_
      refine g_callVV [.ref (gAd G 14), .int x2] (ci := 8) dX0_solve_45 ml_X0_40 mk_X8_allWays rfl rfl sh73 (Nat.le_of_ble_eq_true rfl) (Nat.le_of_ble_eq_true rfl) rfl (c_Survey_allWays hw) (fun h7 hw => ?_)
      refine g_aload_n dX0_solve_48 rfl rfl ?_
      refine g_aload_n dX0_solve_49 rfl rfl ?_
      refine g_aload_n dX0_solve_50 rfl rfl ?_
      refine g_iconst (v := 0) dX0_solve_51 (by decide) ?_
      refine g_aload_n dX0_solve_52 rfl rfl ?_
      refine g_getA dX0_solve_53 fl_X0_28 sh80 rfl ?_
      refine g_callVV [.ref (gAd G 14), .ref (gAd G 73), .int 0, .ref (gAd G 85)] (ci := 0) dX0_solve_56 ml_X0_46 mk_X0_weighPlans rfl rfl sh80 (Nat.le_of_ble_eq_true rfl) (Nat.le_of_ble_eq_true rfl) rfl (c_Game_weighPlans ia85 hw) (fun h8 hw => ?_)
      refine g_aload_n dX0_solve_59 rfl rfl ?_
      refine g_aload_n dX0_solve_60 rfl rfl ?_
      refine g_iload_n dX0_solve_61 rfl rfl ?_
      refine g_callVV [.ref (gAd G 14), .int x2] (ci := 8) dX0_solve_62 ml_X0_40 mk_X8_allWays rfl rfl sh73 (Nat.le_of_ble_eq_true rfl) (Nat.le_of_ble_eq_true rfl) rfl (c_Survey_allWays hw) (fun h9 hw => ?_)
      refine g_aload_n dX0_solve_65 rfl rfl ?_
      refine g_aload_n dX0_solve_66 rfl rfl ?_
      refine g_aload_n dX0_solve_67 rfl rfl ?_
      refine g_iconst (v := 1) dX0_solve_68 (by decide) ?_
      refine g_aload_n dX0_solve_69 rfl rfl ?_
      refine g_getA dX0_solve_70 fl_X0_25 sh80 rfl ?_
      refine g_callVV [.ref (gAd G 14), .ref (gAd G 73), .int 1, .ref (gAd G 84)] (ci := 0) dX0_solve_73 ml_X0_46 mk_X0_weighPlans rfl rfl sh80 (Nat.le_of_ble_eq_true rfl) (Nat.le_of_ble_eq_true rfl) rfl (c_Game_weighPlans ia84 hw) (fun h10 hw => ?_)
      refine g_aload_n dX0_solve_76 rfl rfl ?_
      refine g_iload_n dX0_solve_77 rfl rfl ?_
      refine g_putI dX0_solve_78 fl_X0_9 sh80 rfl rfl pf_0_0 ?_
      refine g_heap (fun h11 eh11 => ?_)
      have hw := hw h11 eh11
      exact g_vret dX0_solve_81 hw
  · have hw := hw.2 hc
    exact g_vret dX0_solve_8 hw
theorem dX0_bestWay_0 : decode cX0_bestWay 0 = .ok (.iload_n 1, 1) := by decide +kernel
theorem dX0_bestWay_1 : decode cX0_bestWay 1 = .ok (.ifCond .lt 21, 3) := by decide +kernel
theorem dX0_bestWay_4 : decode cX0_bestWay 4 = .ok (.iload_n 1, 1) := by decide +kernel
theorem dX0_bestWay_5 : decode cX0_bestWay 5 = .ok (.aload_n 0, 1) := by decide +kernel
theorem dX0_bestWay_6 : decode cX0_bestWay 6 = .ok (.getfield 22, 3) := by decide +kernel
theorem dX0_bestWay_9 : decode cX0_bestWay 9 = .ok (.arraylength, 1) := by decide +kernel
theorem dX0_bestWay_10 : decode cX0_bestWay 10 = .ok (.if_icmp .ge 12, 3) := by decide +kernel
theorem dX0_bestWay_13 : decode cX0_bestWay 13 = .ok (.aload_n 0, 1) := by decide +kernel
theorem dX0_bestWay_14 : decode cX0_bestWay 14 = .ok (.getfield 22, 3) := by decide +kernel
theorem dX0_bestWay_17 : decode cX0_bestWay 17 = .ok (.iload_n 1, 1) := by decide +kernel
theorem dX0_bestWay_18 : decode cX0_bestWay 18 = .ok (.iaload, 1) := by decide +kernel
theorem dX0_bestWay_19 : decode cX0_bestWay 19 = .ok (.goto 5, 3) := by decide +kernel
theorem dX0_bestWay_22 : decode cX0_bestWay 22 = .ok (.bipush 16, 2) := by decide +kernel
theorem dX0_bestWay_24 : decode cX0_bestWay 24 = .ok (.ireturn, 1) := by decide +kernel
def Game_bestWay (x1 : Int32) (h : Hp) (Q : Int32 → Hp → Prop) : Prop := (x1 < 0 → Q 16 h) ∧ (¬ x1 < 0 → (8 ≤ x1 → Q 16 h) ∧ (¬ 8 ≤ x1 → vp_in x1 8 ∧ Q (gI h 83 (x1).toNatClampNeg) h))
set_option maxHeartbeats 4000000 in
set_option maxRecDepth 20000 in
theorem c_Game_bestWay {G : Gx}  {x1 : Int32} {h : Hp} {Q : Int32 → Hp → Prop} (hw : Game_bestWay x1 h Q) : Ct yX0_bestWay cX0_bestWay 2 (some .int) 1 G [.ref (gAd G 80), .int x1] h (QI G Q) := by
  refine ct_go [(0, .ref (gAd G 80)), (1, .int x1)] (plainFor_of_name (by decide)) rfl (Nat.le_of_ble_eq_true rfl) rfl ?_
  refine g_iload_n dX0_bestWay_0 rfl rfl ?_
  refine g_if_lt 22 dX0_bestWay_1 rfl (fun hc => ?_) (fun hc => ?_)
  · have hw := hw.1 hc
    refine g_bipush (v := 16) dX0_bestWay_22 (by decide) ?_
    exact g_iret dX0_bestWay_24 hw
  · have hw := hw.2 hc
    refine g_iload_n dX0_bestWay_4 rfl rfl ?_
    refine g_aload_n dX0_bestWay_5 rfl rfl ?_
    refine g_getA dX0_bestWay_6 fl_X0_22 sh80 rfl ?_
    refine g_alen dX0_bestWay_9 ia83 (by decide) al83 (v := 8) (by decide) ?_
    refine g_icmp_ge 22 dX0_bestWay_10 rfl (fun hc => ?_) (fun hc => ?_)
    · have hw := hw.1 hc
      refine g_bipush (v := 16) dX0_bestWay_22 (by decide) ?_
      exact g_iret dX0_bestWay_24 hw
    · have hw := hw.2 hc
      refine g_aload_n dX0_bestWay_13 rfl rfl ?_
      refine g_getA dX0_bestWay_14 fl_X0_22 sh80 rfl ?_
      refine g_iload_n dX0_bestWay_17 rfl rfl ?_
      refine g_iald dX0_bestWay_18 ia83 al83 hw.1 ?_
      have hw := hw.2
      refine g_goto 24 dX0_bestWay_19 rfl ?_
      exact g_iret dX0_bestWay_24 hw
theorem dX11_plays_0 : decode cX11_plays 0 = .ok (.iload_n 1, 1) := by decide +kernel
theorem dX11_plays_1 : decode cX11_plays 1 = .ok (.invokestatic 202, 3) := by decide +kernel
theorem dX11_plays_4 : decode cX11_plays 4 = .ok (.ifCond .ne 6, 3) := by decide +kernel
theorem dX11_plays_7 : decode cX11_plays 7 = .ok (.bipush (-2), 2) := by decide +kernel
theorem dX11_plays_9 : decode cX11_plays 9 = .ok (.ireturn, 1) := by decide +kernel
theorem dX11_plays_10 : decode cX11_plays 10 = .ok (.aload_n 0, 1) := by decide +kernel
theorem dX11_plays_11 : decode cX11_plays 11 = .ok (.getfield 72, 3) := by decide +kernel
theorem dX11_plays_14 : decode cX11_plays 14 = .ok (.aload_n 0, 1) := by decide +kernel
theorem dX11_plays_15 : decode cX11_plays 15 = .ok (.getfield 27, 3) := by decide +kernel
theorem dX11_plays_18 : decode cX11_plays 18 = .ok (.aload_n 0, 1) := by decide +kernel
theorem dX11_plays_19 : decode cX11_plays 19 = .ok (.getfield 34, 3) := by decide +kernel
theorem dX11_plays_22 : decode cX11_plays 22 = .ok (.getfield 140, 3) := by decide +kernel
theorem dX11_plays_25 : decode cX11_plays 25 = .ok (.aload_n 0, 1) := by decide +kernel
theorem dX11_plays_26 : decode cX11_plays 26 = .ok (.getfield 65, 3) := by decide +kernel
theorem dX11_plays_29 : decode cX11_plays 29 = .ok (.invokevirtual 205, 3) := by decide +kernel
theorem dX11_plays_32 : decode cX11_plays 32 = .ok (.aload_n 0, 1) := by decide +kernel
theorem dX11_plays_33 : decode cX11_plays 33 = .ok (.getfield 44, 3) := by decide +kernel
theorem dX11_plays_36 : decode cX11_plays 36 = .ok (.aload_n 0, 1) := by decide +kernel
theorem dX11_plays_37 : decode cX11_plays 37 = .ok (.getfield 34, 3) := by decide +kernel
theorem dX11_plays_40 : decode cX11_plays 40 = .ok (.invokevirtual 177, 3) := by decide +kernel
theorem dX11_plays_43 : decode cX11_plays 43 = .ok (.iconst 0, 1) := by decide +kernel
theorem dX11_plays_44 : decode cX11_plays 44 = .ok (.istore_n 2, 1) := by decide +kernel
theorem dX11_plays_45 : decode cX11_plays 45 = .ok (.iconst 0, 1) := by decide +kernel
theorem dX11_plays_46 : decode cX11_plays 46 = .ok (.istore_n 3, 1) := by decide +kernel
theorem dX11_plays_47 : decode cX11_plays 47 = .ok (.iload_n 3, 1) := by decide +kernel
theorem dX11_plays_48 : decode cX11_plays 48 = .ok (.aload_n 0, 1) := by decide +kernel
theorem dX11_plays_49 : decode cX11_plays 49 = .ok (.getfield 27, 3) := by decide +kernel
theorem dX11_plays_52 : decode cX11_plays 52 = .ok (.getfield 209, 3) := by decide +kernel
theorem dX11_plays_55 : decode cX11_plays 55 = .ok (.if_icmp .ge 72, 3) := by decide +kernel
theorem dX11_plays_58 : decode cX11_plays 58 = .ok (.aload_n 0, 1) := by decide +kernel
theorem dX11_plays_59 : decode cX11_plays 59 = .ok (.getfield 72, 3) := by decide +kernel
theorem dX11_plays_62 : decode cX11_plays 62 = .ok (.iload_n 3, 1) := by decide +kernel
theorem dX11_plays_63 : decode cX11_plays 63 = .ok (.invokevirtual 212, 3) := by decide +kernel
theorem dX11_plays_66 : decode cX11_plays 66 = .ok (.istore 4, 2) := by decide +kernel
theorem dX11_plays_68 : decode cX11_plays 68 = .ok (.iload 4, 2) := by decide +kernel
theorem dX11_plays_70 : decode cX11_plays 70 = .ok (.bipush 16, 2) := by decide +kernel
theorem dX11_plays_72 : decode cX11_plays 72 = .ok (.if_icmp .ne 7, 3) := by decide +kernel
theorem dX11_plays_75 : decode cX11_plays 75 = .ok (.iconst (-1), 1) := by decide +kernel
theorem dX11_plays_76 : decode cX11_plays 76 = .ok (.goto 5, 3) := by decide +kernel
theorem dX11_plays_79 : decode cX11_plays 79 = .ok (.iload 4, 2) := by decide +kernel
theorem dX11_plays_81 : decode cX11_plays 81 = .ok (.istore 5, 2) := by decide +kernel
theorem dX11_plays_83 : decode cX11_plays 83 = .ok (.aload_n 0, 1) := by decide +kernel
theorem dX11_plays_84 : decode cX11_plays 84 = .ok (.getfield 27, 3) := by decide +kernel
theorem dX11_plays_87 : decode cX11_plays 87 = .ok (.iload_n 3, 1) := by decide +kernel
theorem dX11_plays_88 : decode cX11_plays 88 = .ok (.invokevirtual 133, 3) := by decide +kernel
theorem dX11_plays_91 : decode cX11_plays 91 = .ok (.iload_n 1, 1) := by decide +kernel
theorem dX11_plays_92 : decode cX11_plays 92 = .ok (.if_icmp .ne 29, 3) := by decide +kernel
theorem dX11_plays_95 : decode cX11_plays 95 = .ok (.aload_n 0, 1) := by decide +kernel
theorem dX11_plays_96 : decode cX11_plays 96 = .ok (.getfield 34, 3) := by decide +kernel
theorem dX11_plays_99 : decode cX11_plays 99 = .ok (.iload_n 3, 1) := by decide +kernel
theorem dX11_plays_100 : decode cX11_plays 100 = .ok (.invokevirtual 137, 3) := by decide +kernel
theorem dX11_plays_103 : decode cX11_plays 103 = .ok (.iload 5, 2) := by decide +kernel
theorem dX11_plays_105 : decode cX11_plays 105 = .ok (.if_icmp .eq 16, 3) := by decide +kernel
theorem dX11_plays_108 : decode cX11_plays 108 = .ok (.aload_n 0, 1) := by decide +kernel
theorem dX11_plays_109 : decode cX11_plays 109 = .ok (.getfield 34, 3) := by decide +kernel
theorem dX11_plays_112 : decode cX11_plays 112 = .ok (.iload_n 3, 1) := by decide +kernel
theorem dX11_plays_113 : decode cX11_plays 113 = .ok (.iload 5, 2) := by decide +kernel
theorem dX11_plays_115 : decode cX11_plays 115 = .ok (.invokevirtual 198, 3) := by decide +kernel
theorem dX11_plays_118 : decode cX11_plays 118 = .ok (.iinc 2 1, 3) := by decide +kernel
theorem dX11_plays_121 : decode cX11_plays 121 = .ok (.iinc 3 1, 3) := by decide +kernel
theorem dX11_plays_124 : decode cX11_plays 124 = .ok (.goto (-77), 3) := by decide +kernel
theorem dX11_plays_127 : decode cX11_plays 127 = .ok (.iload_n 2, 1) := by decide +kernel
theorem dX11_plays_128 : decode cX11_plays 128 = .ok (.ireturn, 1) := by decide +kernel
theorem ml_X11_202 : Cond.methodLink RX11 202 yX11_isPlayer ∈ Wd := mW 883 (by decide +kernel) rfl
theorem mk_X11_isPlayer : MokS yX11_isPlayer cX11_isPlayer 1 (some .boolean) 1 := ⟨⟨mW 1 (by decide +kernel) rfl, mW 885 (by decide +kernel) rfl, ⟨by decide, by decide, by decide +kernel⟩, by decide⟩, mW 884 (by decide +kernel) rfl⟩
theorem fl_X11_65 : FLk RX11 65 11 10 := ⟨_, rfl, by decide, mW 389 (by decide +kernel) rfl⟩
theorem ml_X11_205 : Cond.methodLink RX11 205 yX0_solve ∈ Wd := mW 889 (by decide +kernel) rfl
theorem mk_X0_solve : MokV yX0_solve cX0_solve 5 none 3 := ⟨⟨mW 10 (by decide +kernel) rfl, mW 892 (by decide +kernel) rfl, ⟨by decide, by decide, by decide +kernel⟩, by decide⟩, mW 890 (by decide +kernel) rfl, mW 891 (by decide +kernel) rfl⟩
theorem fl_X11_209 : FLk RX11 209 2 0 := ⟨_, rfl, by decide, mW 144 (by decide +kernel) rfl⟩
theorem ml_X11_212 : Cond.methodLink RX11 212 yX0_bestWay ∈ Wd := mW 965 (by decide +kernel) rfl
theorem mk_X0_bestWay : MokV yX0_bestWay cX0_bestWay 2 (some .int) 1 := ⟨⟨mW 10 (by decide +kernel) rfl, mW 968 (by decide +kernel) rfl, ⟨by decide, by decide, by decide +kernel⟩, by decide⟩, mW 966 (by decide +kernel) rfl, mW 967 (by decide +kernel) rfl⟩
def C_plays_L47 (x1 : Int32) (Q : Int32 → Hp → Prop) : Nat → Int32 → Int32 → Hp → Prop
  | 0, _, _, _ => False
  | n + 1, x2, x3, h => ((gI h 14 0) ≤ x3 → Q x2 h) ∧ (¬ (gI h 14 0) ≤ x3 → Game_bestWay x3 h (fun r5 h6 => ∀ J81 : Int32 → Hp → Prop, J81 = (fun s7 h8 => Land_owner x3 h8 (fun r9 h10 => ∀ J121 : Int32 → Hp → Prop, J121 = (fun x2_11 h12 => ∀ v13 : Int32, v13 = (x3 + 1) → C_plays_L47 x1 Q n x2_11 v13 h12) → (¬ r9 = x1 → J121 x2 h10) ∧ (r9 = x1 → Stand_planOf 20 x3 h10 (fun r14 h15 => (r14 = s7 → J121 x2 h15) ∧ (¬ r14 = s7 → Stand_setPlan 20 x3 s7 h15 (fun h16 => ∀ v17 : Int32, v17 = (x2 + 1) → J121 v17 h16)))))) → (¬ r5 = 16 → J81 r5 h6) ∧ (r5 = 16 → J81 (-1) h6)))
set_option maxHeartbeats 4000000 in
set_option maxRecDepth 20000 in
theorem gl_C_plays_L47 {G : Gx}  {x1 : Int32} {Q : Int32 → Hp → Prop} : ∀ (n : Nat) (x2 : Int32) (x3 : Int32) (h : Hp), C_plays_L47 x1 Q n x2 x3 h → Go cX11_plays 6 RX11 (some .int) 17 G (QI G Q) 47 [(0, .ref (gAd G 0)), (1, .int x1), (2, .int x2), (3, .int x3)] [] h := by
  intro n
  induction n with
  | zero => intro _ _ h hw; exact False.elim hw
  | succ n ih =>
    intro x2 x3 h hw
    refine g_iload_n dX11_plays_47 rfl rfl ?_
    refine g_aload_n dX11_plays_48 rfl rfl ?_
    refine g_getO dX11_plays_49 fl_X11_27 sh0 rfl ?_
    refine g_getI dX11_plays_52 fl_X11_209 sh14 rfl ?_
    refine g_icmp_ge 127 dX11_plays_55 rfl (fun hc => ?_) (fun hc => ?_)
    · have hw := hw.1 hc
      refine g_iload_n dX11_plays_127 rfl rfl ?_
      exact g_iret dX11_plays_128 hw
    · have hw := hw.2 hc
      refine g_aload_n dX11_plays_58 rfl rfl ?_
      refine g_getO dX11_plays_59 fl_X11_72 sh0 rfl ?_
      refine g_iload_n dX11_plays_62 rfl rfl ?_
      refine g_callVI [.int x3] (ci := 0) dX11_plays_63 ml_X11_212 mk_X0_bestWay rfl rfl sh80 (Nat.le_of_ble_eq_true rfl) (Nat.le_of_ble_eq_true rfl) rfl (c_Game_bestWay hw) (fun r5 h6 hw => ?_)
      refine g_istore dX11_plays_66 (by decide) (lv1 := [(0, .ref (gAd G 0)), (1, .int x1), (2, .int x2), (3, .int x3), (4, .int r5)]) rfl ?_
      refine g_iload dX11_plays_68 rfl ?_
      refine g_bipush (v := 16) dX11_plays_70 (by decide) ?_
      refine jn_el hw (fun J81 eJ81 hw => ?_)
      have hJ81 : ∀ (s7 : Int32) (h8 : Hp), J81 s7 h8 → Go cX11_plays 6 RX11 (some .int) 17 G (QI G Q) 81 [(0, .ref (gAd G 0)), (1, .int x1), (2, .int x2), (3, .int x3)] [.int s7] h8 := by
        intro s7 h8 hw
        subst eJ81
        refine g_istore dX11_plays_81 (by decide) (lv1 := [(0, .ref (gAd G 0)), (1, .int x1), (2, .int x2), (3, .int x3), (5, .int s7)]) rfl ?_
        refine g_aload_n dX11_plays_83 rfl rfl ?_
        refine g_getO dX11_plays_84 fl_X11_27 sh0 rfl ?_
        refine g_iload_n dX11_plays_87 rfl rfl ?_
        refine g_callVI [.int x3] (ci := 2) dX11_plays_88 ml_X11_133 mk_X2_owner rfl rfl sh14 (Nat.le_of_ble_eq_true rfl) (Nat.le_of_ble_eq_true rfl) rfl (c_Land_owner hw) (fun r9 h10 hw => ?_)
        refine g_iload_n dX11_plays_91 rfl rfl ?_
        refine jn_el hw (fun J121 eJ121 hw => ?_)
        have hJ121 : ∀ (x2_11 : Int32) (h12 : Hp), J121 x2_11 h12 → Go cX11_plays 6 RX11 (some .int) 17 G (QI G Q) 121 [(0, .ref (gAd G 0)), (1, .int x1), (2, .int x2_11), (3, .int x3)] [] h12 := by
          intro x2_11 h12 hw
          subst eJ121
          obtain ⟨v13, ev13⟩ : ∃ y : Int32, y = (x3 + 1) := ⟨_, rfl⟩
          have hw := hw v13 ev13
          refine g_iinc dX11_plays_121 rfl (by rw [ev13]; rfl) (by decide) (lv1 := [(0, .ref (gAd G 0)), (1, .int x1), (2, .int x2_11), (3, .int v13)]) rfl ?_
          refine g_goto 47 dX11_plays_124 rfl ?_
          exact ih _ _ _ hw
        refine g_icmp_ne 121 dX11_plays_92 rfl (fun hc => ?_) (fun hc => ?_)
        · have hw := hw.1 hc
          refine g_lv [0, 1, 2, 3] rfl ?_
          exact hJ121 _ _ hw
        · have hw := hw.2 hc
          refine g_aload_n dX11_plays_95 rfl rfl ?_
          refine g_getO dX11_plays_96 fl_X11_34 sh0 rfl ?_
          refine g_iload_n dX11_plays_99 rfl rfl ?_
          refine g_callVI [.int x3] (ci := 6) dX11_plays_100 ml_X11_137 mk_X6_planOf rfl rfl sh20 (Nat.le_of_ble_eq_true rfl) (Nat.le_of_ble_eq_true rfl) rfl (c_Stand_planOf sh20 hw) (fun r14 h15 hw => ?_)
          refine g_iload dX11_plays_103 rfl ?_
          refine g_icmp_eq 121 dX11_plays_105 rfl (fun hc => ?_) (fun hc => ?_)
          · have hw := hw.1 hc
            refine g_lv [0, 1, 2, 3] rfl ?_
            exact hJ121 _ _ hw
          · have hw := hw.2 hc
            refine g_aload_n dX11_plays_108 rfl rfl ?_
            refine g_getO dX11_plays_109 fl_X11_34 sh0 rfl ?_
            refine g_iload_n dX11_plays_112 rfl rfl ?_
            refine g_iload dX11_plays_113 rfl ?_
            refine g_callVV [.int x3, .int s7] (ci := 6) dX11_plays_115 ml_X11_198 mk_X6_setPlan rfl rfl sh20 (Nat.le_of_ble_eq_true rfl) (Nat.le_of_ble_eq_true rfl) rfl (c_Stand_setPlan sh20 hw) (fun h16 hw => ?_)
            obtain ⟨v17, ev17⟩ : ∃ y : Int32, y = (x2 + 1) := ⟨_, rfl⟩
            have hw := hw v17 ev17
            refine g_iinc dX11_plays_118 rfl (by rw [ev17]; rfl) (by decide) (lv1 := [(0, .ref (gAd G 0)), (1, .int x1), (2, .int v17), (3, .int x3), (5, .int s7)]) rfl ?_
            refine g_lv [0, 1, 2, 3] rfl ?_
            exact hJ121 _ _ hw
      refine g_icmp_ne 79 dX11_plays_72 rfl (fun hc => ?_) (fun hc => ?_)
      · have hw := hw.1 hc
        refine g_iload dX11_plays_79 rfl ?_
        refine g_lv [0, 1, 2, 3] rfl ?_
        exact hJ81 _ _ hw
      · have hw := hw.2 hc
        refine g_iconst (v := (-1)) dX11_plays_75 (by decide) ?_
        refine g_goto 81 dX11_plays_76 rfl ?_
        refine g_lv [0, 1, 2, 3] rfl ?_
        exact hJ81 _ _ hw
def C_plays (x1 : Int32) (h : Hp) (Q : Int32 → Hp → Prop) : Prop := C_isPlayer x1 h (fun r1 h2 => (¬ r1 = 0 → Game_solve (gI h2 20 3) h2 (fun h3 => Past_keep 20 h3 (fun h4 => ∃ n18, C_plays_L47 x1 Q n18 0 0 h4))) ∧ (r1 = 0 → Q (-2) h2))
set_option maxHeartbeats 4000000 in
set_option maxRecDepth 20000 in
theorem c_C_plays {G : Gx}  {x1 : Int32} {h : Hp} {Q : Int32 → Hp → Prop} (hw : C_plays x1 h Q) : Ct yX11_plays cX11_plays 6 (some .int) 17 G [.ref (gAd G 0), .int x1] h (QI G Q) := by
  refine ct_go [(0, .ref (gAd G 0)), (1, .int x1)] (plainFor_of_name (by decide)) rfl (Nat.le_of_ble_eq_true rfl) rfl ?_
  refine g_iload_n dX11_plays_0 rfl rfl ?_
  refine g_callSI [.int x1] dX11_plays_1 ml_X11_202 mk_X11_isPlayer rfl (Nat.le_of_ble_eq_true rfl) (Nat.le_of_ble_eq_true rfl) rfl (c_C_isPlayer hw) (fun r1 h2 hw => ?_)
  refine g_if_ne 10 dX11_plays_4 rfl (fun hc => ?_) (fun hc => ?_)
  · have hw := hw.1 hc
    refine g_aload_n dX11_plays_10 rfl rfl ?_
    refine g_getO dX11_plays_11 fl_X11_72 sh0 rfl ?_
    refine g_aload_n dX11_plays_14 rfl rfl ?_
    refine g_getO dX11_plays_15 fl_X11_27 sh0 rfl ?_
    refine g_aload_n dX11_plays_18 rfl rfl ?_
    refine g_getO dX11_plays_19 fl_X11_34 sh0 rfl ?_
    refine g_getI dX11_plays_22 fl_X11_140 sh20 rfl ?_
    refine g_aload_n dX11_plays_25 rfl rfl ?_
    refine g_getO dX11_plays_26 fl_X11_65 sh0 rfl ?_
    refine g_callVV [.ref (gAd G 14), .int (gI h2 20 3), .ref (gAd G 73)] (ci := 0) dX11_plays_29 ml_X11_205 mk_X0_solve rfl rfl sh80 (Nat.le_of_ble_eq_true rfl) (Nat.le_of_ble_eq_true rfl) rfl (c_Game_solve hw) (fun h3 hw => ?_)
    refine g_aload_n dX11_plays_32 rfl rfl ?_
    refine g_getO dX11_plays_33 fl_X11_44 sh0 rfl ?_
    refine g_aload_n dX11_plays_36 rfl rfl ?_
    refine g_getO dX11_plays_37 fl_X11_34 sh0 rfl ?_
    refine g_callVV [.ref (gAd G 20)] (ci := 4) dX11_plays_40 ml_X11_177 mk_X4_keep rfl rfl sh24 (Nat.le_of_ble_eq_true rfl) (Nat.le_of_ble_eq_true rfl) rfl (c_Past_keep sh20 hw) (fun h4 hw => ?_)
    refine g_iconst (v := 0) dX11_plays_43 (by decide) ?_
    refine g_istore_n dX11_plays_44 rfl (by decide) (lv1 := [(0, .ref (gAd G 0)), (1, .int x1), (2, .int 0)]) rfl ?_
    refine g_iconst (v := 0) dX11_plays_45 (by decide) ?_
    refine g_istore_n dX11_plays_46 rfl (by decide) (lv1 := [(0, .ref (gAd G 0)), (1, .int x1), (2, .int 0), (3, .int 0)]) rfl ?_
    obtain ⟨n18, hw⟩ := hw
    refine gl_C_plays_L47   _ _ _ _ hw
  · have hw := hw.2 hc
    refine g_bipush (v := (-2)) dX11_plays_7 (by decide) ?_
    exact g_iret dX11_plays_9 hw
theorem dX11_weather_0 : decode cX11_weather 0 = .ok (.iload_n 1, 1) := by decide +kernel
theorem dX11_weather_1 : decode cX11_weather 1 = .ok (.invokestatic 215, 3) := by decide +kernel
theorem dX11_weather_4 : decode cX11_weather 4 = .ok (.ifCond .ne 6, 3) := by decide +kernel
theorem dX11_weather_7 : decode cX11_weather 7 = .ok (.bipush (-11), 2) := by decide +kernel
theorem dX11_weather_9 : decode cX11_weather 9 = .ok (.ireturn, 1) := by decide +kernel
theorem dX11_weather_10 : decode cX11_weather 10 = .ok (.aload_n 0, 1) := by decide +kernel
theorem dX11_weather_11 : decode cX11_weather 11 = .ok (.getfield 44, 3) := by decide +kernel
theorem dX11_weather_14 : decode cX11_weather 14 = .ok (.aload_n 0, 1) := by decide +kernel
theorem dX11_weather_15 : decode cX11_weather 15 = .ok (.getfield 34, 3) := by decide +kernel
theorem dX11_weather_18 : decode cX11_weather 18 = .ok (.invokevirtual 177, 3) := by decide +kernel
theorem dX11_weather_21 : decode cX11_weather 21 = .ok (.aload_n 0, 1) := by decide +kernel
theorem dX11_weather_22 : decode cX11_weather 22 = .ok (.getfield 34, 3) := by decide +kernel
theorem dX11_weather_25 : decode cX11_weather 25 = .ok (.getfield 140, 3) := by decide +kernel
theorem dX11_weather_28 : decode cX11_weather 28 = .ok (.istore_n 2, 1) := by decide +kernel
theorem dX11_weather_29 : decode cX11_weather 29 = .ok (.aload_n 0, 1) := by decide +kernel
theorem dX11_weather_30 : decode cX11_weather 30 = .ok (.getfield 34, 3) := by decide +kernel
theorem dX11_weather_33 : decode cX11_weather 33 = .ok (.iload_n 1, 1) := by decide +kernel
theorem dX11_weather_34 : decode cX11_weather 34 = .ok (.putfield 140, 3) := by decide +kernel
theorem dX11_weather_37 : decode cX11_weather 37 = .ok (.iload_n 2, 1) := by decide +kernel
theorem dX11_weather_38 : decode cX11_weather 38 = .ok (.ireturn, 1) := by decide +kernel
theorem ml_X11_215 : Cond.methodLink RX11 215 yX11_isWeather ∈ Wd := mW 973 (by decide +kernel) rfl
def C_weather (x1 : Int32) (h : Hp) (Q : Int32 → Hp → Prop) : Prop := C_isWeather x1 h (fun r1 h2 => (¬ r1 = 0 → Past_keep 20 h2 (fun h3 => ∀ v4 : Int32, v4 = (gI h3 20 3) → ∀ h5 : Hp, h5 = sI h3 20 3 x1 → Q v4 h5)) ∧ (r1 = 0 → Q (-11) h2))
set_option maxHeartbeats 4000000 in
set_option maxRecDepth 20000 in
theorem c_C_weather {G : Gx}  {x1 : Int32} {h : Hp} {Q : Int32 → Hp → Prop} (hw : C_weather x1 h Q) : Ct yX11_weather cX11_weather 3 (some .int) 4 G [.ref (gAd G 0), .int x1] h (QI G Q) := by
  refine ct_go [(0, .ref (gAd G 0)), (1, .int x1)] (plainFor_of_name (by decide)) rfl (Nat.le_of_ble_eq_true rfl) rfl ?_
  refine g_iload_n dX11_weather_0 rfl rfl ?_
  refine g_callSI [.int x1] dX11_weather_1 ml_X11_215 mk_X11_isWeather rfl (Nat.le_of_ble_eq_true rfl) (Nat.le_of_ble_eq_true rfl) rfl (c_C_isWeather hw) (fun r1 h2 hw => ?_)
  refine g_if_ne 10 dX11_weather_4 rfl (fun hc => ?_) (fun hc => ?_)
  · have hw := hw.1 hc
    refine g_aload_n dX11_weather_10 rfl rfl ?_
    refine g_getO dX11_weather_11 fl_X11_44 sh0 rfl ?_
    refine g_aload_n dX11_weather_14 rfl rfl ?_
    refine g_getO dX11_weather_15 fl_X11_34 sh0 rfl ?_
    refine g_callVV [.ref (gAd G 20)] (ci := 4) dX11_weather_18 ml_X11_177 mk_X4_keep rfl rfl sh24 (Nat.le_of_ble_eq_true rfl) (Nat.le_of_ble_eq_true rfl) rfl (c_Past_keep sh20 hw) (fun h3 hw => ?_)
    refine g_aload_n dX11_weather_21 rfl rfl ?_
    refine g_getO dX11_weather_22 fl_X11_34 sh0 rfl ?_
    refine g_getI dX11_weather_25 fl_X11_140 sh20 rfl ?_
    refine g_topi (fun v4 ev4 => ?_)
    have hw := hw v4 ev4
    refine g_istore_n dX11_weather_28 rfl (by decide) (lv1 := [(0, .ref (gAd G 0)), (1, .int x1), (2, .int v4)]) rfl ?_
    refine g_aload_n dX11_weather_29 rfl rfl ?_
    refine g_getO dX11_weather_30 fl_X11_34 sh0 rfl ?_
    refine g_iload_n dX11_weather_33 rfl rfl ?_
    refine g_putI dX11_weather_34 fl_X11_140 sh20 rfl rfl pf_6_3 ?_
    refine g_heap (fun h5 eh5 => ?_)
    have hw := hw h5 eh5
    refine g_iload_n dX11_weather_37 rfl rfl ?_
    exact g_iret dX11_weather_38 hw
  · have hw := hw.2 hc
    refine g_bipush (v := (-11)) dX11_weather_7 (by decide) ?_
    exact g_iret dX11_weather_9 hw
theorem dX4_takeBack_0 : decode cX4_takeBack 0 = .ok (.aload_n 0, 1) := by decide +kernel
theorem dX4_takeBack_1 : decode cX4_takeBack 1 = .ok (.getfield 17, 3) := by decide +kernel
theorem dX4_takeBack_4 : decode cX4_takeBack 4 = .ok (.bipush 10, 2) := by decide +kernel
theorem dX4_takeBack_6 : decode cX4_takeBack 6 = .ok (.iadd, 1) := by decide +kernel
theorem dX4_takeBack_7 : decode cX4_takeBack 7 = .ok (.iconst 1, 1) := by decide +kernel
theorem dX4_takeBack_8 : decode cX4_takeBack 8 = .ok (.isub, 1) := by decide +kernel
theorem dX4_takeBack_9 : decode cX4_takeBack 9 = .ok (.bipush 10, 2) := by decide +kernel
theorem dX4_takeBack_11 : decode cX4_takeBack 11 = .ok (.irem, 1) := by decide +kernel
theorem dX4_takeBack_12 : decode cX4_takeBack 12 = .ok (.istore_n 2, 1) := by decide +kernel
theorem dX4_takeBack_13 : decode cX4_takeBack 13 = .ok (.aload_n 0, 1) := by decide +kernel
theorem dX4_takeBack_14 : decode cX4_takeBack 14 = .ok (.getfield 21, 3) := by decide +kernel
theorem dX4_takeBack_17 : decode cX4_takeBack 17 = .ok (.ifCond .le 41, 3) := by decide +kernel
theorem dX4_takeBack_20 : decode cX4_takeBack 20 = .ok (.iload_n 2, 1) := by decide +kernel
theorem dX4_takeBack_21 : decode cX4_takeBack 21 = .ok (.ifCond .lt 37, 3) := by decide +kernel
theorem dX4_takeBack_24 : decode cX4_takeBack 24 = .ok (.iload_n 2, 1) := by decide +kernel
theorem dX4_takeBack_25 : decode cX4_takeBack 25 = .ok (.aload_n 0, 1) := by decide +kernel
theorem dX4_takeBack_26 : decode cX4_takeBack 26 = .ok (.getfield 11, 3) := by decide +kernel
theorem dX4_takeBack_29 : decode cX4_takeBack 29 = .ok (.arraylength, 1) := by decide +kernel
theorem dX4_takeBack_30 : decode cX4_takeBack 30 = .ok (.if_icmp .ge 28, 3) := by decide +kernel
theorem dX4_takeBack_33 : decode cX4_takeBack 33 = .ok (.aload_n 1, 1) := by decide +kernel
theorem dX4_takeBack_34 : decode cX4_takeBack 34 = .ok (.aload_n 0, 1) := by decide +kernel
theorem dX4_takeBack_35 : decode cX4_takeBack 35 = .ok (.getfield 11, 3) := by decide +kernel
theorem dX4_takeBack_38 : decode cX4_takeBack 38 = .ok (.iload_n 2, 1) := by decide +kernel
theorem dX4_takeBack_39 : decode cX4_takeBack 39 = .ok (.aaload, 1) := by decide +kernel
theorem dX4_takeBack_40 : decode cX4_takeBack 40 = .ok (.invokevirtual 25, 3) := by decide +kernel
theorem dX4_takeBack_43 : decode cX4_takeBack 43 = .ok (.aload_n 0, 1) := by decide +kernel
theorem dX4_takeBack_44 : decode cX4_takeBack 44 = .ok (.iload_n 2, 1) := by decide +kernel
theorem dX4_takeBack_45 : decode cX4_takeBack 45 = .ok (.putfield 17, 3) := by decide +kernel
theorem dX4_takeBack_48 : decode cX4_takeBack 48 = .ok (.aload_n 0, 1) := by decide +kernel
theorem dX4_takeBack_49 : decode cX4_takeBack 49 = .ok (.dup, 1) := by decide +kernel
theorem dX4_takeBack_50 : decode cX4_takeBack 50 = .ok (.getfield 21, 3) := by decide +kernel
theorem dX4_takeBack_53 : decode cX4_takeBack 53 = .ok (.iconst 1, 1) := by decide +kernel
theorem dX4_takeBack_54 : decode cX4_takeBack 54 = .ok (.isub, 1) := by decide +kernel
theorem dX4_takeBack_55 : decode cX4_takeBack 55 = .ok (.putfield 21, 3) := by decide +kernel
theorem dX4_takeBack_58 : decode cX4_takeBack 58 = .ok (.return_, 1) := by decide +kernel
def Past_takeBack (o1 : Nat) (h : Hp) (Q : Hp → Prop) : Prop := ∀ v1 : Int32, v1 = ((((gI h 24 1) + 10) - 1) - (((gI h 24 1) + 10) - 1) / 10 * 10) → ((gI h 24 2) ≤ 0 → Q h) ∧ (¬ (gI h 24 2) ≤ 0 → (v1 < 0 → Q h) ∧ (¬ v1 < 0 → (10 ≤ v1 → Q h) ∧ (¬ 10 ≤ v1 → vp_in v1 10 ∧ Stand_copy o1 (rf 25 (v1).toNatClampNeg) h (fun h3 => ∀ h4 : Hp, h4 = sI h3 24 1 v1 → ∀ h5 : Hp, h5 = sI h4 24 2 ((gI h4 24 2) - 1) → Q h5))))
set_option maxHeartbeats 4000000 in
set_option maxRecDepth 20000 in
theorem c_Past_takeBack {G : Gx} {o1 : Nat} (ho1 : SH o1 = .inl 6)  {h : Hp} {Q : Hp → Prop} (hw : Past_takeBack o1 h Q) : Ct yX4_takeBack cX4_takeBack 3 none 3 G [.ref (gAd G 24), .ref (gAd G o1)] h (QV G Q) := by
  refine ct_go [(0, .ref (gAd G 24)), (1, .ref (gAd G o1))] (plainFor_of_name (by decide)) rfl (Nat.le_of_ble_eq_true rfl) rfl ?_
  refine g_aload_n dX4_takeBack_0 rfl rfl ?_
  refine g_getI dX4_takeBack_1 fl_X4_17 sh24 rfl ?_
  refine g_bipush (v := 10) dX4_takeBack_4 (by decide) ?_
  refine g_iadd dX4_takeBack_6 ?_
  refine g_iconst (v := 1) dX4_takeBack_7 (by decide) ?_
  refine g_isub dX4_takeBack_8 ?_
  refine g_bipush (v := 10) dX4_takeBack_9 (by decide) ?_
  refine g_irem dX4_takeBack_11 (by decide) ?_
  refine g_topi (fun v1 ev1 => ?_)
  have hw := hw v1 ev1
  refine g_istore_n dX4_takeBack_12 rfl (by decide) (lv1 := [(0, .ref (gAd G 24)), (1, .ref (gAd G o1)), (2, .int v1)]) rfl ?_
  refine g_aload_n dX4_takeBack_13 rfl rfl ?_
  refine g_getI dX4_takeBack_14 fl_X4_21 sh24 rfl ?_
  refine g_if_le 58 dX4_takeBack_17 rfl (fun hc => ?_) (fun hc => ?_)
  · have hw := hw.1 hc
    exact g_vret dX4_takeBack_58 hw
  · have hw := hw.2 hc
    refine g_iload_n dX4_takeBack_20 rfl rfl ?_
    refine g_if_lt 58 dX4_takeBack_21 rfl (fun hc => ?_) (fun hc => ?_)
    · have hw := hw.1 hc
      exact g_vret dX4_takeBack_58 hw
    · have hw := hw.2 hc
      refine g_iload_n dX4_takeBack_24 rfl rfl ?_
      refine g_aload_n dX4_takeBack_25 rfl rfl ?_
      refine g_getA dX4_takeBack_26 fl_X4_11 sh24 rfl ?_
      refine g_alen dX4_takeBack_29 ia25 (by decide) al25 (v := 10) (by decide) ?_
      refine g_icmp_ge 58 dX4_takeBack_30 rfl (fun hc => ?_) (fun hc => ?_)
      · have hw := hw.1 hc
        exact g_vret dX4_takeBack_58 hw
      · have hw := hw.2 hc
        refine g_aload_n dX4_takeBack_33 rfl rfl ?_
        refine g_aload_n dX4_takeBack_34 rfl rfl ?_
        refine g_getA dX4_takeBack_35 fl_X4_11 sh24 rfl ?_
        refine g_iload_n dX4_takeBack_38 rfl rfl ?_
        refine g_aald dX4_takeBack_39 ia25 (by decide) al25 hw.1 ?_
        have hi2 := hw.1
        have hw := hw.2
        refine g_callVV [.ref (gAd G (rf 25 (v1).toNatClampNeg))] (ci := 6) dX4_takeBack_40 ml_X4_25 mk_X6_copy rfl rfl ho1 (Nat.le_of_ble_eq_true rfl) (Nat.le_of_ble_eq_true rfl) rfl (c_Stand_copy ho1 (rf_e ia25 (by rw [al25]; exact vp_lt hi2) (by decide)) hw) (fun h3 hw => ?_)
        refine g_aload_n dX4_takeBack_43 rfl rfl ?_
        refine g_iload_n dX4_takeBack_44 rfl rfl ?_
        refine g_putI dX4_takeBack_45 fl_X4_17 sh24 rfl rfl pf_4_1 ?_
        refine g_heap (fun h4 eh4 => ?_)
        have hw := hw h4 eh4
        refine g_aload_n dX4_takeBack_48 rfl rfl ?_
        refine g_dup dX4_takeBack_49 rfl ?_
        refine g_getI dX4_takeBack_50 fl_X4_21 sh24 rfl ?_
        refine g_iconst (v := 1) dX4_takeBack_53 (by decide) ?_
        refine g_isub dX4_takeBack_54 ?_
        refine g_putI dX4_takeBack_55 fl_X4_21 sh24 rfl rfl pf_4_2 ?_
        refine g_heap (fun h5 eh5 => ?_)
        have hw := hw h5 eh5
        exact g_vret dX4_takeBack_58 hw
theorem dX11_undo_0 : decode cX11_undo 0 = .ok (.iload_n 1, 1) := by decide +kernel
theorem dX11_undo_1 : decode cX11_undo 1 = .ok (.iconst 1, 1) := by decide +kernel
theorem dX11_undo_2 : decode cX11_undo 2 = .ok (.if_icmp .lt 20, 3) := by decide +kernel
theorem dX11_undo_5 : decode cX11_undo 5 = .ok (.iload_n 1, 1) := by decide +kernel
theorem dX11_undo_6 : decode cX11_undo 6 = .ok (.bipush 10, 2) := by decide +kernel
theorem dX11_undo_8 : decode cX11_undo 8 = .ok (.if_icmp .gt 14, 3) := by decide +kernel
theorem dX11_undo_11 : decode cX11_undo 11 = .ok (.iload_n 1, 1) := by decide +kernel
theorem dX11_undo_12 : decode cX11_undo 12 = .ok (.aload_n 0, 1) := by decide +kernel
theorem dX11_undo_13 : decode cX11_undo 13 = .ok (.getfield 44, 3) := by decide +kernel
theorem dX11_undo_16 : decode cX11_undo 16 = .ok (.getfield 218, 3) := by decide +kernel
theorem dX11_undo_19 : decode cX11_undo 19 = .ok (.if_icmp .le 6, 3) := by decide +kernel
theorem dX11_undo_22 : decode cX11_undo 22 = .ok (.bipush (-3), 2) := by decide +kernel
theorem dX11_undo_24 : decode cX11_undo 24 = .ok (.ireturn, 1) := by decide +kernel
theorem dX11_undo_25 : decode cX11_undo 25 = .ok (.iconst 0, 1) := by decide +kernel
theorem dX11_undo_26 : decode cX11_undo 26 = .ok (.istore_n 2, 1) := by decide +kernel
theorem dX11_undo_27 : decode cX11_undo 27 = .ok (.iload_n 2, 1) := by decide +kernel
theorem dX11_undo_28 : decode cX11_undo 28 = .ok (.iload_n 1, 1) := by decide +kernel
theorem dX11_undo_29 : decode cX11_undo 29 = .ok (.if_icmp .ge 20, 3) := by decide +kernel
theorem dX11_undo_32 : decode cX11_undo 32 = .ok (.aload_n 0, 1) := by decide +kernel
theorem dX11_undo_33 : decode cX11_undo 33 = .ok (.getfield 44, 3) := by decide +kernel
theorem dX11_undo_36 : decode cX11_undo 36 = .ok (.aload_n 0, 1) := by decide +kernel
theorem dX11_undo_37 : decode cX11_undo 37 = .ok (.getfield 34, 3) := by decide +kernel
theorem dX11_undo_40 : decode cX11_undo 40 = .ok (.invokevirtual 221, 3) := by decide +kernel
theorem dX11_undo_43 : decode cX11_undo 43 = .ok (.iinc 2 1, 3) := by decide +kernel
theorem dX11_undo_46 : decode cX11_undo 46 = .ok (.goto (-19), 3) := by decide +kernel
theorem dX11_undo_49 : decode cX11_undo 49 = .ok (.aload_n 0, 1) := by decide +kernel
theorem dX11_undo_50 : decode cX11_undo 50 = .ok (.getfield 44, 3) := by decide +kernel
theorem dX11_undo_53 : decode cX11_undo 53 = .ok (.getfield 218, 3) := by decide +kernel
theorem dX11_undo_56 : decode cX11_undo 56 = .ok (.ireturn, 1) := by decide +kernel
theorem fl_X11_218 : FLk RX11 218 4 2 := ⟨_, rfl, by decide, mW 231 (by decide +kernel) rfl⟩
theorem ml_X11_221 : Cond.methodLink RX11 221 yX4_takeBack ∈ Wd := mW 978 (by decide +kernel) rfl
theorem mk_X4_takeBack : MokV yX4_takeBack cX4_takeBack 3 none 1 := ⟨⟨mW 8 (by decide +kernel) rfl, mW 981 (by decide +kernel) rfl, ⟨by decide, by decide, by decide +kernel⟩, by decide⟩, mW 979 (by decide +kernel) rfl, mW 980 (by decide +kernel) rfl⟩
def C_undo_L27 (x1 : Int32) (Q : Int32 → Hp → Prop) : Nat → Int32 → Hp → Prop
  | 0, _, _ => False
  | n + 1, x2, h => (x1 ≤ x2 → Q (gI h 24 2) h) ∧ (¬ x1 ≤ x2 → Past_takeBack 20 h (fun h1 => ∀ v2 : Int32, v2 = (x2 + 1) → C_undo_L27 x1 Q n v2 h1))
set_option maxHeartbeats 4000000 in
set_option maxRecDepth 20000 in
theorem gl_C_undo_L27 {G : Gx}  {x1 : Int32} {Q : Int32 → Hp → Prop} : ∀ (n : Nat) (x2 : Int32) (h : Hp), C_undo_L27 x1 Q n x2 h → Go cX11_undo 3 RX11 (some .int) 4 G (QI G Q) 27 [(0, .ref (gAd G 0)), (1, .int x1), (2, .int x2)] [] h := by
  intro n
  induction n with
  | zero => intro _ h hw; exact False.elim hw
  | succ n ih =>
    intro x2 h hw
    refine g_iload_n dX11_undo_27 rfl rfl ?_
    refine g_iload_n dX11_undo_28 rfl rfl ?_
    refine g_icmp_ge 49 dX11_undo_29 rfl (fun hc => ?_) (fun hc => ?_)
    · have hw := hw.1 hc
      refine g_aload_n dX11_undo_49 rfl rfl ?_
      refine g_getO dX11_undo_50 fl_X11_44 sh0 rfl ?_
      refine g_getI dX11_undo_53 fl_X11_218 sh24 rfl ?_
      exact g_iret dX11_undo_56 hw
    · have hw := hw.2 hc
      refine g_aload_n dX11_undo_32 rfl rfl ?_
      refine g_getO dX11_undo_33 fl_X11_44 sh0 rfl ?_
      refine g_aload_n dX11_undo_36 rfl rfl ?_
      refine g_getO dX11_undo_37 fl_X11_34 sh0 rfl ?_
      refine g_callVV [.ref (gAd G 20)] (ci := 4) dX11_undo_40 ml_X11_221 mk_X4_takeBack rfl rfl sh24 (Nat.le_of_ble_eq_true rfl) (Nat.le_of_ble_eq_true rfl) rfl (c_Past_takeBack sh20 hw) (fun h1 hw => ?_)
      obtain ⟨v2, ev2⟩ : ∃ y : Int32, y = (x2 + 1) := ⟨_, rfl⟩
      have hw := hw v2 ev2
      refine g_iinc dX11_undo_43 rfl (by rw [ev2]; rfl) (by decide) (lv1 := [(0, .ref (gAd G 0)), (1, .int x1), (2, .int v2)]) rfl ?_
      refine g_goto 27 dX11_undo_46 rfl ?_
      exact ih _ _ hw
def C_undo (x1 : Int32) (h : Hp) (Q : Int32 → Hp → Prop) : Prop := (x1 < 1 → Q (-3) h) ∧ (¬ x1 < 1 → (10 < x1 → Q (-3) h) ∧ (¬ 10 < x1 → (x1 ≤ (gI h 24 2) → ∃ n3, C_undo_L27 x1 Q n3 0 h) ∧ (¬ x1 ≤ (gI h 24 2) → Q (-3) h)))
set_option maxHeartbeats 4000000 in
set_option maxRecDepth 20000 in
theorem c_C_undo {G : Gx}  {x1 : Int32} {h : Hp} {Q : Int32 → Hp → Prop} (hw : C_undo x1 h Q) : Ct yX11_undo cX11_undo 3 (some .int) 4 G [.ref (gAd G 0), .int x1] h (QI G Q) := by
  refine ct_go [(0, .ref (gAd G 0)), (1, .int x1)] (plainFor_of_name (by decide)) rfl (Nat.le_of_ble_eq_true rfl) rfl ?_
  refine g_iload_n dX11_undo_0 rfl rfl ?_
  refine g_iconst (v := 1) dX11_undo_1 (by decide) ?_
  refine g_icmp_lt 22 dX11_undo_2 rfl (fun hc => ?_) (fun hc => ?_)
  · have hw := hw.1 hc
    refine g_bipush (v := (-3)) dX11_undo_22 (by decide) ?_
    exact g_iret dX11_undo_24 hw
  · have hw := hw.2 hc
    refine g_iload_n dX11_undo_5 rfl rfl ?_
    refine g_bipush (v := 10) dX11_undo_6 (by decide) ?_
    refine g_icmp_gt 22 dX11_undo_8 rfl (fun hc => ?_) (fun hc => ?_)
    · have hw := hw.1 hc
      refine g_bipush (v := (-3)) dX11_undo_22 (by decide) ?_
      exact g_iret dX11_undo_24 hw
    · have hw := hw.2 hc
      refine g_iload_n dX11_undo_11 rfl rfl ?_
      refine g_aload_n dX11_undo_12 rfl rfl ?_
      refine g_getO dX11_undo_13 fl_X11_44 sh0 rfl ?_
      refine g_getI dX11_undo_16 fl_X11_218 sh24 rfl ?_
      refine g_icmp_le 25 dX11_undo_19 rfl (fun hc => ?_) (fun hc => ?_)
      · have hw := hw.1 hc
        refine g_iconst (v := 0) dX11_undo_25 (by decide) ?_
        refine g_istore_n dX11_undo_26 rfl (by decide) (lv1 := [(0, .ref (gAd G 0)), (1, .int x1), (2, .int 0)]) rfl ?_
        obtain ⟨n3, hw⟩ := hw
        refine gl_C_undo_L27   _ _ _ hw
      · have hw := hw.2 hc
        refine g_bipush (v := (-3)) dX11_undo_22 (by decide) ?_
        exact g_iret dX11_undo_24 hw
theorem dX11_isTray_0 : decode cX11_isTray 0 = .ok (.iload_n 0, 1) := by decide +kernel
theorem dX11_isTray_1 : decode cX11_isTray 1 = .ok (.ifCond .lt 12, 3) := by decide +kernel
theorem dX11_isTray_4 : decode cX11_isTray 4 = .ok (.iload_n 0, 1) := by decide +kernel
theorem dX11_isTray_5 : decode cX11_isTray 5 = .ok (.iconst 4, 1) := by decide +kernel
theorem dX11_isTray_6 : decode cX11_isTray 6 = .ok (.if_icmp .ge 7, 3) := by decide +kernel
theorem dX11_isTray_9 : decode cX11_isTray 9 = .ok (.iconst 1, 1) := by decide +kernel
theorem dX11_isTray_10 : decode cX11_isTray 10 = .ok (.goto 4, 3) := by decide +kernel
theorem dX11_isTray_13 : decode cX11_isTray 13 = .ok (.iconst 0, 1) := by decide +kernel
theorem dX11_isTray_14 : decode cX11_isTray 14 = .ok (.ireturn, 1) := by decide +kernel
def C_isTray (x0 : Int32) (h : Hp) (Q : Int32 → Hp → Prop) : Prop := (x0 < 0 → Q 0 h) ∧ (¬ x0 < 0 → (4 ≤ x0 → Q 0 h) ∧ (¬ 4 ≤ x0 → Q 1 h))
set_option maxHeartbeats 4000000 in
set_option maxRecDepth 20000 in
theorem c_C_isTray {G : Gx}  {x0 : Int32} {h : Hp} {Q : Int32 → Hp → Prop} (hw : C_isTray x0 h Q) : Ct yX11_isTray cX11_isTray 1 (some .boolean) 1 G [.int x0] h (QI G Q) := by
  refine ct_go [(0, .int x0)] (plainFor_of_name (by decide)) rfl (Nat.le_of_ble_eq_true rfl) rfl ?_
  refine g_iload_n dX11_isTray_0 rfl rfl ?_
  refine g_if_lt 13 dX11_isTray_1 rfl (fun hc => ?_) (fun hc => ?_)
  · have hw := hw.1 hc
    refine g_iconst (v := 0) dX11_isTray_13 (by decide) ?_
    exact g_zret dX11_isTray_14 rfl hw
  · have hw := hw.2 hc
    refine g_iload_n dX11_isTray_4 rfl rfl ?_
    refine g_iconst (v := 4) dX11_isTray_5 (by decide) ?_
    refine g_icmp_ge 13 dX11_isTray_6 rfl (fun hc => ?_) (fun hc => ?_)
    · have hw := hw.1 hc
      refine g_iconst (v := 0) dX11_isTray_13 (by decide) ?_
      exact g_zret dX11_isTray_14 rfl hw
    · have hw := hw.2 hc
      refine g_iconst (v := 1) dX11_isTray_9 (by decide) ?_
      refine g_goto 14 dX11_isTray_10 rfl ?_
      exact g_zret dX11_isTray_14 rfl hw
theorem dX10_isMissing_0 : decode cX10_isMissing 0 = .ok (.aload_n 0, 1) := by decide +kernel
theorem dX10_isMissing_1 : decode cX10_isMissing 1 = .ok (.getfield 9, 3) := by decide +kernel
theorem dX10_isMissing_4 : decode cX10_isMissing 4 = .ok (.iconst (-1), 1) := by decide +kernel
theorem dX10_isMissing_5 : decode cX10_isMissing 5 = .ok (.if_icmp .ne 7, 3) := by decide +kernel
theorem dX10_isMissing_8 : decode cX10_isMissing 8 = .ok (.iconst 1, 1) := by decide +kernel
theorem dX10_isMissing_9 : decode cX10_isMissing 9 = .ok (.goto 4, 3) := by decide +kernel
theorem dX10_isMissing_12 : decode cX10_isMissing 12 = .ok (.iconst 0, 1) := by decide +kernel
theorem dX10_isMissing_13 : decode cX10_isMissing 13 = .ok (.ireturn, 1) := by decide +kernel
theorem fl_X10_9 : FLk RX10 9 10 0 := ⟨_, rfl, by decide, mW 366 (by decide +kernel) rfl⟩
def Tray_isMissing (o0 : Nat) (h : Hp) (Q : Int32 → Hp → Prop) : Prop := (¬ (gI h o0 0) = (-1) → Q 0 h) ∧ ((gI h o0 0) = (-1) → Q 1 h)
set_option maxHeartbeats 4000000 in
set_option maxRecDepth 20000 in
theorem c_Tray_isMissing {G : Gx} {o0 : Nat} (ho0 : SH o0 = .inl 10)  {h : Hp} {Q : Int32 → Hp → Prop} (hw : Tray_isMissing o0 h Q) : Ct yX10_isMissing cX10_isMissing 1 (some .boolean) 1 G [.ref (gAd G o0)] h (QI G Q) := by
  refine ct_go [(0, .ref (gAd G o0))] (plainFor_of_name (by decide)) rfl (Nat.le_of_ble_eq_true rfl) rfl ?_
  refine g_aload_n dX10_isMissing_0 rfl rfl ?_
  refine g_getI dX10_isMissing_1 fl_X10_9 ho0 rfl ?_
  refine g_iconst (v := (-1)) dX10_isMissing_4 (by decide) ?_
  refine g_icmp_ne 12 dX10_isMissing_5 rfl (fun hc => ?_) (fun hc => ?_)
  · have hw := hw.1 hc
    refine g_iconst (v := 0) dX10_isMissing_12 (by decide) ?_
    exact g_zret dX10_isMissing_13 rfl hw
  · have hw := hw.2 hc
    refine g_iconst (v := 1) dX10_isMissing_8 (by decide) ?_
    refine g_goto 13 dX10_isMissing_9 rfl ?_
    exact g_zret dX10_isMissing_13 rfl hw
theorem dX10_number_0 : decode cX10_number 0 = .ok (.iload_n 1, 1) := by decide +kernel
theorem dX10_number_1 : decode cX10_number 1 = .ok (.ifCond .lt 21, 3) := by decide +kernel
theorem dX10_number_4 : decode cX10_number 4 = .ok (.iload_n 1, 1) := by decide +kernel
theorem dX10_number_5 : decode cX10_number 5 = .ok (.aload_n 0, 1) := by decide +kernel
theorem dX10_number_6 : decode cX10_number 6 = .ok (.getfield 18, 3) := by decide +kernel
theorem dX10_number_9 : decode cX10_number 9 = .ok (.arraylength, 1) := by decide +kernel
theorem dX10_number_10 : decode cX10_number 10 = .ok (.if_icmp .ge 12, 3) := by decide +kernel
theorem dX10_number_13 : decode cX10_number 13 = .ok (.aload_n 0, 1) := by decide +kernel
theorem dX10_number_14 : decode cX10_number 14 = .ok (.getfield 18, 3) := by decide +kernel
theorem dX10_number_17 : decode cX10_number 17 = .ok (.iload_n 1, 1) := by decide +kernel
theorem dX10_number_18 : decode cX10_number 18 = .ok (.laload, 1) := by decide +kernel
theorem dX10_number_19 : decode cX10_number 19 = .ok (.goto 4, 3) := by decide +kernel
theorem dX10_number_22 : decode cX10_number 22 = .ok (.lconst 0, 1) := by decide +kernel
theorem dX10_number_23 : decode cX10_number 23 = .ok (.lreturn, 1) := by decide +kernel
theorem fl_X10_18 : FLk RX10 18 10 2 := ⟨_, rfl, by decide, mW 370 (by decide +kernel) rfl⟩
def Tray_number (o0 : Nat) (x1 : Int32) (h : Hp) (Q : Int64 → Hp → Prop) : Prop := (x1 < 0 → Q (0 : Int64) h) ∧ (¬ x1 < 0 → (40 ≤ x1 → Q (0 : Int64) h) ∧ (¬ 40 ≤ x1 → vp_in x1 40 ∧ Q (gJ h (rf o0 2) (x1).toNatClampNeg) h))
set_option maxHeartbeats 4000000 in
set_option maxRecDepth 20000 in
theorem c_Tray_number {G : Gx} {o0 : Nat} (ho0 : SH o0 = .inl 10) {x1 : Int32} {h : Hp} {Q : Int64 → Hp → Prop} (hw : Tray_number o0 x1 h Q) : Ct yX10_number cX10_number 2 (some .long) 1 G [.ref (gAd G o0), .int x1] h (QJ G Q) := by
  refine ct_go [(0, .ref (gAd G o0)), (1, .int x1)] (plainFor_of_name (by decide)) rfl (Nat.le_of_ble_eq_true rfl) rfl ?_
  refine g_iload_n dX10_number_0 rfl rfl ?_
  refine g_if_lt 22 dX10_number_1 rfl (fun hc => ?_) (fun hc => ?_)
  · have hw := hw.1 hc
    refine g_lconst (v := (0 : Int64)) dX10_number_22 (by decide) ?_
    exact g_lret dX10_number_23 hw
  · have hw := hw.2 hc
    refine g_iload_n dX10_number_4 rfl rfl ?_
    refine g_aload_n dX10_number_5 rfl rfl ?_
    refine g_getA dX10_number_6 fl_X10_18 ho0 rfl ?_
    refine g_alen dX10_number_9 (rf_a ho0 (k := 2) rfl) (by decide) (ln_10_2 ho0) (v := 40) (by decide) ?_
    refine g_icmp_ge 22 dX10_number_10 rfl (fun hc => ?_) (fun hc => ?_)
    · have hw := hw.1 hc
      refine g_lconst (v := (0 : Int64)) dX10_number_22 (by decide) ?_
      exact g_lret dX10_number_23 hw
    · have hw := hw.2 hc
      refine g_aload_n dX10_number_13 rfl rfl ?_
      refine g_getA dX10_number_14 fl_X10_18 ho0 rfl ?_
      refine g_iload_n dX10_number_17 rfl rfl ?_
      refine g_lald dX10_number_18 (rf_a ho0 (k := 2) rfl) (ln_10_2 ho0) hw.1 ?_
      have hw := hw.2
      refine g_goto 23 dX10_number_19 rfl ?_
      exact g_lret dX10_number_23 hw
theorem dX6_tryPlan_0 : decode cX6_tryPlan 0 = .ok (.iload_n 2, 1) := by decide +kernel
theorem dX6_tryPlan_1 : decode cX6_tryPlan 1 = .ok (.sipush 1000, 3) := by decide +kernel
theorem dX6_tryPlan_4 : decode cX6_tryPlan 4 = .ok (.idiv, 1) := by decide +kernel
theorem dX6_tryPlan_5 : decode cX6_tryPlan 5 = .ok (.istore_n 3, 1) := by decide +kernel
theorem dX6_tryPlan_6 : decode cX6_tryPlan 6 = .ok (.iload_n 2, 1) := by decide +kernel
theorem dX6_tryPlan_7 : decode cX6_tryPlan 7 = .ok (.sipush 1000, 3) := by decide +kernel
theorem dX6_tryPlan_10 : decode cX6_tryPlan 10 = .ok (.irem, 1) := by decide +kernel
theorem dX6_tryPlan_11 : decode cX6_tryPlan 11 = .ok (.sipush 999, 3) := by decide +kernel
theorem dX6_tryPlan_14 : decode cX6_tryPlan 14 = .ok (.if_icmp .ne 7, 3) := by decide +kernel
theorem dX6_tryPlan_17 : decode cX6_tryPlan 17 = .ok (.iconst (-1), 1) := by decide +kernel
theorem dX6_tryPlan_18 : decode cX6_tryPlan 18 = .ok (.goto 8, 3) := by decide +kernel
theorem dX6_tryPlan_21 : decode cX6_tryPlan 21 = .ok (.iload_n 2, 1) := by decide +kernel
theorem dX6_tryPlan_22 : decode cX6_tryPlan 22 = .ok (.sipush 1000, 3) := by decide +kernel
theorem dX6_tryPlan_25 : decode cX6_tryPlan 25 = .ok (.irem, 1) := by decide +kernel
theorem dX6_tryPlan_26 : decode cX6_tryPlan 26 = .ok (.istore 4, 2) := by decide +kernel
theorem dX6_tryPlan_28 : decode cX6_tryPlan 28 = .ok (.aload_n 0, 1) := by decide +kernel
theorem dX6_tryPlan_29 : decode cX6_tryPlan 29 = .ok (.aload_n 1, 1) := by decide +kernel
theorem dX6_tryPlan_30 : decode cX6_tryPlan 30 = .ok (.iload_n 3, 1) := by decide +kernel
theorem dX6_tryPlan_31 : decode cX6_tryPlan 31 = .ok (.iload 4, 2) := by decide +kernel
theorem dX6_tryPlan_33 : decode cX6_tryPlan 33 = .ok (.invokevirtual 107, 3) := by decide +kernel
theorem dX6_tryPlan_36 : decode cX6_tryPlan 36 = .ok (.istore 5, 2) := by decide +kernel
theorem dX6_tryPlan_38 : decode cX6_tryPlan 38 = .ok (.iload 5, 2) := by decide +kernel
theorem dX6_tryPlan_40 : decode cX6_tryPlan 40 = .ok (.ifCond .ne 10, 3) := by decide +kernel
theorem dX6_tryPlan_43 : decode cX6_tryPlan 43 = .ok (.aload_n 0, 1) := by decide +kernel
theorem dX6_tryPlan_44 : decode cX6_tryPlan 44 = .ok (.iload_n 3, 1) := by decide +kernel
theorem dX6_tryPlan_45 : decode cX6_tryPlan 45 = .ok (.iload 4, 2) := by decide +kernel
theorem dX6_tryPlan_47 : decode cX6_tryPlan 47 = .ok (.invokevirtual 111, 3) := by decide +kernel
theorem dX6_tryPlan_50 : decode cX6_tryPlan 50 = .ok (.iload 5, 2) := by decide +kernel
theorem dX6_tryPlan_52 : decode cX6_tryPlan 52 = .ok (.ireturn, 1) := by decide +kernel
theorem ml_X6_107 : Cond.methodLink RX6 107 yX6_whyNotPlan ∈ Wd := mW 1017 (by decide +kernel) rfl
theorem ml_X6_111 : Cond.methodLink RX6 111 yX6_setPlan ∈ Wd := mW 1018 (by decide +kernel) rfl
def Stand_tryPlan (o0 : Nat) (x2 : Int32) (h : Hp) (Q : Int32 → Hp → Prop) : Prop := ∀ v1 : Int32, v1 = (x2 / 1000) → ∀ J26 : Int32 → Hp → Prop, J26 = (fun s2 h3 => Stand_whyNotPlan o0 v1 s2 h3 (fun r4 h5 => (¬ r4 = 0 → Q r4 h5) ∧ (r4 = 0 → Stand_setPlan o0 v1 s2 h5 (fun h6 => Q r4 h6)))) → (¬ (x2 - x2 / 1000 * 1000) = 999 → J26 (x2 - x2 / 1000 * 1000) h) ∧ ((x2 - x2 / 1000 * 1000) = 999 → J26 (-1) h)
set_option maxHeartbeats 4000000 in
set_option maxRecDepth 20000 in
theorem c_Stand_tryPlan {G : Gx} {o0 : Nat} (ho0 : SH o0 = .inl 6) {x2 : Int32} {h : Hp} {Q : Int32 → Hp → Prop} (hw : Stand_tryPlan o0 x2 h Q) : Ct yX6_tryPlan cX6_tryPlan 6 (some .int) 3 G [.ref (gAd G o0), .ref (gAd G 14), .int x2] h (QI G Q) := by
  refine ct_go [(0, .ref (gAd G o0)), (1, .ref (gAd G 14)), (2, .int x2)] (plainFor_of_name (by decide)) rfl (Nat.le_of_ble_eq_true rfl) rfl ?_
  refine g_iload_n dX6_tryPlan_0 rfl rfl ?_
  refine g_sipush (v := 1000) dX6_tryPlan_1 (by decide) ?_
  refine g_idiv dX6_tryPlan_4 (by decide) ?_
  refine g_topi (fun v1 ev1 => ?_)
  have hw := hw v1 ev1
  refine g_istore_n dX6_tryPlan_5 rfl (by decide) (lv1 := [(0, .ref (gAd G o0)), (1, .ref (gAd G 14)), (2, .int x2), (3, .int v1)]) rfl ?_
  refine g_iload_n dX6_tryPlan_6 rfl rfl ?_
  refine g_sipush (v := 1000) dX6_tryPlan_7 (by decide) ?_
  refine g_irem dX6_tryPlan_10 (by decide) ?_
  refine g_sipush (v := 999) dX6_tryPlan_11 (by decide) ?_
  refine jn_el hw (fun J26 eJ26 hw => ?_)
  have hJ26 : ∀ (s2 : Int32) (h3 : Hp), J26 s2 h3 → Go cX6_tryPlan 6 RX6 (some .int) 3 G (QI G Q) 26 [(0, .ref (gAd G o0)), (1, .ref (gAd G 14)), (3, .int v1)] [.int s2] h3 := by
    intro s2 h3 hw
    subst eJ26
    refine g_istore dX6_tryPlan_26 (by decide) (lv1 := [(0, .ref (gAd G o0)), (1, .ref (gAd G 14)), (3, .int v1), (4, .int s2)]) rfl ?_
    refine g_aload_n dX6_tryPlan_28 rfl rfl ?_
    refine g_aload_n dX6_tryPlan_29 rfl rfl ?_
    refine g_iload_n dX6_tryPlan_30 rfl rfl ?_
    refine g_iload dX6_tryPlan_31 rfl ?_
    refine g_callVI [.ref (gAd G 14), .int v1, .int s2] (ci := 6) dX6_tryPlan_33 ml_X6_107 mk_X6_whyNotPlan rfl rfl ho0 (Nat.le_of_ble_eq_true rfl) (Nat.le_of_ble_eq_true rfl) rfl (c_Stand_whyNotPlan ho0 hw) (fun r4 h5 hw => ?_)
    refine g_istore dX6_tryPlan_36 (by decide) (lv1 := [(0, .ref (gAd G o0)), (1, .ref (gAd G 14)), (3, .int v1), (4, .int s2), (5, .int r4)]) rfl ?_
    refine g_iload dX6_tryPlan_38 rfl ?_
    refine g_if_ne 50 dX6_tryPlan_40 rfl (fun hc => ?_) (fun hc => ?_)
    · have hw := hw.1 hc
      refine g_iload dX6_tryPlan_50 rfl ?_
      exact g_iret dX6_tryPlan_52 hw
    · have hw := hw.2 hc
      refine g_aload_n dX6_tryPlan_43 rfl rfl ?_
      refine g_iload_n dX6_tryPlan_44 rfl rfl ?_
      refine g_iload dX6_tryPlan_45 rfl ?_
      refine g_callVV [.int v1, .int s2] (ci := 6) dX6_tryPlan_47 ml_X6_111 mk_X6_setPlan rfl rfl ho0 (Nat.le_of_ble_eq_true rfl) (Nat.le_of_ble_eq_true rfl) rfl (c_Stand_setPlan ho0 hw) (fun h6 hw => ?_)
      refine g_iload dX6_tryPlan_50 rfl ?_
      exact g_iret dX6_tryPlan_52 hw
  refine g_icmp_ne 21 dX6_tryPlan_14 rfl (fun hc => ?_) (fun hc => ?_)
  · have hw := hw.1 hc
    refine g_iload_n dX6_tryPlan_21 rfl rfl ?_
    refine g_sipush (v := 1000) dX6_tryPlan_22 (by decide) ?_
    refine g_irem dX6_tryPlan_25 (by decide) ?_
    refine g_lv [0, 1, 3] rfl ?_
    exact hJ26 _ _ hw
  · have hw := hw.2 hc
    refine g_iconst (v := (-1)) dX6_tryPlan_17 (by decide) ?_
    refine g_goto 26 dX6_tryPlan_18 rfl ?_
    refine g_lv [0, 1, 3] rfl ?_
    exact hJ26 _ _ hw
theorem dX6_tryDeed_0 : decode cX6_tryDeed 0 = .ok (.lload_n 2, 1) := by decide +kernel
theorem dX6_tryDeed_1 : decode cX6_tryDeed 1 = .ok (.lconst 0, 1) := by decide +kernel
theorem dX6_tryDeed_2 : decode cX6_tryDeed 2 = .ok (.lcmp, 1) := by decide +kernel
theorem dX6_tryDeed_3 : decode cX6_tryDeed 3 = .ok (.ifCond .lt 35, 3) := by decide +kernel
theorem dX6_tryDeed_6 : decode cX6_tryDeed 6 = .ok (.lload_n 2, 1) := by decide +kernel
theorem dX6_tryDeed_7 : decode cX6_tryDeed 7 = .ok (.ldc2_w 87, 3) := by decide +kernel
theorem dX6_tryDeed_10 : decode cX6_tryDeed 10 = .ok (.lcmp, 1) := by decide +kernel
theorem dX6_tryDeed_11 : decode cX6_tryDeed 11 = .ok (.ifCond .gt 27, 3) := by decide +kernel
theorem dX6_tryDeed_14 : decode cX6_tryDeed 14 = .ok (.aload_n 0, 1) := by decide +kernel
theorem dX6_tryDeed_15 : decode cX6_tryDeed 15 = .ok (.aload_n 1, 1) := by decide +kernel
theorem dX6_tryDeed_16 : decode cX6_tryDeed 16 = .ok (.lload_n 2, 1) := by decide +kernel
theorem dX6_tryDeed_17 : decode cX6_tryDeed 17 = .ok (.l2i, 1) := by decide +kernel
theorem dX6_tryDeed_18 : decode cX6_tryDeed 18 = .ok (.invokevirtual 89, 3) := by decide +kernel
theorem dX6_tryDeed_21 : decode cX6_tryDeed 21 = .ok (.istore 4, 2) := by decide +kernel
theorem dX6_tryDeed_23 : decode cX6_tryDeed 23 = .ok (.iload 4, 2) := by decide +kernel
theorem dX6_tryDeed_25 : decode cX6_tryDeed 25 = .ok (.ifCond .ne 10, 3) := by decide +kernel
theorem dX6_tryDeed_28 : decode cX6_tryDeed 28 = .ok (.aload_n 0, 1) := by decide +kernel
theorem dX6_tryDeed_29 : decode cX6_tryDeed 29 = .ok (.aload_n 1, 1) := by decide +kernel
theorem dX6_tryDeed_30 : decode cX6_tryDeed 30 = .ok (.lload_n 2, 1) := by decide +kernel
theorem dX6_tryDeed_31 : decode cX6_tryDeed 31 = .ok (.l2i, 1) := by decide +kernel
theorem dX6_tryDeed_32 : decode cX6_tryDeed 32 = .ok (.invokevirtual 83, 3) := by decide +kernel
theorem dX6_tryDeed_35 : decode cX6_tryDeed 35 = .ok (.iload 4, 2) := by decide +kernel
theorem dX6_tryDeed_37 : decode cX6_tryDeed 37 = .ok (.ireturn, 1) := by decide +kernel
theorem dX6_tryDeed_38 : decode cX6_tryDeed 38 = .ok (.lload_n 2, 1) := by decide +kernel
theorem dX6_tryDeed_39 : decode cX6_tryDeed 39 = .ok (.ldc2_w 92, 3) := by decide +kernel
theorem dX6_tryDeed_42 : decode cX6_tryDeed 42 = .ok (.lcmp, 1) := by decide +kernel
theorem dX6_tryDeed_43 : decode cX6_tryDeed 43 = .ok (.ifCond .lt 22, 3) := by decide +kernel
theorem dX6_tryDeed_46 : decode cX6_tryDeed 46 = .ok (.lload_n 2, 1) := by decide +kernel
theorem dX6_tryDeed_47 : decode cX6_tryDeed 47 = .ok (.ldc2_w 94, 3) := by decide +kernel
theorem dX6_tryDeed_50 : decode cX6_tryDeed 50 = .ok (.lcmp, 1) := by decide +kernel
theorem dX6_tryDeed_51 : decode cX6_tryDeed 51 = .ok (.ifCond .ge 14, 3) := by decide +kernel
theorem dX6_tryDeed_54 : decode cX6_tryDeed 54 = .ok (.aload_n 0, 1) := by decide +kernel
theorem dX6_tryDeed_55 : decode cX6_tryDeed 55 = .ok (.lload_n 2, 1) := by decide +kernel
theorem dX6_tryDeed_56 : decode cX6_tryDeed 56 = .ok (.l2i, 1) := by decide +kernel
theorem dX6_tryDeed_57 : decode cX6_tryDeed 57 = .ok (.bipush 20, 2) := by decide +kernel
theorem dX6_tryDeed_59 : decode cX6_tryDeed 59 = .ok (.isub, 1) := by decide +kernel
theorem dX6_tryDeed_60 : decode cX6_tryDeed 60 = .ok (.putfield 22, 3) := by decide +kernel
theorem dX6_tryDeed_63 : decode cX6_tryDeed 63 = .ok (.iconst 0, 1) := by decide +kernel
theorem dX6_tryDeed_64 : decode cX6_tryDeed 64 = .ok (.ireturn, 1) := by decide +kernel
theorem dX6_tryDeed_65 : decode cX6_tryDeed 65 = .ok (.lload_n 2, 1) := by decide +kernel
theorem dX6_tryDeed_66 : decode cX6_tryDeed 66 = .ok (.ldc2_w 94, 3) := by decide +kernel
theorem dX6_tryDeed_69 : decode cX6_tryDeed 69 = .ok (.lcmp, 1) := by decide +kernel
theorem dX6_tryDeed_70 : decode cX6_tryDeed 70 = .ok (.ifCond .ne 10, 3) := by decide +kernel
theorem dX6_tryDeed_73 : decode cX6_tryDeed 73 = .ok (.aload_n 0, 1) := by decide +kernel
theorem dX6_tryDeed_74 : decode cX6_tryDeed 74 = .ok (.aload_n 1, 1) := by decide +kernel
theorem dX6_tryDeed_75 : decode cX6_tryDeed 75 = .ok (.invokevirtual 96, 3) := by decide +kernel
theorem dX6_tryDeed_78 : decode cX6_tryDeed 78 = .ok (.iconst 0, 1) := by decide +kernel
theorem dX6_tryDeed_79 : decode cX6_tryDeed 79 = .ok (.ireturn, 1) := by decide +kernel
theorem dX6_tryDeed_80 : decode cX6_tryDeed 80 = .ok (.lload_n 2, 1) := by decide +kernel
theorem dX6_tryDeed_81 : decode cX6_tryDeed 81 = .ok (.ldc2_w 100, 3) := by decide +kernel
theorem dX6_tryDeed_84 : decode cX6_tryDeed 84 = .ok (.lcmp, 1) := by decide +kernel
theorem dX6_tryDeed_85 : decode cX6_tryDeed 85 = .ok (.ifCond .lt 25, 3) := by decide +kernel
theorem dX6_tryDeed_88 : decode cX6_tryDeed 88 = .ok (.lload_n 2, 1) := by decide +kernel
theorem dX6_tryDeed_89 : decode cX6_tryDeed 89 = .ok (.ldc2_w 102, 3) := by decide +kernel
theorem dX6_tryDeed_92 : decode cX6_tryDeed 92 = .ok (.lcmp, 1) := by decide +kernel
theorem dX6_tryDeed_93 : decode cX6_tryDeed 93 = .ok (.ifCond .gt 17, 3) := by decide +kernel
theorem dX6_tryDeed_96 : decode cX6_tryDeed 96 = .ok (.aload_n 0, 1) := by decide +kernel
theorem dX6_tryDeed_97 : decode cX6_tryDeed 97 = .ok (.aload_n 1, 1) := by decide +kernel
theorem dX6_tryDeed_98 : decode cX6_tryDeed 98 = .ok (.lload_n 2, 1) := by decide +kernel
theorem dX6_tryDeed_99 : decode cX6_tryDeed 99 = .ok (.l2i, 1) := by decide +kernel
theorem dX6_tryDeed_100 : decode cX6_tryDeed 100 = .ok (.sipush 1000, 3) := by decide +kernel
theorem dX6_tryDeed_103 : decode cX6_tryDeed 103 = .ok (.isub, 1) := by decide +kernel
theorem dX6_tryDeed_104 : decode cX6_tryDeed 104 = .ok (.invokevirtual 104, 3) := by decide +kernel
theorem dX6_tryDeed_107 : decode cX6_tryDeed 107 = .ok (.goto 4, 3) := by decide +kernel
theorem dX6_tryDeed_110 : decode cX6_tryDeed 110 = .ok (.iconst 1, 1) := by decide +kernel
theorem dX6_tryDeed_111 : decode cX6_tryDeed 111 = .ok (.ireturn, 1) := by decide +kernel
theorem kl_X6_92 : Cond.constantLong RX6 92 (20) ∈ Wd := mW 1008 (by decide +kernel) rfl
theorem kl_X6_94 : Cond.constantLong RX6 94 (30) ∈ Wd := mW 1009 (by decide +kernel) rfl
theorem kl_X6_100 : Cond.constantLong RX6 100 (1000) ∈ Wd := mW 1011 (by decide +kernel) rfl
theorem kl_X6_102 : Cond.constantLong RX6 102 (8999) ∈ Wd := mW 1012 (by decide +kernel) rfl
theorem ml_X6_104 : Cond.methodLink RX6 104 yX6_tryPlan ∈ Wd := mW 1013 (by decide +kernel) rfl
theorem mk_X6_tryPlan : MokV yX6_tryPlan cX6_tryPlan 6 (some .int) 2 := ⟨⟨mW 6 (by decide +kernel) rfl, mW 1016 (by decide +kernel) rfl, ⟨by decide, by decide, by decide +kernel⟩, by decide⟩, mW 1015 (by decide +kernel) rfl, mS (q := (yX6_tryPlan, 5)) 34 (by decide +kernel)⟩
theorem ml_X6_96 : Cond.methodLink RX6 96 yX6_goByPlan ∈ Wd := mW 1010 (by decide +kernel) rfl
theorem kl_X6_87 : Cond.constantLong RX6 87 (16) ∈ Wd := mW 1006 (by decide +kernel) rfl
theorem ml_X6_89 : Cond.methodLink RX6 89 yX6_whyNotMove ∈ Wd := mW 1007 (by decide +kernel) rfl
def Stand_tryDeed (o0 : Nat) (x2 : Int64) (h : Hp) (Q : Int32 → Hp → Prop) : Prop := ∀ J38 : Hp → Prop, J38 = (fun h1 => ∀ J65 : Hp → Prop, J65 = (fun h2 => (¬ x2 = (30 : Int64) → (x2 < (1000 : Int64) → Q 1 h2) ∧ (¬ x2 < (1000 : Int64) → ((8999 : Int64) < x2 → Q 1 h2) ∧ (¬ (8999 : Int64) < x2 → Stand_tryPlan o0 (((x2).toInt32) - 1000) h2 (fun r3 h4 => Q r3 h4)))) ∧ (x2 = (30 : Int64) → Stand_goByPlan o0 h2 (fun h5 => Q 0 h5))) → (x2 < (20 : Int64) → J65 h1) ∧ (¬ x2 < (20 : Int64) → ((30 : Int64) ≤ x2 → J65 h1) ∧ (¬ (30 : Int64) ≤ x2 → ∀ h6 : Hp, h6 = sI h1 o0 3 (((x2).toInt32) - 20) → Q 0 h6))) → (x2 < (0 : Int64) → J38 h) ∧ (¬ x2 < (0 : Int64) → ((16 : Int64) < x2 → J38 h) ∧ (¬ (16 : Int64) < x2 → Stand_whyNotMove o0 ((x2).toInt32) h (fun r7 h8 => (¬ r7 = 0 → Q r7 h8) ∧ (r7 = 0 → Stand_goAlong o0 ((x2).toInt32) h8 (fun h9 => Q r7 h9)))))
set_option maxHeartbeats 4000000 in
set_option maxRecDepth 20000 in
theorem c_Stand_tryDeed {G : Gx} {o0 : Nat} (ho0 : SH o0 = .inl 6) {x2 : Int64} {h : Hp} {Q : Int32 → Hp → Prop} (hw : Stand_tryDeed o0 x2 h Q) : Ct yX6_tryDeed cX6_tryDeed 5 (some .int) 6 G [.ref (gAd G o0), .ref (gAd G 14), .long x2] h (QI G Q) := by
  refine ct_go [(0, .ref (gAd G o0)), (1, .ref (gAd G 14)), (2, .long x2)] (plainFor_of_name (by decide)) rfl (Nat.le_of_ble_eq_true rfl) rfl ?_
  refine g_lload_n dX6_tryDeed_0 rfl rfl ?_
  refine g_lconst (v := (0 : Int64)) dX6_tryDeed_1 (by decide) ?_
  refine jn_el hw (fun J38 eJ38 hw => ?_)
  have hJ38 : ∀ (h1 : Hp), J38 h1 → Go cX6_tryDeed 5 RX6 (some .int) 6 G (QI G Q) 38 [(0, .ref (gAd G o0)), (1, .ref (gAd G 14)), (2, .long x2)] [] h1 := by
    intro h1 hw
    subst eJ38
    refine g_lload_n dX6_tryDeed_38 rfl rfl ?_
    refine g_ldc2 dX6_tryDeed_39 kl_X6_92 ?_
    refine jn_el hw (fun J65 eJ65 hw => ?_)
    have hJ65 : ∀ (h2 : Hp), J65 h2 → Go cX6_tryDeed 5 RX6 (some .int) 6 G (QI G Q) 65 [(0, .ref (gAd G o0)), (1, .ref (gAd G 14)), (2, .long x2)] [] h2 := by
      intro h2 hw
      subst eJ65
      refine g_lload_n dX6_tryDeed_65 rfl rfl ?_
      refine g_ldc2 dX6_tryDeed_66 kl_X6_94 ?_
      refine g_lc_ne 80 dX6_tryDeed_69 dX6_tryDeed_70 rfl (fun hc => ?_) (fun hc => ?_)
      · have hw := hw.1 hc
        refine g_lload_n dX6_tryDeed_80 rfl rfl ?_
        refine g_ldc2 dX6_tryDeed_81 kl_X6_100 ?_
        refine g_lc_lt 110 dX6_tryDeed_84 dX6_tryDeed_85 rfl (fun hc => ?_) (fun hc => ?_)
        · have hw := hw.1 hc
          refine g_iconst (v := 1) dX6_tryDeed_110 (by decide) ?_
          exact g_iret dX6_tryDeed_111 hw
        · have hw := hw.2 hc
          refine g_lload_n dX6_tryDeed_88 rfl rfl ?_
          refine g_ldc2 dX6_tryDeed_89 kl_X6_102 ?_
          refine g_lc_gt 110 dX6_tryDeed_92 dX6_tryDeed_93 rfl (fun hc => ?_) (fun hc => ?_)
          · have hw := hw.1 hc
            refine g_iconst (v := 1) dX6_tryDeed_110 (by decide) ?_
            exact g_iret dX6_tryDeed_111 hw
          · have hw := hw.2 hc
            refine g_aload_n dX6_tryDeed_96 rfl rfl ?_
            refine g_aload_n dX6_tryDeed_97 rfl rfl ?_
            refine g_lload_n dX6_tryDeed_98 rfl rfl ?_
            refine g_l2i dX6_tryDeed_99 ?_
            refine g_sipush (v := 1000) dX6_tryDeed_100 (by decide) ?_
            refine g_isub dX6_tryDeed_103 ?_
            refine g_callVI [.ref (gAd G 14), .int (((x2).toInt32) - 1000)] (ci := 6) dX6_tryDeed_104 ml_X6_104 mk_X6_tryPlan rfl rfl ho0 (Nat.le_of_ble_eq_true rfl) (Nat.le_of_ble_eq_true rfl) rfl (c_Stand_tryPlan ho0 hw) (fun r3 h4 hw => ?_)
            refine g_goto 111 dX6_tryDeed_107 rfl ?_
            exact g_iret dX6_tryDeed_111 hw
      · have hw := hw.2 hc
        refine g_aload_n dX6_tryDeed_73 rfl rfl ?_
        refine g_aload_n dX6_tryDeed_74 rfl rfl ?_
        refine g_callVV [.ref (gAd G 14)] (ci := 6) dX6_tryDeed_75 ml_X6_96 mk_X6_goByPlan rfl rfl ho0 (Nat.le_of_ble_eq_true rfl) (Nat.le_of_ble_eq_true rfl) rfl (c_Stand_goByPlan ho0 hw) (fun h5 hw => ?_)
        refine g_iconst (v := 0) dX6_tryDeed_78 (by decide) ?_
        exact g_iret dX6_tryDeed_79 hw
    refine g_lc_lt 65 dX6_tryDeed_42 dX6_tryDeed_43 rfl (fun hc => ?_) (fun hc => ?_)
    · have hw := hw.1 hc
      exact hJ65 _ hw
    · have hw := hw.2 hc
      refine g_lload_n dX6_tryDeed_46 rfl rfl ?_
      refine g_ldc2 dX6_tryDeed_47 kl_X6_94 ?_
      refine g_lc_ge 65 dX6_tryDeed_50 dX6_tryDeed_51 rfl (fun hc => ?_) (fun hc => ?_)
      · have hw := hw.1 hc
        exact hJ65 _ hw
      · have hw := hw.2 hc
        refine g_aload_n dX6_tryDeed_54 rfl rfl ?_
        refine g_lload_n dX6_tryDeed_55 rfl rfl ?_
        refine g_l2i dX6_tryDeed_56 ?_
        refine g_bipush (v := 20) dX6_tryDeed_57 (by decide) ?_
        refine g_isub dX6_tryDeed_59 ?_
        refine g_putI dX6_tryDeed_60 fl_X6_22 ho0 rfl rfl pf_6_3 ?_
        refine g_heap (fun h6 eh6 => ?_)
        have hw := hw h6 eh6
        refine g_iconst (v := 0) dX6_tryDeed_63 (by decide) ?_
        exact g_iret dX6_tryDeed_64 hw
  refine g_lc_lt 38 dX6_tryDeed_2 dX6_tryDeed_3 rfl (fun hc => ?_) (fun hc => ?_)
  · have hw := hw.1 hc
    exact hJ38 _ hw
  · have hw := hw.2 hc
    refine g_lload_n dX6_tryDeed_6 rfl rfl ?_
    refine g_ldc2 dX6_tryDeed_7 kl_X6_87 ?_
    refine g_lc_gt 38 dX6_tryDeed_10 dX6_tryDeed_11 rfl (fun hc => ?_) (fun hc => ?_)
    · have hw := hw.1 hc
      exact hJ38 _ hw
    · have hw := hw.2 hc
      refine g_aload_n dX6_tryDeed_14 rfl rfl ?_
      refine g_aload_n dX6_tryDeed_15 rfl rfl ?_
      refine g_lload_n dX6_tryDeed_16 rfl rfl ?_
      refine g_l2i dX6_tryDeed_17 ?_
      refine g_callVI [.ref (gAd G 14), .int ((x2).toInt32)] (ci := 6) dX6_tryDeed_18 ml_X6_89 mk_X6_whyNotMove rfl rfl ho0 (Nat.le_of_ble_eq_true rfl) (Nat.le_of_ble_eq_true rfl) rfl (c_Stand_whyNotMove ho0 hw) (fun r7 h8 hw => ?_)
      refine g_istore dX6_tryDeed_21 (by decide) (lv1 := [(0, .ref (gAd G o0)), (1, .ref (gAd G 14)), (2, .long x2), (4, .int r7)]) rfl ?_
      refine g_iload dX6_tryDeed_23 rfl ?_
      refine g_if_ne 35 dX6_tryDeed_25 rfl (fun hc => ?_) (fun hc => ?_)
      · have hw := hw.1 hc
        refine g_iload dX6_tryDeed_35 rfl ?_
        exact g_iret dX6_tryDeed_37 hw
      · have hw := hw.2 hc
        refine g_aload_n dX6_tryDeed_28 rfl rfl ?_
        refine g_aload_n dX6_tryDeed_29 rfl rfl ?_
        refine g_lload_n dX6_tryDeed_30 rfl rfl ?_
        refine g_l2i dX6_tryDeed_31 ?_
        refine g_callVV [.ref (gAd G 14), .int ((x2).toInt32)] (ci := 6) dX6_tryDeed_32 ml_X6_83 mk_X6_goAlong rfl rfl ho0 (Nat.le_of_ble_eq_true rfl) (Nat.le_of_ble_eq_true rfl) rfl (c_Stand_goAlong ho0 hw) (fun h9 hw => ?_)
        refine g_iload dX6_tryDeed_35 rfl ?_
        exact g_iret dX6_tryDeed_37 hw
theorem dX6_doAll_0 : decode cX6_doAll 0 = .ok (.iconst 0, 1) := by decide +kernel
theorem dX6_doAll_1 : decode cX6_doAll 1 = .ok (.istore_n 3, 1) := by decide +kernel
theorem dX6_doAll_2 : decode cX6_doAll 2 = .ok (.iload_n 3, 1) := by decide +kernel
theorem dX6_doAll_3 : decode cX6_doAll 3 = .ok (.aload_n 2, 1) := by decide +kernel
theorem dX6_doAll_4 : decode cX6_doAll 4 = .ok (.getfield 115, 3) := by decide +kernel
theorem dX6_doAll_7 : decode cX6_doAll 7 = .ok (.if_icmp .ge 24, 3) := by decide +kernel
theorem dX6_doAll_10 : decode cX6_doAll 10 = .ok (.aload_n 0, 1) := by decide +kernel
theorem dX6_doAll_11 : decode cX6_doAll 11 = .ok (.aload_n 1, 1) := by decide +kernel
theorem dX6_doAll_12 : decode cX6_doAll 12 = .ok (.aload_n 2, 1) := by decide +kernel
theorem dX6_doAll_13 : decode cX6_doAll 13 = .ok (.iload_n 3, 1) := by decide +kernel
theorem dX6_doAll_14 : decode cX6_doAll 14 = .ok (.invokevirtual 120, 3) := by decide +kernel
theorem dX6_doAll_17 : decode cX6_doAll 17 = .ok (.invokevirtual 124, 3) := by decide +kernel
theorem dX6_doAll_20 : decode cX6_doAll 20 = .ok (.ifCond .eq 5, 3) := by decide +kernel
theorem dX6_doAll_23 : decode cX6_doAll 23 = .ok (.iload_n 3, 1) := by decide +kernel
theorem dX6_doAll_24 : decode cX6_doAll 24 = .ok (.ireturn, 1) := by decide +kernel
theorem dX6_doAll_25 : decode cX6_doAll 25 = .ok (.iinc 3 1, 3) := by decide +kernel
theorem dX6_doAll_28 : decode cX6_doAll 28 = .ok (.goto (-26), 3) := by decide +kernel
theorem dX6_doAll_31 : decode cX6_doAll 31 = .ok (.aload_n 2, 1) := by decide +kernel
theorem dX6_doAll_32 : decode cX6_doAll 32 = .ok (.getfield 115, 3) := by decide +kernel
theorem dX6_doAll_35 : decode cX6_doAll 35 = .ok (.ireturn, 1) := by decide +kernel
theorem fl_X6_115 : FLk RX6 115 10 1 := ⟨_, rfl, by decide, mW 368 (by decide +kernel) rfl⟩
theorem ml_X6_120 : Cond.methodLink RX6 120 yX10_number ∈ Wd := mW 998 (by decide +kernel) rfl
theorem mk_X10_number : MokV yX10_number cX10_number 2 (some .long) 1 := ⟨⟨mW 13 (by decide +kernel) rfl, mW 1001 (by decide +kernel) rfl, ⟨by decide, by decide, by decide +kernel⟩, by decide⟩, mW 999 (by decide +kernel) rfl, mW 1000 (by decide +kernel) rfl⟩
theorem ml_X6_124 : Cond.methodLink RX6 124 yX6_tryDeed ∈ Wd := mW 1002 (by decide +kernel) rfl
theorem mk_X6_tryDeed : MokV yX6_tryDeed cX6_tryDeed 5 (some .int) 2 := ⟨⟨mW 6 (by decide +kernel) rfl, mW 1005 (by decide +kernel) rfl, ⟨by decide, by decide, by decide +kernel⟩, by decide⟩, mW 1003 (by decide +kernel) rfl, mW 1004 (by decide +kernel) rfl⟩
def Stand_doAll_L2 (o0 : Nat) (o2 : Nat) (Q : Int32 → Hp → Prop) : Nat → Int32 → Hp → Prop
  | 0, _, _ => False
  | n + 1, x3, h => ((gI h o2 1) ≤ x3 → Q (gI h o2 1) h) ∧ (¬ (gI h o2 1) ≤ x3 → Tray_number o2 x3 h (fun r1 h2 => Stand_tryDeed o0 r1 h2 (fun r3 h4 => (r3 = 0 → ∀ v5 : Int32, v5 = (x3 + 1) → Stand_doAll_L2 o0 o2 Q n v5 h4) ∧ (¬ r3 = 0 → Q x3 h4))))
set_option maxHeartbeats 4000000 in
set_option maxRecDepth 20000 in
theorem gl_Stand_doAll_L2 {G : Gx} {o0 : Nat} (ho0 : SH o0 = .inl 6) {o2 : Nat} (ho2 : SH o2 = .inl 10) {Q : Int32 → Hp → Prop} : ∀ (n : Nat) (x3 : Int32) (h : Hp), Stand_doAll_L2 o0 o2 Q n x3 h → Go cX6_doAll 4 RX6 (some .int) 7 G (QI G Q) 2 [(0, .ref (gAd G o0)), (1, .ref (gAd G 14)), (2, .ref (gAd G o2)), (3, .int x3)] [] h := by
  intro n
  induction n with
  | zero => intro _ h hw; exact False.elim hw
  | succ n ih =>
    intro x3 h hw
    refine g_iload_n dX6_doAll_2 rfl rfl ?_
    refine g_aload_n dX6_doAll_3 rfl rfl ?_
    refine g_getI dX6_doAll_4 fl_X6_115 ho2 rfl ?_
    refine g_icmp_ge 31 dX6_doAll_7 rfl (fun hc => ?_) (fun hc => ?_)
    · have hw := hw.1 hc
      refine g_aload_n dX6_doAll_31 rfl rfl ?_
      refine g_getI dX6_doAll_32 fl_X6_115 ho2 rfl ?_
      exact g_iret dX6_doAll_35 hw
    · have hw := hw.2 hc
      refine g_aload_n dX6_doAll_10 rfl rfl ?_
      refine g_aload_n dX6_doAll_11 rfl rfl ?_
      refine g_aload_n dX6_doAll_12 rfl rfl ?_
      refine g_iload_n dX6_doAll_13 rfl rfl ?_
      refine g_callVJ [.int x3] (ci := 10) dX6_doAll_14 ml_X6_120 mk_X10_number rfl rfl ho2 (Nat.le_of_ble_eq_true rfl) (Nat.le_of_ble_eq_true rfl) rfl (c_Tray_number ho2 hw) (fun r1 h2 hw => ?_)
      refine g_callVI [.ref (gAd G 14), .long r1] (ci := 6) dX6_doAll_17 ml_X6_124 mk_X6_tryDeed rfl rfl ho0 (Nat.le_of_ble_eq_true rfl) (Nat.le_of_ble_eq_true rfl) rfl (c_Stand_tryDeed ho0 hw) (fun r3 h4 hw => ?_)
      refine g_if_eq 25 dX6_doAll_20 rfl (fun hc => ?_) (fun hc => ?_)
      · have hw := hw.1 hc
        obtain ⟨v5, ev5⟩ : ∃ y : Int32, y = (x3 + 1) := ⟨_, rfl⟩
        have hw := hw v5 ev5
        refine g_iinc dX6_doAll_25 rfl (by rw [ev5]; rfl) (by decide) (lv1 := [(0, .ref (gAd G o0)), (1, .ref (gAd G 14)), (2, .ref (gAd G o2)), (3, .int v5)]) rfl ?_
        refine g_goto 2 dX6_doAll_28 rfl ?_
        exact ih _ _ hw
      · have hw := hw.2 hc
        refine g_iload_n dX6_doAll_23 rfl rfl ?_
        exact g_iret dX6_doAll_24 hw
def Stand_doAll (o0 : Nat) (o2 : Nat) (h : Hp) (Q : Int32 → Hp → Prop) : Prop := ∃ n6, Stand_doAll_L2 o0 o2 Q n6 0 h
set_option maxHeartbeats 4000000 in
set_option maxRecDepth 20000 in
theorem c_Stand_doAll {G : Gx} {o0 : Nat} (ho0 : SH o0 = .inl 6) {o2 : Nat} (ho2 : SH o2 = .inl 10)  {h : Hp} {Q : Int32 → Hp → Prop} (hw : Stand_doAll o0 o2 h Q) : Ct yX6_doAll cX6_doAll 4 (some .int) 7 G [.ref (gAd G o0), .ref (gAd G 14), .ref (gAd G o2)] h (QI G Q) := by
  refine ct_go [(0, .ref (gAd G o0)), (1, .ref (gAd G 14)), (2, .ref (gAd G o2))] (plainFor_of_name (by decide)) rfl (Nat.le_of_ble_eq_true rfl) rfl ?_
  refine g_iconst (v := 0) dX6_doAll_0 (by decide) ?_
  refine g_istore_n dX6_doAll_1 rfl (by decide) (lv1 := [(0, .ref (gAd G o0)), (1, .ref (gAd G 14)), (2, .ref (gAd G o2)), (3, .int 0)]) rfl ?_
  obtain ⟨n6, hw⟩ := hw
  refine gl_Stand_doAll_L2 ho0 ho2  _ _ _ hw
theorem dX11_judge_0 : decode cX11_judge 0 = .ok (.iload_n 1, 1) := by decide +kernel
theorem dX11_judge_1 : decode cX11_judge 1 = .ok (.invokestatic 224, 3) := by decide +kernel
theorem dX11_judge_4 : decode cX11_judge 4 = .ok (.ifCond .eq 12, 3) := by decide +kernel
theorem dX11_judge_7 : decode cX11_judge 7 = .ok (.iload_n 2, 1) := by decide +kernel
theorem dX11_judge_8 : decode cX11_judge 8 = .ok (.ifCond .lt 8, 3) := by decide +kernel
theorem dX11_judge_11 : decode cX11_judge 11 = .ok (.iload_n 2, 1) := by decide +kernel
theorem dX11_judge_12 : decode cX11_judge 12 = .ok (.iconst 3, 1) := by decide +kernel
theorem dX11_judge_13 : decode cX11_judge 13 = .ok (.if_icmp .le 6, 3) := by decide +kernel
theorem dX11_judge_16 : decode cX11_judge 16 = .ok (.bipush (-2), 2) := by decide +kernel
theorem dX11_judge_18 : decode cX11_judge 18 = .ok (.ireturn, 1) := by decide +kernel
theorem dX11_judge_19 : decode cX11_judge 19 = .ok (.aload_n 0, 1) := by decide +kernel
theorem dX11_judge_20 : decode cX11_judge 20 = .ok (.getfield 50, 3) := by decide +kernel
theorem dX11_judge_23 : decode cX11_judge 23 = .ok (.iload_n 1, 1) := by decide +kernel
theorem dX11_judge_24 : decode cX11_judge 24 = .ok (.aaload, 1) := by decide +kernel
theorem dX11_judge_25 : decode cX11_judge 25 = .ok (.astore_n 3, 1) := by decide +kernel
theorem dX11_judge_26 : decode cX11_judge 26 = .ok (.aload_n 3, 1) := by decide +kernel
theorem dX11_judge_27 : decode cX11_judge 27 = .ok (.invokevirtual 227, 3) := by decide +kernel
theorem dX11_judge_30 : decode cX11_judge 30 = .ok (.ifCond .eq 6, 3) := by decide +kernel
theorem dX11_judge_33 : decode cX11_judge 33 = .ok (.bipush (-6), 2) := by decide +kernel
theorem dX11_judge_35 : decode cX11_judge 35 = .ok (.ireturn, 1) := by decide +kernel
theorem dX11_judge_36 : decode cX11_judge 36 = .ok (.aload_n 0, 1) := by decide +kernel
theorem dX11_judge_37 : decode cX11_judge 37 = .ok (.getfield 38, 3) := by decide +kernel
theorem dX11_judge_40 : decode cX11_judge 40 = .ok (.aload_n 0, 1) := by decide +kernel
theorem dX11_judge_41 : decode cX11_judge 41 = .ok (.getfield 34, 3) := by decide +kernel
theorem dX11_judge_44 : decode cX11_judge 44 = .ok (.invokevirtual 231, 3) := by decide +kernel
theorem dX11_judge_47 : decode cX11_judge 47 = .ok (.aload_n 0, 1) := by decide +kernel
theorem dX11_judge_48 : decode cX11_judge 48 = .ok (.getfield 38, 3) := by decide +kernel
theorem dX11_judge_51 : decode cX11_judge 51 = .ok (.aload_n 0, 1) := by decide +kernel
theorem dX11_judge_52 : decode cX11_judge 52 = .ok (.getfield 27, 3) := by decide +kernel
theorem dX11_judge_55 : decode cX11_judge 55 = .ok (.aload_n 3, 1) := by decide +kernel
theorem dX11_judge_56 : decode cX11_judge 56 = .ok (.invokevirtual 234, 3) := by decide +kernel
theorem dX11_judge_59 : decode cX11_judge 59 = .ok (.istore 4, 2) := by decide +kernel
theorem dX11_judge_61 : decode cX11_judge 61 = .ok (.iload_n 2, 1) := by decide +kernel
theorem dX11_judge_62 : decode cX11_judge 62 = .ok (.iconst 2, 1) := by decide +kernel
theorem dX11_judge_63 : decode cX11_judge 63 = .ok (.if_icmp .ne 11, 3) := by decide +kernel
theorem dX11_judge_66 : decode cX11_judge 66 = .ok (.aload_n 0, 1) := by decide +kernel
theorem dX11_judge_67 : decode cX11_judge 67 = .ok (.getfield 38, 3) := by decide +kernel
theorem dX11_judge_70 : decode cX11_judge 70 = .ok (.getfield 238, 3) := by decide +kernel
theorem dX11_judge_73 : decode cX11_judge 73 = .ok (.ireturn, 1) := by decide +kernel
theorem dX11_judge_74 : decode cX11_judge 74 = .ok (.iload_n 2, 1) := by decide +kernel
theorem dX11_judge_75 : decode cX11_judge 75 = .ok (.iconst 3, 1) := by decide +kernel
theorem dX11_judge_76 : decode cX11_judge 76 = .ok (.if_icmp .ne 16, 3) := by decide +kernel
theorem dX11_judge_79 : decode cX11_judge 79 = .ok (.aload_n 0, 1) := by decide +kernel
theorem dX11_judge_80 : decode cX11_judge 80 = .ok (.getfield 38, 3) := by decide +kernel
theorem dX11_judge_83 : decode cX11_judge 83 = .ok (.getfield 181, 3) := by decide +kernel
theorem dX11_judge_86 : decode cX11_judge 86 = .ok (.ldc2_w 241, 3) := by decide +kernel
theorem dX11_judge_89 : decode cX11_judge 89 = .ok (.ladd, 1) := by decide +kernel
theorem dX11_judge_90 : decode cX11_judge 90 = .ok (.l2i, 1) := by decide +kernel
theorem dX11_judge_91 : decode cX11_judge 91 = .ok (.ireturn, 1) := by decide +kernel
theorem dX11_judge_92 : decode cX11_judge 92 = .ok (.iload 4, 2) := by decide +kernel
theorem dX11_judge_94 : decode cX11_judge 94 = .ok (.aload_n 3, 1) := by decide +kernel
theorem dX11_judge_95 : decode cX11_judge 95 = .ok (.getfield 243, 3) := by decide +kernel
theorem dX11_judge_98 : decode cX11_judge 98 = .ok (.if_icmp .lt 7, 3) := by decide +kernel
theorem dX11_judge_101 : decode cX11_judge 101 = .ok (.iconst 1, 1) := by decide +kernel
theorem dX11_judge_102 : decode cX11_judge 102 = .ok (.goto 4, 3) := by decide +kernel
theorem dX11_judge_105 : decode cX11_judge 105 = .ok (.iconst 0, 1) := by decide +kernel
theorem dX11_judge_106 : decode cX11_judge 106 = .ok (.istore 5, 2) := by decide +kernel
theorem dX11_judge_108 : decode cX11_judge 108 = .ok (.iload_n 2, 1) := by decide +kernel
theorem dX11_judge_109 : decode cX11_judge 109 = .ok (.ifCond .ne 15, 3) := by decide +kernel
theorem dX11_judge_112 : decode cX11_judge 112 = .ok (.iload 5, 2) := by decide +kernel
theorem dX11_judge_114 : decode cX11_judge 114 = .ok (.ifCond .eq 7, 3) := by decide +kernel
theorem dX11_judge_117 : decode cX11_judge 117 = .ok (.iconst (-1), 1) := by decide +kernel
theorem dX11_judge_118 : decode cX11_judge 118 = .ok (.goto 5, 3) := by decide +kernel
theorem dX11_judge_121 : decode cX11_judge 121 = .ok (.iload 4, 2) := by decide +kernel
theorem dX11_judge_123 : decode cX11_judge 123 = .ok (.ireturn, 1) := by decide +kernel
theorem dX11_judge_124 : decode cX11_judge 124 = .ok (.iload 5, 2) := by decide +kernel
theorem dX11_judge_126 : decode cX11_judge 126 = .ok (.ifCond .eq 7, 3) := by decide +kernel
theorem dX11_judge_129 : decode cX11_judge 129 = .ok (.iconst 0, 1) := by decide +kernel
theorem dX11_judge_130 : decode cX11_judge 130 = .ok (.goto 20, 3) := by decide +kernel
theorem dX11_judge_133 : decode cX11_judge 133 = .ok (.aload_n 0, 1) := by decide +kernel
theorem dX11_judge_134 : decode cX11_judge 134 = .ok (.getfield 38, 3) := by decide +kernel
theorem dX11_judge_137 : decode cX11_judge 137 = .ok (.aload_n 0, 1) := by decide +kernel
theorem dX11_judge_138 : decode cX11_judge 138 = .ok (.getfield 27, 3) := by decide +kernel
theorem dX11_judge_141 : decode cX11_judge 141 = .ok (.aload_n 3, 1) := by decide +kernel
theorem dX11_judge_142 : decode cX11_judge 142 = .ok (.iload 4, 2) := by decide +kernel
theorem dX11_judge_144 : decode cX11_judge 144 = .ok (.invokevirtual 244, 3) := by decide +kernel
theorem dX11_judge_147 : decode cX11_judge 147 = .ok (.invokevirtual 248, 3) := by decide +kernel
theorem dX11_judge_150 : decode cX11_judge 150 = .ok (.ireturn, 1) := by decide +kernel
theorem ml_X11_224 : Cond.methodLink RX11 224 yX11_isTray ∈ Wd := mW 986 (by decide +kernel) rfl
theorem mk_X11_isTray : MokS yX11_isTray cX11_isTray 1 (some .boolean) 1 := ⟨⟨mW 1 (by decide +kernel) rfl, mW 988 (by decide +kernel) rfl, ⟨by decide, by decide, by decide +kernel⟩, by decide⟩, mW 987 (by decide +kernel) rfl⟩
theorem fl_X11_50 : FLk RX11 50 11 7 := ⟨_, rfl, by decide, mW 386 (by decide +kernel) rfl⟩
theorem ml_X11_227 : Cond.methodLink RX11 227 yX10_isMissing ∈ Wd := mW 989 (by decide +kernel) rfl
theorem mk_X10_isMissing : MokV yX10_isMissing cX10_isMissing 1 (some .boolean) 0 := ⟨⟨mW 13 (by decide +kernel) rfl, mW 992 (by decide +kernel) rfl, ⟨by decide, by decide, by decide +kernel⟩, by decide⟩, mW 990 (by decide +kernel) rfl, mW 991 (by decide +kernel) rfl⟩
theorem fl_X11_38 : FLk RX11 38 11 5 := ⟨_, rfl, by decide, mW 384 (by decide +kernel) rfl⟩
theorem ml_X11_231 : Cond.methodLink RX11 231 yX6_copy ∈ Wd := mW 993 (by decide +kernel) rfl
theorem ml_X11_234 : Cond.methodLink RX11 234 yX6_doAll ∈ Wd := mW 994 (by decide +kernel) rfl
theorem mk_X6_doAll : MokV yX6_doAll cX6_doAll 4 (some .int) 2 := ⟨⟨mW 6 (by decide +kernel) rfl, mW 997 (by decide +kernel) rfl, ⟨by decide, by decide, by decide +kernel⟩, by decide⟩, mW 995 (by decide +kernel) rfl, mW 996 (by decide +kernel) rfl⟩
theorem fl_X11_243 : FLk RX11 243 10 1 := ⟨_, rfl, by decide, mW 369 (by decide +kernel) rfl⟩
theorem ml_X11_244 : Cond.methodLink RX11 244 yX10_number ∈ Wd := mW 1020 (by decide +kernel) rfl
theorem ml_X11_248 : Cond.methodLink RX11 248 yX6_tryDeed ∈ Wd := mW 1021 (by decide +kernel) rfl
theorem kl_X11_241 : Cond.constantLong RX11 241 (1000000) ∈ Wd := mW 1019 (by decide +kernel) rfl
theorem fl_X11_238 : FLk RX11 238 6 0 := ⟨_, rfl, by decide, mW 199 (by decide +kernel) rfl⟩
def C_judge (x1 : Int32) (x2 : Int32) (h : Hp) (Q : Int32 → Hp → Prop) : Prop := C_isTray x1 h (fun r1 h2 => (r1 = 0 → Q (-2) h2) ∧ (¬ r1 = 0 → (x2 < 0 → Q (-2) h2) ∧ (¬ x2 < 0 → (x2 ≤ 3 → vp_in x1 4 ∧ Tray_isMissing (rf 46 (x1).toNatClampNeg) h2 (fun r4 h5 => (r4 = 0 → Stand_copy 22 20 h5 (fun h6 => Stand_doAll 22 (rf 46 (x1).toNatClampNeg) h6 (fun r7 h8 => (¬ x2 = 2 → (¬ x2 = 3 → ∀ J106 : Int32 → Hp → Prop, J106 = (fun s9 h10 => (¬ x2 = 0 → (s9 = 0 → Tray_number (rf 46 (x1).toNatClampNeg) r7 h10 (fun r11 h12 => Stand_tryDeed 22 r11 h12 (fun r13 h14 => Q r13 h14))) ∧ (¬ s9 = 0 → Q 0 h10)) ∧ (x2 = 0 → (s9 = 0 → Q r7 h10) ∧ (¬ s9 = 0 → Q (-1) h10))) → (r7 < (gI h8 (rf 46 (x1).toNatClampNeg) 1) → J106 0 h8) ∧ (¬ r7 < (gI h8 (rf 46 (x1).toNatClampNeg) 1) → J106 1 h8)) ∧ (x2 = 3 → Q ((((gJ h8 22 1) + (1000000 : Int64))).toInt32) h8)) ∧ (x2 = 2 → Q (gI h8 22 0) h8)))) ∧ (¬ r4 = 0 → Q (-6) h5))) ∧ (¬ x2 ≤ 3 → Q (-2) h2))))
set_option maxHeartbeats 4000000 in
set_option maxRecDepth 20000 in
theorem c_C_judge {G : Gx}  {x1 : Int32} {x2 : Int32} {h : Hp} {Q : Int32 → Hp → Prop} (hw : C_judge x1 x2 h Q) : Ct yX11_judge cX11_judge 6 (some .int) 8 G [.ref (gAd G 0), .int x1, .int x2] h (QI G Q) := by
  refine ct_go [(0, .ref (gAd G 0)), (1, .int x1), (2, .int x2)] (plainFor_of_name (by decide)) rfl (Nat.le_of_ble_eq_true rfl) rfl ?_
  refine g_iload_n dX11_judge_0 rfl rfl ?_
  refine g_callSI [.int x1] dX11_judge_1 ml_X11_224 mk_X11_isTray rfl (Nat.le_of_ble_eq_true rfl) (Nat.le_of_ble_eq_true rfl) rfl (c_C_isTray hw) (fun r1 h2 hw => ?_)
  refine g_if_eq 16 dX11_judge_4 rfl (fun hc => ?_) (fun hc => ?_)
  · have hw := hw.1 hc
    refine g_bipush (v := (-2)) dX11_judge_16 (by decide) ?_
    exact g_iret dX11_judge_18 hw
  · have hw := hw.2 hc
    refine g_iload_n dX11_judge_7 rfl rfl ?_
    refine g_if_lt 16 dX11_judge_8 rfl (fun hc => ?_) (fun hc => ?_)
    · have hw := hw.1 hc
      refine g_bipush (v := (-2)) dX11_judge_16 (by decide) ?_
      exact g_iret dX11_judge_18 hw
    · have hw := hw.2 hc
      refine g_iload_n dX11_judge_11 rfl rfl ?_
      refine g_iconst (v := 3) dX11_judge_12 (by decide) ?_
      refine g_icmp_le 19 dX11_judge_13 rfl (fun hc => ?_) (fun hc => ?_)
      · have hw := hw.1 hc
        refine g_aload_n dX11_judge_19 rfl rfl ?_
        refine g_getA dX11_judge_20 fl_X11_50 sh0 rfl ?_
        refine g_iload_n dX11_judge_23 rfl rfl ?_
        refine g_aald dX11_judge_24 ia46 (by decide) al46 hw.1 ?_
        have hi3 := hw.1
        have hw := hw.2
        refine g_astore_n dX11_judge_25 rfl (by decide) (lv1 := [(0, .ref (gAd G 0)), (1, .int x1), (2, .int x2), (3, .ref (gAd G (rf 46 (x1).toNatClampNeg)))]) rfl ?_
        refine g_aload_n dX11_judge_26 rfl rfl ?_
        refine g_callVI [] (ci := 10) dX11_judge_27 ml_X11_227 mk_X10_isMissing rfl rfl (rf_e ia46 (by rw [al46]; exact vp_lt hi3) (by decide)) (Nat.le_of_ble_eq_true rfl) (Nat.le_of_ble_eq_true rfl) rfl (c_Tray_isMissing (rf_e ia46 (by rw [al46]; exact vp_lt hi3) (by decide)) hw) (fun r4 h5 hw => ?_)
        refine g_if_eq 36 dX11_judge_30 rfl (fun hc => ?_) (fun hc => ?_)
        · have hw := hw.1 hc
          refine g_aload_n dX11_judge_36 rfl rfl ?_
          refine g_getO dX11_judge_37 fl_X11_38 sh0 rfl ?_
          refine g_aload_n dX11_judge_40 rfl rfl ?_
          refine g_getO dX11_judge_41 fl_X11_34 sh0 rfl ?_
          refine g_callVV [.ref (gAd G 20)] (ci := 6) dX11_judge_44 ml_X11_231 mk_X6_copy rfl rfl sh22 (Nat.le_of_ble_eq_true rfl) (Nat.le_of_ble_eq_true rfl) rfl (c_Stand_copy sh22 sh20 hw) (fun h6 hw => ?_)
          refine g_aload_n dX11_judge_47 rfl rfl ?_
          refine g_getO dX11_judge_48 fl_X11_38 sh0 rfl ?_
          refine g_aload_n dX11_judge_51 rfl rfl ?_
          refine g_getO dX11_judge_52 fl_X11_27 sh0 rfl ?_
          refine g_aload_n dX11_judge_55 rfl rfl ?_
          refine g_callVI [.ref (gAd G 14), .ref (gAd G (rf 46 (x1).toNatClampNeg))] (ci := 6) dX11_judge_56 ml_X11_234 mk_X6_doAll rfl rfl sh22 (Nat.le_of_ble_eq_true rfl) (Nat.le_of_ble_eq_true rfl) rfl (c_Stand_doAll sh22 (rf_e ia46 (by rw [al46]; exact vp_lt hi3) (by decide)) hw) (fun r7 h8 hw => ?_)
          refine g_istore dX11_judge_59 (by decide) (lv1 := [(0, .ref (gAd G 0)), (1, .int x1), (2, .int x2), (3, .ref (gAd G (rf 46 (x1).toNatClampNeg))), (4, .int r7)]) rfl ?_
          refine g_iload_n dX11_judge_61 rfl rfl ?_
          refine g_iconst (v := 2) dX11_judge_62 (by decide) ?_
          refine g_icmp_ne 74 dX11_judge_63 rfl (fun hc => ?_) (fun hc => ?_)
          · have hw := hw.1 hc
            refine g_iload_n dX11_judge_74 rfl rfl ?_
            refine g_iconst (v := 3) dX11_judge_75 (by decide) ?_
            refine g_icmp_ne 92 dX11_judge_76 rfl (fun hc => ?_) (fun hc => ?_)
            · have hw := hw.1 hc
              refine g_iload dX11_judge_92 rfl ?_
              refine g_aload_n dX11_judge_94 rfl rfl ?_
              refine g_getI dX11_judge_95 fl_X11_243 (rf_e ia46 (by rw [al46]; exact vp_lt hi3) (by decide)) rfl ?_
              refine jn_el hw (fun J106 eJ106 hw => ?_)
              have hJ106 : ∀ (s9 : Int32) (h10 : Hp), J106 s9 h10 → Go cX11_judge 6 RX11 (some .int) 8 G (QI G Q) 106 [(0, .ref (gAd G 0)), (2, .int x2), (3, .ref (gAd G (rf 46 (x1).toNatClampNeg))), (4, .int r7)] [.int s9] h10 := by
                intro s9 h10 hw
                subst eJ106
                refine g_istore dX11_judge_106 (by decide) (lv1 := [(0, .ref (gAd G 0)), (2, .int x2), (3, .ref (gAd G (rf 46 (x1).toNatClampNeg))), (4, .int r7), (5, .int s9)]) rfl ?_
                refine g_iload_n dX11_judge_108 rfl rfl ?_
                refine g_if_ne 124 dX11_judge_109 rfl (fun hc => ?_) (fun hc => ?_)
                · have hw := hw.1 hc
                  refine g_iload dX11_judge_124 rfl ?_
                  refine g_if_eq 133 dX11_judge_126 rfl (fun hc => ?_) (fun hc => ?_)
                  · have hw := hw.1 hc
                    refine g_aload_n dX11_judge_133 rfl rfl ?_
                    refine g_getO dX11_judge_134 fl_X11_38 sh0 rfl ?_
                    refine g_aload_n dX11_judge_137 rfl rfl ?_
                    refine g_getO dX11_judge_138 fl_X11_27 sh0 rfl ?_
                    refine g_aload_n dX11_judge_141 rfl rfl ?_
                    refine g_iload dX11_judge_142 rfl ?_
                    refine g_callVJ [.int r7] (ci := 10) dX11_judge_144 ml_X11_244 mk_X10_number rfl rfl (rf_e ia46 (by rw [al46]; exact vp_lt hi3) (by decide)) (Nat.le_of_ble_eq_true rfl) (Nat.le_of_ble_eq_true rfl) rfl (c_Tray_number (rf_e ia46 (by rw [al46]; exact vp_lt hi3) (by decide)) hw) (fun r11 h12 hw => ?_)
                    refine g_callVI [.ref (gAd G 14), .long r11] (ci := 6) dX11_judge_147 ml_X11_248 mk_X6_tryDeed rfl rfl sh22 (Nat.le_of_ble_eq_true rfl) (Nat.le_of_ble_eq_true rfl) rfl (c_Stand_tryDeed sh22 hw) (fun r13 h14 hw => ?_)
                    exact g_iret dX11_judge_150 hw
                  · have hw := hw.2 hc
                    refine g_iconst (v := 0) dX11_judge_129 (by decide) ?_
                    refine g_goto 150 dX11_judge_130 rfl ?_
                    exact g_iret dX11_judge_150 hw
                · have hw := hw.2 hc
                  refine g_iload dX11_judge_112 rfl ?_
                  refine g_if_eq 121 dX11_judge_114 rfl (fun hc => ?_) (fun hc => ?_)
                  · have hw := hw.1 hc
                    refine g_iload dX11_judge_121 rfl ?_
                    exact g_iret dX11_judge_123 hw
                  · have hw := hw.2 hc
                    refine g_iconst (v := (-1)) dX11_judge_117 (by decide) ?_
                    refine g_goto 123 dX11_judge_118 rfl ?_
                    exact g_iret dX11_judge_123 hw
              refine g_icmp_lt 105 dX11_judge_98 rfl (fun hc => ?_) (fun hc => ?_)
              · have hw := hw.1 hc
                refine g_iconst (v := 0) dX11_judge_105 (by decide) ?_
                refine g_lv [0, 2, 3, 4] rfl ?_
                exact hJ106 _ _ hw
              · have hw := hw.2 hc
                refine g_iconst (v := 1) dX11_judge_101 (by decide) ?_
                refine g_goto 106 dX11_judge_102 rfl ?_
                refine g_lv [0, 2, 3, 4] rfl ?_
                exact hJ106 _ _ hw
            · have hw := hw.2 hc
              refine g_aload_n dX11_judge_79 rfl rfl ?_
              refine g_getO dX11_judge_80 fl_X11_38 sh0 rfl ?_
              refine g_getJ dX11_judge_83 fl_X11_181 sh22 rfl ?_
              refine g_ldc2 dX11_judge_86 kl_X11_241 ?_
              refine g_ladd dX11_judge_89 ?_
              refine g_l2i dX11_judge_90 ?_
              exact g_iret dX11_judge_91 hw
          · have hw := hw.2 hc
            refine g_aload_n dX11_judge_66 rfl rfl ?_
            refine g_getO dX11_judge_67 fl_X11_38 sh0 rfl ?_
            refine g_getI dX11_judge_70 fl_X11_238 sh22 rfl ?_
            exact g_iret dX11_judge_73 hw
        · have hw := hw.2 hc
          refine g_bipush (v := (-6)) dX11_judge_33 (by decide) ?_
          exact g_iret dX11_judge_35 hw
      · have hw := hw.2 hc
        refine g_bipush (v := (-2)) dX11_judge_16 (by decide) ?_
        exact g_iret dX11_judge_18 hw
theorem dX11_perform_0 : decode cX11_perform 0 = .ok (.iload_n 1, 1) := by decide +kernel
theorem dX11_perform_1 : decode cX11_perform 1 = .ok (.invokestatic 224, 3) := by decide +kernel
theorem dX11_perform_4 : decode cX11_perform 4 = .ok (.ifCond .ne 6, 3) := by decide +kernel
theorem dX11_perform_7 : decode cX11_perform 7 = .ok (.bipush (-2), 2) := by decide +kernel
theorem dX11_perform_9 : decode cX11_perform 9 = .ok (.ireturn, 1) := by decide +kernel
theorem dX11_perform_10 : decode cX11_perform 10 = .ok (.aload_n 0, 1) := by decide +kernel
theorem dX11_perform_11 : decode cX11_perform 11 = .ok (.getfield 50, 3) := by decide +kernel
theorem dX11_perform_14 : decode cX11_perform 14 = .ok (.iload_n 1, 1) := by decide +kernel
theorem dX11_perform_15 : decode cX11_perform 15 = .ok (.aaload, 1) := by decide +kernel
theorem dX11_perform_16 : decode cX11_perform 16 = .ok (.astore_n 2, 1) := by decide +kernel
theorem dX11_perform_17 : decode cX11_perform 17 = .ok (.aload_n 2, 1) := by decide +kernel
theorem dX11_perform_18 : decode cX11_perform 18 = .ok (.invokevirtual 227, 3) := by decide +kernel
theorem dX11_perform_21 : decode cX11_perform 21 = .ok (.ifCond .eq 6, 3) := by decide +kernel
theorem dX11_perform_24 : decode cX11_perform 24 = .ok (.bipush (-6), 2) := by decide +kernel
theorem dX11_perform_26 : decode cX11_perform 26 = .ok (.ireturn, 1) := by decide +kernel
theorem dX11_perform_27 : decode cX11_perform 27 = .ok (.aload_n 0, 1) := by decide +kernel
theorem dX11_perform_28 : decode cX11_perform 28 = .ok (.getfield 38, 3) := by decide +kernel
theorem dX11_perform_31 : decode cX11_perform 31 = .ok (.aload_n 0, 1) := by decide +kernel
theorem dX11_perform_32 : decode cX11_perform 32 = .ok (.getfield 34, 3) := by decide +kernel
theorem dX11_perform_35 : decode cX11_perform 35 = .ok (.invokevirtual 231, 3) := by decide +kernel
theorem dX11_perform_38 : decode cX11_perform 38 = .ok (.aload_n 0, 1) := by decide +kernel
theorem dX11_perform_39 : decode cX11_perform 39 = .ok (.getfield 34, 3) := by decide +kernel
theorem dX11_perform_42 : decode cX11_perform 42 = .ok (.aload_n 0, 1) := by decide +kernel
theorem dX11_perform_43 : decode cX11_perform 43 = .ok (.getfield 27, 3) := by decide +kernel
theorem dX11_perform_46 : decode cX11_perform 46 = .ok (.aload_n 2, 1) := by decide +kernel
theorem dX11_perform_47 : decode cX11_perform 47 = .ok (.invokevirtual 234, 3) := by decide +kernel
theorem dX11_perform_50 : decode cX11_perform 50 = .ok (.istore_n 3, 1) := by decide +kernel
theorem dX11_perform_51 : decode cX11_perform 51 = .ok (.iload_n 3, 1) := by decide +kernel
theorem dX11_perform_52 : decode cX11_perform 52 = .ok (.ifCond .le 14, 3) := by decide +kernel
theorem dX11_perform_55 : decode cX11_perform 55 = .ok (.aload_n 0, 1) := by decide +kernel
theorem dX11_perform_56 : decode cX11_perform 56 = .ok (.getfield 44, 3) := by decide +kernel
theorem dX11_perform_59 : decode cX11_perform 59 = .ok (.aload_n 0, 1) := by decide +kernel
theorem dX11_perform_60 : decode cX11_perform 60 = .ok (.getfield 38, 3) := by decide +kernel
theorem dX11_perform_63 : decode cX11_perform 63 = .ok (.invokevirtual 177, 3) := by decide +kernel
theorem dX11_perform_66 : decode cX11_perform 66 = .ok (.iload_n 3, 1) := by decide +kernel
theorem dX11_perform_67 : decode cX11_perform 67 = .ok (.ireturn, 1) := by decide +kernel
def C_perform (x1 : Int32) (h : Hp) (Q : Int32 → Hp → Prop) : Prop := C_isTray x1 h (fun r1 h2 => (¬ r1 = 0 → vp_in x1 4 ∧ Tray_isMissing (rf 46 (x1).toNatClampNeg) h2 (fun r4 h5 => (r4 = 0 → Stand_copy 22 20 h5 (fun h6 => Stand_doAll 20 (rf 46 (x1).toNatClampNeg) h6 (fun r7 h8 => (r7 ≤ 0 → Q r7 h8) ∧ (¬ r7 ≤ 0 → Past_keep 22 h8 (fun h9 => Q r7 h9))))) ∧ (¬ r4 = 0 → Q (-6) h5))) ∧ (r1 = 0 → Q (-2) h2))
set_option maxHeartbeats 4000000 in
set_option maxRecDepth 20000 in
theorem c_C_perform {G : Gx}  {x1 : Int32} {h : Hp} {Q : Int32 → Hp → Prop} (hw : C_perform x1 h Q) : Ct yX11_perform cX11_perform 4 (some .int) 8 G [.ref (gAd G 0), .int x1] h (QI G Q) := by
  refine ct_go [(0, .ref (gAd G 0)), (1, .int x1)] (plainFor_of_name (by decide)) rfl (Nat.le_of_ble_eq_true rfl) rfl ?_
  refine g_iload_n dX11_perform_0 rfl rfl ?_
  refine g_callSI [.int x1] dX11_perform_1 ml_X11_224 mk_X11_isTray rfl (Nat.le_of_ble_eq_true rfl) (Nat.le_of_ble_eq_true rfl) rfl (c_C_isTray hw) (fun r1 h2 hw => ?_)
  refine g_if_ne 10 dX11_perform_4 rfl (fun hc => ?_) (fun hc => ?_)
  · have hw := hw.1 hc
    refine g_aload_n dX11_perform_10 rfl rfl ?_
    refine g_getA dX11_perform_11 fl_X11_50 sh0 rfl ?_
    refine g_iload_n dX11_perform_14 rfl rfl ?_
    refine g_aald dX11_perform_15 ia46 (by decide) al46 hw.1 ?_
    have hi3 := hw.1
    have hw := hw.2
    refine g_astore_n dX11_perform_16 rfl (by decide) (lv1 := [(0, .ref (gAd G 0)), (1, .int x1), (2, .ref (gAd G (rf 46 (x1).toNatClampNeg)))]) rfl ?_
    refine g_aload_n dX11_perform_17 rfl rfl ?_
    refine g_callVI [] (ci := 10) dX11_perform_18 ml_X11_227 mk_X10_isMissing rfl rfl (rf_e ia46 (by rw [al46]; exact vp_lt hi3) (by decide)) (Nat.le_of_ble_eq_true rfl) (Nat.le_of_ble_eq_true rfl) rfl (c_Tray_isMissing (rf_e ia46 (by rw [al46]; exact vp_lt hi3) (by decide)) hw) (fun r4 h5 hw => ?_)
    refine g_if_eq 27 dX11_perform_21 rfl (fun hc => ?_) (fun hc => ?_)
    · have hw := hw.1 hc
      refine g_aload_n dX11_perform_27 rfl rfl ?_
      refine g_getO dX11_perform_28 fl_X11_38 sh0 rfl ?_
      refine g_aload_n dX11_perform_31 rfl rfl ?_
      refine g_getO dX11_perform_32 fl_X11_34 sh0 rfl ?_
      refine g_callVV [.ref (gAd G 20)] (ci := 6) dX11_perform_35 ml_X11_231 mk_X6_copy rfl rfl sh22 (Nat.le_of_ble_eq_true rfl) (Nat.le_of_ble_eq_true rfl) rfl (c_Stand_copy sh22 sh20 hw) (fun h6 hw => ?_)
      refine g_aload_n dX11_perform_38 rfl rfl ?_
      refine g_getO dX11_perform_39 fl_X11_34 sh0 rfl ?_
      refine g_aload_n dX11_perform_42 rfl rfl ?_
      refine g_getO dX11_perform_43 fl_X11_27 sh0 rfl ?_
      refine g_aload_n dX11_perform_46 rfl rfl ?_
      refine g_callVI [.ref (gAd G 14), .ref (gAd G (rf 46 (x1).toNatClampNeg))] (ci := 6) dX11_perform_47 ml_X11_234 mk_X6_doAll rfl rfl sh20 (Nat.le_of_ble_eq_true rfl) (Nat.le_of_ble_eq_true rfl) rfl (c_Stand_doAll sh20 (rf_e ia46 (by rw [al46]; exact vp_lt hi3) (by decide)) hw) (fun r7 h8 hw => ?_)
      refine g_istore_n dX11_perform_50 rfl (by decide) (lv1 := [(0, .ref (gAd G 0)), (1, .int x1), (2, .ref (gAd G (rf 46 (x1).toNatClampNeg))), (3, .int r7)]) rfl ?_
      refine g_iload_n dX11_perform_51 rfl rfl ?_
      refine g_if_le 66 dX11_perform_52 rfl (fun hc => ?_) (fun hc => ?_)
      · have hw := hw.1 hc
        refine g_iload_n dX11_perform_66 rfl rfl ?_
        exact g_iret dX11_perform_67 hw
      · have hw := hw.2 hc
        refine g_aload_n dX11_perform_55 rfl rfl ?_
        refine g_getO dX11_perform_56 fl_X11_44 sh0 rfl ?_
        refine g_aload_n dX11_perform_59 rfl rfl ?_
        refine g_getO dX11_perform_60 fl_X11_38 sh0 rfl ?_
        refine g_callVV [.ref (gAd G 22)] (ci := 4) dX11_perform_63 ml_X11_177 mk_X4_keep rfl rfl sh24 (Nat.le_of_ble_eq_true rfl) (Nat.le_of_ble_eq_true rfl) rfl (c_Past_keep sh22 hw) (fun h9 hw => ?_)
        refine g_iload_n dX11_perform_66 rfl rfl ?_
        exact g_iret dX11_perform_67 hw
    · have hw := hw.2 hc
      refine g_bipush (v := (-6)) dX11_perform_24 (by decide) ?_
      exact g_iret dX11_perform_26 hw
  · have hw := hw.2 hc
    refine g_bipush (v := (-2)) dX11_perform_7 (by decide) ?_
    exact g_iret dX11_perform_9 hw
theorem dX11_nextDraw_0 : decode cX11_nextDraw 0 = .ok (.ldc 255, 2) := by decide +kernel
theorem dX11_nextDraw_2 : decode cX11_nextDraw 2 = .ok (.iload_n 0, 1) := by decide +kernel
theorem dX11_nextDraw_3 : decode cX11_nextDraw 3 = .ok (.imul, 1) := by decide +kernel
theorem dX11_nextDraw_4 : decode cX11_nextDraw 4 = .ok (.sipush 12345, 3) := by decide +kernel
theorem dX11_nextDraw_7 : decode cX11_nextDraw 7 = .ok (.iadd, 1) := by decide +kernel
theorem dX11_nextDraw_8 : decode cX11_nextDraw 8 = .ok (.ireturn, 1) := by decide +kernel
theorem kc_X11_255 : Cond.constant RX11 255 (1103515245) ∈ Wd := mW 1033 (by decide +kernel) rfl
def C_nextDraw (x0 : Int32) (h : Hp) (Q : Int32 → Hp → Prop) : Prop := Q (((1103515245 : Int32) * x0) + 12345) h
set_option maxHeartbeats 4000000 in
set_option maxRecDepth 20000 in
theorem c_C_nextDraw {G : Gx}  {x0 : Int32} {h : Hp} {Q : Int32 → Hp → Prop} (hw : C_nextDraw x0 h Q) : Ct yX11_nextDraw cX11_nextDraw 1 (some .int) 1 G [.int x0] h (QI G Q) := by
  refine ct_go [(0, .int x0)] (plainFor_of_name (by decide)) rfl (Nat.le_of_ble_eq_true rfl) rfl ?_
  refine g_ldc dX11_nextDraw_0 kc_X11_255 ?_
  refine g_iload_n dX11_nextDraw_2 rfl rfl ?_
  refine g_imul dX11_nextDraw_3 ?_
  refine g_sipush (v := 12345) dX11_nextDraw_4 (by decide) ?_
  refine g_iadd dX11_nextDraw_7 ?_
  exact g_iret dX11_nextDraw_8 hw
theorem dX11_journey_0 : decode cX11_journey 0 = .ok (.iload_n 2, 1) := by decide +kernel
theorem dX11_journey_1 : decode cX11_journey 1 = .ok (.iconst 1, 1) := by decide +kernel
theorem dX11_journey_2 : decode cX11_journey 2 = .ok (.if_icmp .lt 9, 3) := by decide +kernel
theorem dX11_journey_5 : decode cX11_journey 5 = .ok (.iload_n 2, 1) := by decide +kernel
theorem dX11_journey_6 : decode cX11_journey 6 = .ok (.bipush 40, 2) := by decide +kernel
theorem dX11_journey_8 : decode cX11_journey 8 = .ok (.if_icmp .le 6, 3) := by decide +kernel
theorem dX11_journey_11 : decode cX11_journey 11 = .ok (.bipush (-3), 2) := by decide +kernel
theorem dX11_journey_13 : decode cX11_journey 13 = .ok (.ireturn, 1) := by decide +kernel
theorem dX11_journey_14 : decode cX11_journey 14 = .ok (.aload_n 0, 1) := by decide +kernel
theorem dX11_journey_15 : decode cX11_journey 15 = .ok (.getfield 38, 3) := by decide +kernel
theorem dX11_journey_18 : decode cX11_journey 18 = .ok (.aload_n 0, 1) := by decide +kernel
theorem dX11_journey_19 : decode cX11_journey 19 = .ok (.getfield 34, 3) := by decide +kernel
theorem dX11_journey_22 : decode cX11_journey 22 = .ok (.invokevirtual 231, 3) := by decide +kernel
theorem dX11_journey_25 : decode cX11_journey 25 = .ok (.iload_n 1, 1) := by decide +kernel
theorem dX11_journey_26 : decode cX11_journey 26 = .ok (.istore_n 3, 1) := by decide +kernel
theorem dX11_journey_27 : decode cX11_journey 27 = .ok (.iconst 0, 1) := by decide +kernel
theorem dX11_journey_28 : decode cX11_journey 28 = .ok (.istore 4, 2) := by decide +kernel
theorem dX11_journey_30 : decode cX11_journey 30 = .ok (.iconst 0, 1) := by decide +kernel
theorem dX11_journey_31 : decode cX11_journey 31 = .ok (.istore 5, 2) := by decide +kernel
theorem dX11_journey_33 : decode cX11_journey 33 = .ok (.iload 5, 2) := by decide +kernel
theorem dX11_journey_35 : decode cX11_journey 35 = .ok (.iload_n 2, 1) := by decide +kernel
theorem dX11_journey_36 : decode cX11_journey 36 = .ok (.if_icmp .ge 93, 3) := by decide +kernel
theorem dX11_journey_39 : decode cX11_journey 39 = .ok (.iload_n 3, 1) := by decide +kernel
theorem dX11_journey_40 : decode cX11_journey 40 = .ok (.invokestatic 252, 3) := by decide +kernel
theorem dX11_journey_43 : decode cX11_journey 43 = .ok (.istore_n 3, 1) := by decide +kernel
theorem dX11_journey_44 : decode cX11_journey 44 = .ok (.iload_n 3, 1) := by decide +kernel
theorem dX11_journey_45 : decode cX11_journey 45 = .ok (.bipush 16, 2) := by decide +kernel
theorem dX11_journey_47 : decode cX11_journey 47 = .ok (.iushr, 1) := by decide +kernel
theorem dX11_journey_48 : decode cX11_journey 48 = .ok (.bipush 6, 2) := by decide +kernel
theorem dX11_journey_50 : decode cX11_journey 50 = .ok (.irem, 1) := by decide +kernel
theorem dX11_journey_51 : decode cX11_journey 51 = .ok (.istore 6, 2) := by decide +kernel
theorem dX11_journey_53 : decode cX11_journey 53 = .ok (.bipush 30, 2) := by decide +kernel
theorem dX11_journey_55 : decode cX11_journey 55 = .ok (.istore 7, 2) := by decide +kernel
theorem dX11_journey_57 : decode cX11_journey 57 = .ok (.iload 6, 2) := by decide +kernel
theorem dX11_journey_59 : decode cX11_journey 59 = .ok (.iconst 3, 1) := by decide +kernel
theorem dX11_journey_60 : decode cX11_journey 60 = .ok (.if_icmp .ge 20, 3) := by decide +kernel
theorem dX11_journey_63 : decode cX11_journey 63 = .ok (.iload_n 3, 1) := by decide +kernel
theorem dX11_journey_64 : decode cX11_journey 64 = .ok (.invokestatic 252, 3) := by decide +kernel
theorem dX11_journey_67 : decode cX11_journey 67 = .ok (.istore_n 3, 1) := by decide +kernel
theorem dX11_journey_68 : decode cX11_journey 68 = .ok (.iload_n 3, 1) := by decide +kernel
theorem dX11_journey_69 : decode cX11_journey 69 = .ok (.bipush 16, 2) := by decide +kernel
theorem dX11_journey_71 : decode cX11_journey 71 = .ok (.iushr, 1) := by decide +kernel
theorem dX11_journey_72 : decode cX11_journey 72 = .ok (.bipush 17, 2) := by decide +kernel
theorem dX11_journey_74 : decode cX11_journey 74 = .ok (.irem, 1) := by decide +kernel
theorem dX11_journey_75 : decode cX11_journey 75 = .ok (.istore 7, 2) := by decide +kernel
theorem dX11_journey_77 : decode cX11_journey 77 = .ok (.goto 26, 3) := by decide +kernel
theorem dX11_journey_80 : decode cX11_journey 80 = .ok (.iload 6, 2) := by decide +kernel
theorem dX11_journey_82 : decode cX11_journey 82 = .ok (.iconst 5, 1) := by decide +kernel
theorem dX11_journey_83 : decode cX11_journey 83 = .ok (.if_icmp .ne 20, 3) := by decide +kernel
theorem dX11_journey_86 : decode cX11_journey 86 = .ok (.iload_n 3, 1) := by decide +kernel
theorem dX11_journey_87 : decode cX11_journey 87 = .ok (.invokestatic 252, 3) := by decide +kernel
theorem dX11_journey_90 : decode cX11_journey 90 = .ok (.istore_n 3, 1) := by decide +kernel
theorem dX11_journey_91 : decode cX11_journey 91 = .ok (.bipush 20, 2) := by decide +kernel
theorem dX11_journey_93 : decode cX11_journey 93 = .ok (.iload_n 3, 1) := by decide +kernel
theorem dX11_journey_94 : decode cX11_journey 94 = .ok (.bipush 16, 2) := by decide +kernel
theorem dX11_journey_96 : decode cX11_journey 96 = .ok (.iushr, 1) := by decide +kernel
theorem dX11_journey_97 : decode cX11_journey 97 = .ok (.bipush 10, 2) := by decide +kernel
theorem dX11_journey_99 : decode cX11_journey 99 = .ok (.irem, 1) := by decide +kernel
theorem dX11_journey_100 : decode cX11_journey 100 = .ok (.iadd, 1) := by decide +kernel
theorem dX11_journey_101 : decode cX11_journey 101 = .ok (.istore 7, 2) := by decide +kernel
theorem dX11_journey_103 : decode cX11_journey 103 = .ok (.aload_n 0, 1) := by decide +kernel
theorem dX11_journey_104 : decode cX11_journey 104 = .ok (.getfield 34, 3) := by decide +kernel
theorem dX11_journey_107 : decode cX11_journey 107 = .ok (.aload_n 0, 1) := by decide +kernel
theorem dX11_journey_108 : decode cX11_journey 108 = .ok (.getfield 27, 3) := by decide +kernel
theorem dX11_journey_111 : decode cX11_journey 111 = .ok (.iload 7, 2) := by decide +kernel
theorem dX11_journey_113 : decode cX11_journey 113 = .ok (.i2l, 1) := by decide +kernel
theorem dX11_journey_114 : decode cX11_journey 114 = .ok (.invokevirtual 248, 3) := by decide +kernel
theorem dX11_journey_117 : decode cX11_journey 117 = .ok (.ifCond .ne 6, 3) := by decide +kernel
theorem dX11_journey_120 : decode cX11_journey 120 = .ok (.iinc 4 1, 3) := by decide +kernel
theorem dX11_journey_123 : decode cX11_journey 123 = .ok (.iinc 5 1, 3) := by decide +kernel
theorem dX11_journey_126 : decode cX11_journey 126 = .ok (.goto (-93), 3) := by decide +kernel
theorem dX11_journey_129 : decode cX11_journey 129 = .ok (.iload 4, 2) := by decide +kernel
theorem dX11_journey_131 : decode cX11_journey 131 = .ok (.ifCond .le 14, 3) := by decide +kernel
theorem dX11_journey_134 : decode cX11_journey 134 = .ok (.aload_n 0, 1) := by decide +kernel
theorem dX11_journey_135 : decode cX11_journey 135 = .ok (.getfield 44, 3) := by decide +kernel
theorem dX11_journey_138 : decode cX11_journey 138 = .ok (.aload_n 0, 1) := by decide +kernel
theorem dX11_journey_139 : decode cX11_journey 139 = .ok (.getfield 38, 3) := by decide +kernel
theorem dX11_journey_142 : decode cX11_journey 142 = .ok (.invokevirtual 177, 3) := by decide +kernel
theorem dX11_journey_145 : decode cX11_journey 145 = .ok (.iload 4, 2) := by decide +kernel
theorem dX11_journey_147 : decode cX11_journey 147 = .ok (.ireturn, 1) := by decide +kernel
theorem ml_X11_252 : Cond.methodLink RX11 252 yX11_nextDraw ∈ Wd := mW 1030 (by decide +kernel) rfl
theorem mk_X11_nextDraw : MokS yX11_nextDraw cX11_nextDraw 1 (some .int) 1 := ⟨⟨mW 1 (by decide +kernel) rfl, mW 1032 (by decide +kernel) rfl, ⟨by decide, by decide, by decide +kernel⟩, by decide⟩, mW 1031 (by decide +kernel) rfl⟩
def C_journey_L33 (x2 : Int32) (K129 : Int32 → Hp → Prop) : Nat → Int32 → Int32 → Int32 → Hp → Prop
  | 0, _, _, _, _ => False
  | n + 1, x3, x4, x5, h => (x2 ≤ x5 → K129 x4 h) ∧ (¬ x2 ≤ x5 → C_nextDraw x3 h (fun r2 h3 => ∀ v4 : Int32, v4 = ((((r2).toUInt32 >>> ((16).toUInt32 &&& Int32.toUInt32 31)).toInt32) - (((r2).toUInt32 >>> ((16).toUInt32 &&& Int32.toUInt32 31)).toInt32) / 6 * 6) → ∀ J103 : Int32 → Int32 → Hp → Prop, J103 = (fun x3_5 x7_6 h7 => Stand_tryDeed 20 ((x7_6).toInt64) h7 (fun r8 h9 => ∀ J123 : Int32 → Hp → Prop, J123 = (fun x4_10 h11 => ∀ v12 : Int32, v12 = (x5 + 1) → C_journey_L33 x2 K129 n x3_5 x4_10 v12 h11) → (¬ r8 = 0 → J123 x4 h9) ∧ (r8 = 0 → ∀ v13 : Int32, v13 = (x4 + 1) → J123 v13 h9))) → (3 ≤ v4 → (¬ v4 = 5 → J103 r2 30 h3) ∧ (v4 = 5 → C_nextDraw r2 h3 (fun r14 h15 => ∀ v16 : Int32, v16 = ((20 : Int32) + ((((r14).toUInt32 >>> ((16).toUInt32 &&& Int32.toUInt32 31)).toInt32) - (((r14).toUInt32 >>> ((16).toUInt32 &&& Int32.toUInt32 31)).toInt32) / 10 * 10)) → J103 r14 v16 h15))) ∧ (¬ 3 ≤ v4 → C_nextDraw r2 h3 (fun r17 h18 => ∀ v19 : Int32, v19 = ((((r17).toUInt32 >>> ((16).toUInt32 &&& Int32.toUInt32 31)).toInt32) - (((r17).toUInt32 >>> ((16).toUInt32 &&& Int32.toUInt32 31)).toInt32) / 17 * 17) → J103 r17 v19 h18))))
set_option maxHeartbeats 4000000 in
set_option maxRecDepth 20000 in
theorem gl_C_journey_L33 {G : Gx}  {x2 : Int32} {Q : Int32 → Hp → Prop} {K129 : Int32 → Hp → Prop} (hK129 : ∀ (y4 : Int32) (h1 : Hp), K129 y4 h1 → Go cX11_journey 8 RX11 (some .int) 7 G (QI G Q) 129 [(0, .ref (gAd G 0)), (4, .int y4)] [] h1) : ∀ (n : Nat) (x3 : Int32) (x4 : Int32) (x5 : Int32) (h : Hp), C_journey_L33 x2 K129 n x3 x4 x5 h → Go cX11_journey 8 RX11 (some .int) 7 G (QI G Q) 33 [(0, .ref (gAd G 0)), (2, .int x2), (3, .int x3), (4, .int x4), (5, .int x5)] [] h := by
  intro n
  induction n with
  | zero => intro _ _ _ h hw; exact False.elim hw
  | succ n ih =>
    intro x3 x4 x5 h hw
    refine g_iload dX11_journey_33 rfl ?_
    refine g_iload_n dX11_journey_35 rfl rfl ?_
    refine g_icmp_ge 129 dX11_journey_36 rfl (fun hc => ?_) (fun hc => ?_)
    · have hw := hw.1 hc
      refine g_lv [0, 3] rfl ?_
      exact hK129 _ _ hw
    · have hw := hw.2 hc
      refine g_iload_n dX11_journey_39 rfl rfl ?_
      refine g_callSI [.int x3] dX11_journey_40 ml_X11_252 mk_X11_nextDraw rfl (Nat.le_of_ble_eq_true rfl) (Nat.le_of_ble_eq_true rfl) rfl (c_C_nextDraw hw) (fun r2 h3 hw => ?_)
      refine g_istore_n dX11_journey_43 rfl (by decide) (lv1 := [(0, .ref (gAd G 0)), (2, .int x2), (3, .int r2), (4, .int x4), (5, .int x5)]) rfl ?_
      refine g_iload_n dX11_journey_44 rfl rfl ?_
      refine g_bipush (v := 16) dX11_journey_45 (by decide) ?_
      refine g_iushr dX11_journey_47 ?_
      refine g_bipush (v := 6) dX11_journey_48 (by decide) ?_
      refine g_irem dX11_journey_50 (by decide) ?_
      refine g_topi (fun v4 ev4 => ?_)
      have hw := hw v4 ev4
      refine g_istore dX11_journey_51 (by decide) (lv1 := [(0, .ref (gAd G 0)), (2, .int x2), (3, .int r2), (4, .int x4), (5, .int x5), (6, .int v4)]) rfl ?_
      refine g_bipush (v := 30) dX11_journey_53 (by decide) ?_
      refine g_istore dX11_journey_55 (by decide) (lv1 := [(0, .ref (gAd G 0)), (2, .int x2), (3, .int r2), (4, .int x4), (5, .int x5), (6, .int v4), (7, .int 30)]) rfl ?_
      refine g_iload dX11_journey_57 rfl ?_
      refine g_iconst (v := 3) dX11_journey_59 (by decide) ?_
      refine jn_el hw (fun J103 eJ103 hw => ?_)
      have hJ103 : ∀ (x3_5 : Int32) (x7_6 : Int32) (h7 : Hp), J103 x3_5 x7_6 h7 → Go cX11_journey 8 RX11 (some .int) 7 G (QI G Q) 103 [(0, .ref (gAd G 0)), (2, .int x2), (3, .int x3_5), (4, .int x4), (5, .int x5), (7, .int x7_6)] [] h7 := by
        intro x3_5 x7_6 h7 hw
        subst eJ103
        refine g_aload_n dX11_journey_103 rfl rfl ?_
        refine g_getO dX11_journey_104 fl_X11_34 sh0 rfl ?_
        refine g_aload_n dX11_journey_107 rfl rfl ?_
        refine g_getO dX11_journey_108 fl_X11_27 sh0 rfl ?_
        refine g_iload dX11_journey_111 rfl ?_
        refine g_i2l dX11_journey_113 ?_
        refine g_callVI [.ref (gAd G 14), .long ((x7_6).toInt64)] (ci := 6) dX11_journey_114 ml_X11_248 mk_X6_tryDeed rfl rfl sh20 (Nat.le_of_ble_eq_true rfl) (Nat.le_of_ble_eq_true rfl) rfl (c_Stand_tryDeed sh20 hw) (fun r8 h9 hw => ?_)
        refine jn_el hw (fun J123 eJ123 hw => ?_)
        have hJ123 : ∀ (x4_10 : Int32) (h11 : Hp), J123 x4_10 h11 → Go cX11_journey 8 RX11 (some .int) 7 G (QI G Q) 123 [(0, .ref (gAd G 0)), (2, .int x2), (3, .int x3_5), (4, .int x4_10), (5, .int x5)] [] h11 := by
          intro x4_10 h11 hw
          subst eJ123
          obtain ⟨v12, ev12⟩ : ∃ y : Int32, y = (x5 + 1) := ⟨_, rfl⟩
          have hw := hw v12 ev12
          refine g_iinc dX11_journey_123 rfl (by rw [ev12]; rfl) (by decide) (lv1 := [(0, .ref (gAd G 0)), (2, .int x2), (3, .int x3_5), (4, .int x4_10), (5, .int v12)]) rfl ?_
          refine g_goto 33 dX11_journey_126 rfl ?_
          exact ih _ _ _ _ hw
        refine g_if_ne 123 dX11_journey_117 rfl (fun hc => ?_) (fun hc => ?_)
        · have hw := hw.1 hc
          refine g_lv [0, 1, 2, 3, 4] rfl ?_
          exact hJ123 _ _ hw
        · have hw := hw.2 hc
          obtain ⟨v13, ev13⟩ : ∃ y : Int32, y = (x4 + 1) := ⟨_, rfl⟩
          have hw := hw v13 ev13
          refine g_iinc dX11_journey_120 rfl (by rw [ev13]; rfl) (by decide) (lv1 := [(0, .ref (gAd G 0)), (2, .int x2), (3, .int x3_5), (4, .int v13), (5, .int x5), (7, .int x7_6)]) rfl ?_
          refine g_lv [0, 1, 2, 3, 4] rfl ?_
          exact hJ123 _ _ hw
      refine g_icmp_ge 80 dX11_journey_60 rfl (fun hc => ?_) (fun hc => ?_)
      · have hw := hw.1 hc
        refine g_iload dX11_journey_80 rfl ?_
        refine g_iconst (v := 5) dX11_journey_82 (by decide) ?_
        refine g_icmp_ne 103 dX11_journey_83 rfl (fun hc => ?_) (fun hc => ?_)
        · have hw := hw.1 hc
          refine g_lv [0, 1, 2, 3, 4, 6] rfl ?_
          exact hJ103 _ _ _ hw
        · have hw := hw.2 hc
          refine g_iload_n dX11_journey_86 rfl rfl ?_
          refine g_callSI [.int r2] dX11_journey_87 ml_X11_252 mk_X11_nextDraw rfl (Nat.le_of_ble_eq_true rfl) (Nat.le_of_ble_eq_true rfl) rfl (c_C_nextDraw hw) (fun r14 h15 hw => ?_)
          refine g_istore_n dX11_journey_90 rfl (by decide) (lv1 := [(0, .ref (gAd G 0)), (2, .int x2), (3, .int r14), (4, .int x4), (5, .int x5), (6, .int v4), (7, .int 30)]) rfl ?_
          refine g_bipush (v := 20) dX11_journey_91 (by decide) ?_
          refine g_iload_n dX11_journey_93 rfl rfl ?_
          refine g_bipush (v := 16) dX11_journey_94 (by decide) ?_
          refine g_iushr dX11_journey_96 ?_
          refine g_bipush (v := 10) dX11_journey_97 (by decide) ?_
          refine g_irem dX11_journey_99 (by decide) ?_
          refine g_iadd dX11_journey_100 ?_
          refine g_topi (fun v16 ev16 => ?_)
          have hw := hw v16 ev16
          refine g_istore dX11_journey_101 (by decide) (lv1 := [(0, .ref (gAd G 0)), (2, .int x2), (3, .int r14), (4, .int x4), (5, .int x5), (6, .int v4), (7, .int v16)]) rfl ?_
          refine g_lv [0, 1, 2, 3, 4, 6] rfl ?_
          exact hJ103 _ _ _ hw
      · have hw := hw.2 hc
        refine g_iload_n dX11_journey_63 rfl rfl ?_
        refine g_callSI [.int r2] dX11_journey_64 ml_X11_252 mk_X11_nextDraw rfl (Nat.le_of_ble_eq_true rfl) (Nat.le_of_ble_eq_true rfl) rfl (c_C_nextDraw hw) (fun r17 h18 hw => ?_)
        refine g_istore_n dX11_journey_67 rfl (by decide) (lv1 := [(0, .ref (gAd G 0)), (2, .int x2), (3, .int r17), (4, .int x4), (5, .int x5), (6, .int v4), (7, .int 30)]) rfl ?_
        refine g_iload_n dX11_journey_68 rfl rfl ?_
        refine g_bipush (v := 16) dX11_journey_69 (by decide) ?_
        refine g_iushr dX11_journey_71 ?_
        refine g_bipush (v := 17) dX11_journey_72 (by decide) ?_
        refine g_irem dX11_journey_74 (by decide) ?_
        refine g_topi (fun v19 ev19 => ?_)
        have hw := hw v19 ev19
        refine g_istore dX11_journey_75 (by decide) (lv1 := [(0, .ref (gAd G 0)), (2, .int x2), (3, .int r17), (4, .int x4), (5, .int x5), (6, .int v4), (7, .int v19)]) rfl ?_
        refine g_goto 103 dX11_journey_77 rfl ?_
        refine g_lv [0, 1, 2, 3, 4, 6] rfl ?_
        exact hJ103 _ _ _ hw
def C_journey (x1 : Int32) (x2 : Int32) (h : Hp) (Q : Int32 → Hp → Prop) : Prop := (x2 < 1 → Q (-3) h) ∧ (¬ x2 < 1 → (x2 ≤ 40 → Stand_copy 22 20 h (fun h1 => ∃ n20, C_journey_L33 x2 (fun x4_21 h22 => (x4_21 ≤ 0 → Q x4_21 h22) ∧ (¬ x4_21 ≤ 0 → Past_keep 22 h22 (fun h23 => Q x4_21 h23))) n20 x1 0 0 h1)) ∧ (¬ x2 ≤ 40 → Q (-3) h))
set_option maxHeartbeats 4000000 in
set_option maxRecDepth 20000 in
theorem c_C_journey {G : Gx}  {x1 : Int32} {x2 : Int32} {h : Hp} {Q : Int32 → Hp → Prop} (hw : C_journey x1 x2 h Q) : Ct yX11_journey cX11_journey 8 (some .int) 7 G [.ref (gAd G 0), .int x1, .int x2] h (QI G Q) := by
  refine ct_go [(0, .ref (gAd G 0)), (1, .int x1), (2, .int x2)] (plainFor_of_name (by decide)) rfl (Nat.le_of_ble_eq_true rfl) rfl ?_
  refine g_iload_n dX11_journey_0 rfl rfl ?_
  refine g_iconst (v := 1) dX11_journey_1 (by decide) ?_
  refine g_icmp_lt 11 dX11_journey_2 rfl (fun hc => ?_) (fun hc => ?_)
  · have hw := hw.1 hc
    refine g_bipush (v := (-3)) dX11_journey_11 (by decide) ?_
    exact g_iret dX11_journey_13 hw
  · have hw := hw.2 hc
    refine g_iload_n dX11_journey_5 rfl rfl ?_
    refine g_bipush (v := 40) dX11_journey_6 (by decide) ?_
    refine g_icmp_le 14 dX11_journey_8 rfl (fun hc => ?_) (fun hc => ?_)
    · have hw := hw.1 hc
      refine g_aload_n dX11_journey_14 rfl rfl ?_
      refine g_getO dX11_journey_15 fl_X11_38 sh0 rfl ?_
      refine g_aload_n dX11_journey_18 rfl rfl ?_
      refine g_getO dX11_journey_19 fl_X11_34 sh0 rfl ?_
      refine g_callVV [.ref (gAd G 20)] (ci := 6) dX11_journey_22 ml_X11_231 mk_X6_copy rfl rfl sh22 (Nat.le_of_ble_eq_true rfl) (Nat.le_of_ble_eq_true rfl) rfl (c_Stand_copy sh22 sh20 hw) (fun h1 hw => ?_)
      refine g_iload_n dX11_journey_25 rfl rfl ?_
      refine g_istore_n dX11_journey_26 rfl (by decide) (lv1 := [(0, .ref (gAd G 0)), (1, .int x1), (2, .int x2), (3, .int x1)]) rfl ?_
      refine g_iconst (v := 0) dX11_journey_27 (by decide) ?_
      refine g_istore dX11_journey_28 (by decide) (lv1 := [(0, .ref (gAd G 0)), (1, .int x1), (2, .int x2), (3, .int x1), (4, .int 0)]) rfl ?_
      refine g_iconst (v := 0) dX11_journey_30 (by decide) ?_
      refine g_istore dX11_journey_31 (by decide) (lv1 := [(0, .ref (gAd G 0)), (1, .int x1), (2, .int x2), (3, .int x1), (4, .int 0), (5, .int 0)]) rfl ?_
      obtain ⟨n20, hw⟩ := hw
      refine g_lv [0, 2, 3, 4, 5] rfl ?_
      refine gl_C_journey_L33  ?_ _ _ _ _ _ hw
      · intro x4_21 h22 hw
        refine g_iload dX11_journey_129 rfl ?_
        refine g_if_le 145 dX11_journey_131 rfl (fun hc => ?_) (fun hc => ?_)
        · have hw := hw.1 hc
          refine g_iload dX11_journey_145 rfl ?_
          exact g_iret dX11_journey_147 hw
        · have hw := hw.2 hc
          refine g_aload_n dX11_journey_134 rfl rfl ?_
          refine g_getO dX11_journey_135 fl_X11_44 sh0 rfl ?_
          refine g_aload_n dX11_journey_138 rfl rfl ?_
          refine g_getO dX11_journey_139 fl_X11_38 sh0 rfl ?_
          refine g_callVV [.ref (gAd G 22)] (ci := 4) dX11_journey_142 ml_X11_177 mk_X4_keep rfl rfl sh24 (Nat.le_of_ble_eq_true rfl) (Nat.le_of_ble_eq_true rfl) rfl (c_Past_keep sh22 hw) (fun h23 hw => ?_)
          refine g_iload dX11_journey_145 rfl ?_
          exact g_iret dX11_journey_147 hw
    · have hw := hw.2 hc
      refine g_bipush (v := (-3)) dX11_journey_11 (by decide) ?_
      exact g_iret dX11_journey_13 hw
theorem dX11_lookAtAll_0 : decode cX11_lookAtAll 0 = .ok (.aload_n 0, 1) := by decide +kernel
theorem dX11_lookAtAll_1 : decode cX11_lookAtAll 1 = .ok (.getfield 65, 3) := by decide +kernel
theorem dX11_lookAtAll_4 : decode cX11_lookAtAll 4 = .ok (.aload_n 0, 1) := by decide +kernel
theorem dX11_lookAtAll_5 : decode cX11_lookAtAll 5 = .ok (.getfield 27, 3) := by decide +kernel
theorem dX11_lookAtAll_8 : decode cX11_lookAtAll 8 = .ok (.aload_n 0, 1) := by decide +kernel
theorem dX11_lookAtAll_9 : decode cX11_lookAtAll 9 = .ok (.getfield 34, 3) := by decide +kernel
theorem dX11_lookAtAll_12 : decode cX11_lookAtAll 12 = .ok (.getfield 140, 3) := by decide +kernel
theorem dX11_lookAtAll_15 : decode cX11_lookAtAll 15 = .ok (.invokevirtual 287, 3) := by decide +kernel
theorem dX11_lookAtAll_18 : decode cX11_lookAtAll 18 = .ok (.aload_n 0, 1) := by decide +kernel
theorem dX11_lookAtAll_19 : decode cX11_lookAtAll 19 = .ok (.getfield 65, 3) := by decide +kernel
theorem dX11_lookAtAll_22 : decode cX11_lookAtAll 22 = .ok (.invokevirtual 290, 3) := by decide +kernel
theorem dX11_lookAtAll_25 : decode cX11_lookAtAll 25 = .ok (.return_, 1) := by decide +kernel
theorem ml_X11_287 : Cond.methodLink RX11 287 yX8_allWays ∈ Wd := mW 1042 (by decide +kernel) rfl
theorem ml_X11_290 : Cond.methodLink RX11 290 yX8_look ∈ Wd := mW 1043 (by decide +kernel) rfl
def C_lookAtAll  (h : Hp) (Q : Hp → Prop) : Prop := Survey_allWays (gI h 20 3) h (fun h1 => Survey_look  h1 (fun h2 => Q h2))
set_option maxHeartbeats 4000000 in
set_option maxRecDepth 20000 in
theorem c_C_lookAtAll {G : Gx}   {h : Hp} {Q : Hp → Prop} (hw : C_lookAtAll  h Q) : Ct yX11_lookAtAll cX11_lookAtAll 1 none 15 G [.ref (gAd G 0)] h (QV G Q) := by
  refine ct_go [(0, .ref (gAd G 0))] (plainFor_of_name (by decide)) rfl (Nat.le_of_ble_eq_true rfl) rfl ?_
  refine g_aload_n dX11_lookAtAll_0 rfl rfl ?_
  refine g_getO dX11_lookAtAll_1 fl_X11_65 sh0 rfl ?_
  refine g_aload_n dX11_lookAtAll_4 rfl rfl ?_
  refine g_getO dX11_lookAtAll_5 fl_X11_27 sh0 rfl ?_
  refine g_aload_n dX11_lookAtAll_8 rfl rfl ?_
  refine g_getO dX11_lookAtAll_9 fl_X11_34 sh0 rfl ?_
  refine g_getI dX11_lookAtAll_12 fl_X11_140 sh20 rfl ?_
  refine g_callVV [.ref (gAd G 14), .int (gI h 20 3)] (ci := 8) dX11_lookAtAll_15 ml_X11_287 mk_X8_allWays rfl rfl sh73 (Nat.le_of_ble_eq_true rfl) (Nat.le_of_ble_eq_true rfl) rfl (c_Survey_allWays hw) (fun h1 hw => ?_)
  refine g_aload_n dX11_lookAtAll_18 rfl rfl ?_
  refine g_getO dX11_lookAtAll_19 fl_X11_65 sh0 rfl ?_
  refine g_callVV [] (ci := 8) dX11_lookAtAll_22 ml_X11_290 mk_X8_look rfl rfl sh73 (Nat.le_of_ble_eq_true rfl) (Nat.le_of_ble_eq_true rfl) rfl (c_Survey_look hw) (fun h2 hw => ?_)
  exact g_vret dX11_lookAtAll_25 hw
theorem dX11_rings_0 : decode cX11_rings 0 = .ok (.aload_n 0, 1) := by decide +kernel
theorem dX11_rings_1 : decode cX11_rings 1 = .ok (.invokevirtual 256, 3) := by decide +kernel
theorem dX11_rings_4 : decode cX11_rings 4 = .ok (.aload_n 0, 1) := by decide +kernel
theorem dX11_rings_5 : decode cX11_rings 5 = .ok (.getfield 65, 3) := by decide +kernel
theorem dX11_rings_8 : decode cX11_rings 8 = .ok (.getfield 259, 3) := by decide +kernel
theorem dX11_rings_11 : decode cX11_rings 11 = .ok (.ireturn, 1) := by decide +kernel
theorem ml_X11_256 : Cond.methodLink RX11 256 yX11_lookAtAll ∈ Wd := mW 1038 (by decide +kernel) rfl
theorem mk_X11_lookAtAll : MokV yX11_lookAtAll cX11_lookAtAll 1 none 0 := ⟨⟨mW 1 (by decide +kernel) rfl, mW 1041 (by decide +kernel) rfl, ⟨by decide, by decide, by decide +kernel⟩, by decide⟩, mW 1040 (by decide +kernel) rfl, mS (q := (yX11_lookAtAll, 16)) 35 (by decide +kernel)⟩
theorem fl_X11_259 : FLk RX11 259 8 9 := ⟨_, rfl, by decide, mW 262 (by decide +kernel) rfl⟩
def C_rings  (h : Hp) (Q : Int32 → Hp → Prop) : Prop := C_lookAtAll  h (fun h1 => Q (gI h1 73 9) h1)
set_option maxHeartbeats 4000000 in
set_option maxRecDepth 20000 in
theorem c_C_rings {G : Gx}   {h : Hp} {Q : Int32 → Hp → Prop} (hw : C_rings  h Q) : Ct yX11_rings cX11_rings 1 (some .int) 16 G [.ref (gAd G 0)] h (QI G Q) := by
  refine ct_go [(0, .ref (gAd G 0))] (plainFor_of_name (by decide)) rfl (Nat.le_of_ble_eq_true rfl) rfl ?_
  refine g_aload_n dX11_rings_0 rfl rfl ?_
  refine g_callVV [] (ci := 11) dX11_rings_1 ml_X11_256 mk_X11_lookAtAll rfl rfl sh0 (Nat.le_of_ble_eq_true rfl) (Nat.le_of_ble_eq_true rfl) rfl (c_C_lookAtAll hw) (fun h1 hw => ?_)
  refine g_aload_n dX11_rings_4 rfl rfl ?_
  refine g_getO dX11_rings_5 fl_X11_65 sh0 rfl ?_
  refine g_getI dX11_rings_8 fl_X11_259 sh73 rfl ?_
  exact g_iret dX11_rings_11 hw
theorem dJ9_abs_067f4_0 : decode cJ9_abs_067f4 0 = .ok (.lload_n 0, 1) := by decide +kernel
theorem dJ9_abs_067f4_1 : decode cJ9_abs_067f4 1 = .ok (.lconst 0, 1) := by decide +kernel
theorem dJ9_abs_067f4_2 : decode cJ9_abs_067f4 2 = .ok (.lcmp, 1) := by decide +kernel
theorem dJ9_abs_067f4_3 : decode cJ9_abs_067f4 3 = .ok (.ifCond .ge 8, 3) := by decide +kernel
theorem dJ9_abs_067f4_6 : decode cJ9_abs_067f4 6 = .ok (.lload_n 0, 1) := by decide +kernel
theorem dJ9_abs_067f4_7 : decode cJ9_abs_067f4 7 = .ok (.lneg, 1) := by decide +kernel
theorem dJ9_abs_067f4_8 : decode cJ9_abs_067f4 8 = .ok (.goto 4, 3) := by decide +kernel
theorem dJ9_abs_067f4_11 : decode cJ9_abs_067f4 11 = .ok (.lload_n 0, 1) := by decide +kernel
theorem dJ9_abs_067f4_12 : decode cJ9_abs_067f4 12 = .ok (.lreturn, 1) := by decide +kernel
def J9_abs_067f4 (x0 : Int64) (h : Hp) (Q : Int64 → Hp → Prop) : Prop := ((0 : Int64) ≤ x0 → Q x0 h) ∧ (¬ (0 : Int64) ≤ x0 → Q (-x0) h)
set_option maxHeartbeats 4000000 in
set_option maxRecDepth 20000 in
theorem c_J9_abs_067f4 {G : Gx}  {x0 : Int64} {h : Hp} {Q : Int64 → Hp → Prop} (hw : J9_abs_067f4 x0 h Q) : Ct yJ9_abs_067f4 cJ9_abs_067f4 2 (some .long) 1 G [.long x0] h (QJ G Q) := by
  refine ct_go [(0, .long x0)] (by decide +kernel) rfl (Nat.le_of_ble_eq_true rfl) rfl ?_
  refine g_lload_n dJ9_abs_067f4_0 rfl rfl ?_
  refine g_lconst (v := (0 : Int64)) dJ9_abs_067f4_1 (by decide) ?_
  refine g_lc_ge 11 dJ9_abs_067f4_2 dJ9_abs_067f4_3 rfl (fun hc => ?_) (fun hc => ?_)
  · have hw := hw.1 hc
    refine g_lload_n dJ9_abs_067f4_11 rfl rfl ?_
    exact g_lret dJ9_abs_067f4_12 hw
  · have hw := hw.2 hc
    refine g_lload_n dJ9_abs_067f4_6 rfl rfl ?_
    refine g_lneg dJ9_abs_067f4_7 ?_
    refine g_goto 12 dJ9_abs_067f4_8 rfl ?_
    exact g_lret dJ9_abs_067f4_12 hw
theorem dX11_lowestTerms_0 : decode cX11_lowestTerms 0 = .ok (.lload_n 0, 1) := by decide +kernel
theorem dX11_lowestTerms_1 : decode cX11_lowestTerms 1 = .ok (.invokestatic 421, 3) := by decide +kernel
theorem dX11_lowestTerms_4 : decode cX11_lowestTerms 4 = .ok (.lstore 5, 2) := by decide +kernel
theorem dX11_lowestTerms_6 : decode cX11_lowestTerms 6 = .ok (.lload_n 2, 1) := by decide +kernel
theorem dX11_lowestTerms_7 : decode cX11_lowestTerms 7 = .ok (.lstore 7, 2) := by decide +kernel
theorem dX11_lowestTerms_9 : decode cX11_lowestTerms 9 = .ok (.iconst 0, 1) := by decide +kernel
theorem dX11_lowestTerms_10 : decode cX11_lowestTerms 10 = .ok (.istore 9, 2) := by decide +kernel
theorem dX11_lowestTerms_12 : decode cX11_lowestTerms 12 = .ok (.iload 9, 2) := by decide +kernel
theorem dX11_lowestTerms_14 : decode cX11_lowestTerms 14 = .ok (.sipush 200, 3) := by decide +kernel
theorem dX11_lowestTerms_17 : decode cX11_lowestTerms 17 = .ok (.if_icmp .ge 31, 3) := by decide +kernel
theorem dX11_lowestTerms_20 : decode cX11_lowestTerms 20 = .ok (.lload 7, 2) := by decide +kernel
theorem dX11_lowestTerms_22 : decode cX11_lowestTerms 22 = .ok (.lconst 0, 1) := by decide +kernel
theorem dX11_lowestTerms_23 : decode cX11_lowestTerms 23 = .ok (.lcmp, 1) := by decide +kernel
theorem dX11_lowestTerms_24 : decode cX11_lowestTerms 24 = .ok (.ifCond .eq 24, 3) := by decide +kernel
theorem dX11_lowestTerms_27 : decode cX11_lowestTerms 27 = .ok (.lload 5, 2) := by decide +kernel
theorem dX11_lowestTerms_29 : decode cX11_lowestTerms 29 = .ok (.lload 7, 2) := by decide +kernel
theorem dX11_lowestTerms_31 : decode cX11_lowestTerms 31 = .ok (.lrem, 1) := by decide +kernel
theorem dX11_lowestTerms_32 : decode cX11_lowestTerms 32 = .ok (.lstore 10, 2) := by decide +kernel
theorem dX11_lowestTerms_34 : decode cX11_lowestTerms 34 = .ok (.lload 7, 2) := by decide +kernel
theorem dX11_lowestTerms_36 : decode cX11_lowestTerms 36 = .ok (.lstore 5, 2) := by decide +kernel
theorem dX11_lowestTerms_38 : decode cX11_lowestTerms 38 = .ok (.lload 10, 2) := by decide +kernel
theorem dX11_lowestTerms_40 : decode cX11_lowestTerms 40 = .ok (.lstore 7, 2) := by decide +kernel
theorem dX11_lowestTerms_42 : decode cX11_lowestTerms 42 = .ok (.iinc 9 1, 3) := by decide +kernel
theorem dX11_lowestTerms_45 : decode cX11_lowestTerms 45 = .ok (.goto (-33), 3) := by decide +kernel
theorem dX11_lowestTerms_48 : decode cX11_lowestTerms 48 = .ok (.lload 5, 2) := by decide +kernel
theorem dX11_lowestTerms_50 : decode cX11_lowestTerms 50 = .ok (.lconst 0, 1) := by decide +kernel
theorem dX11_lowestTerms_51 : decode cX11_lowestTerms 51 = .ok (.lcmp, 1) := by decide +kernel
theorem dX11_lowestTerms_52 : decode cX11_lowestTerms 52 = .ok (.ifCond .ne 14, 3) := by decide +kernel
theorem dX11_lowestTerms_55 : decode cX11_lowestTerms 55 = .ok (.iload 4, 2) := by decide +kernel
theorem dX11_lowestTerms_57 : decode cX11_lowestTerms 57 = .ok (.ifCond .ne 7, 3) := by decide +kernel
theorem dX11_lowestTerms_60 : decode cX11_lowestTerms 60 = .ok (.lload_n 0, 1) := by decide +kernel
theorem dX11_lowestTerms_61 : decode cX11_lowestTerms 61 = .ok (.goto 4, 3) := by decide +kernel
theorem dX11_lowestTerms_64 : decode cX11_lowestTerms 64 = .ok (.lload_n 2, 1) := by decide +kernel
theorem dX11_lowestTerms_65 : decode cX11_lowestTerms 65 = .ok (.lreturn, 1) := by decide +kernel
theorem dX11_lowestTerms_66 : decode cX11_lowestTerms 66 = .ok (.iload 4, 2) := by decide +kernel
theorem dX11_lowestTerms_68 : decode cX11_lowestTerms 68 = .ok (.ifCond .ne 10, 3) := by decide +kernel
theorem dX11_lowestTerms_71 : decode cX11_lowestTerms 71 = .ok (.lload_n 0, 1) := by decide +kernel
theorem dX11_lowestTerms_72 : decode cX11_lowestTerms 72 = .ok (.lload 5, 2) := by decide +kernel
theorem dX11_lowestTerms_74 : decode cX11_lowestTerms 74 = .ok (.ldiv, 1) := by decide +kernel
theorem dX11_lowestTerms_75 : decode cX11_lowestTerms 75 = .ok (.goto 7, 3) := by decide +kernel
theorem dX11_lowestTerms_78 : decode cX11_lowestTerms 78 = .ok (.lload_n 2, 1) := by decide +kernel
theorem dX11_lowestTerms_79 : decode cX11_lowestTerms 79 = .ok (.lload 5, 2) := by decide +kernel
theorem dX11_lowestTerms_81 : decode cX11_lowestTerms 81 = .ok (.ldiv, 1) := by decide +kernel
theorem dX11_lowestTerms_82 : decode cX11_lowestTerms 82 = .ok (.lreturn, 1) := by decide +kernel
theorem ml_X11_421 : Cond.methodLink RX11 421 yJ9_abs_067f4 ∈ Wd := mW 1052 (by decide +kernel) rfl
theorem mk_J9_abs_067f4 : MokS yJ9_abs_067f4 cJ9_abs_067f4 2 (some .long) 1 := ⟨⟨mW 15 (by decide +kernel) rfl, mW 1054 (by decide +kernel) rfl, ⟨by decide, by decide, by decide +kernel⟩, by decide⟩, mW 1053 (by decide +kernel) rfl⟩
def C_lowestTerms_L12 (x0 : Int64) (x2 : Int64) (x4 : Int32) (K48 : Int64 → Hp → Prop) : Nat → Int64 → Int64 → Int32 → Hp → Prop
  | 0, _, _, _, _ => False
  | n + 1, x5, x7, x9, h => (200 ≤ x9 → K48 x5 h) ∧ (¬ 200 ≤ x9 → (x7 = (0 : Int64) → K48 x5 h) ∧ (¬ x7 = (0 : Int64) → ¬ x7 = 0 ∧ ∀ v3 : Int64, v3 = (x5 - x5 / x7 * x7) → ∀ v4 : Int32, v4 = (x9 + 1) → C_lowestTerms_L12 x0 x2 x4 K48 n x7 v3 v4 h))
set_option maxHeartbeats 4000000 in
set_option maxRecDepth 20000 in
theorem gl_C_lowestTerms_L12 {G : Gx}  {x0 : Int64} {x2 : Int64} {x4 : Int32} {Q : Int64 → Hp → Prop} {K48 : Int64 → Hp → Prop} (hK48 : ∀ (y5 : Int64) (h1 : Hp), K48 y5 h1 → Go cX11_lowestTerms 12 RX11 (some .long) 2 G (QJ G Q) 48 [(0, .long x0), (2, .long x2), (4, .int x4), (5, .long y5)] [] h1) : ∀ (n : Nat) (x5 : Int64) (x7 : Int64) (x9 : Int32) (h : Hp), C_lowestTerms_L12 x0 x2 x4 K48 n x5 x7 x9 h → Go cX11_lowestTerms 12 RX11 (some .long) 2 G (QJ G Q) 12 [(0, .long x0), (2, .long x2), (4, .int x4), (5, .long x5), (7, .long x7), (9, .int x9)] [] h := by
  intro n
  induction n with
  | zero => intro _ _ _ h hw; exact False.elim hw
  | succ n ih =>
    intro x5 x7 x9 h hw
    refine g_iload dX11_lowestTerms_12 rfl ?_
    refine g_sipush (v := 200) dX11_lowestTerms_14 (by decide) ?_
    refine g_icmp_ge 48 dX11_lowestTerms_17 rfl (fun hc => ?_) (fun hc => ?_)
    · have hw := hw.1 hc
      refine g_lv [0, 1, 2, 3] rfl ?_
      exact hK48 _ _ hw
    · have hw := hw.2 hc
      refine g_lload dX11_lowestTerms_20 rfl ?_
      refine g_lconst (v := (0 : Int64)) dX11_lowestTerms_22 (by decide) ?_
      refine g_lc_eq 48 dX11_lowestTerms_23 dX11_lowestTerms_24 rfl (fun hc => ?_) (fun hc => ?_)
      · have hw := hw.1 hc
        refine g_lv [0, 1, 2, 3] rfl ?_
        exact hK48 _ _ hw
      · have hw := hw.2 hc
        refine g_lload dX11_lowestTerms_27 rfl ?_
        refine g_lload dX11_lowestTerms_29 rfl ?_
        refine g_lrem dX11_lowestTerms_31 hw.1 ?_
        have hw := hw.2
        refine g_topj (fun v3 ev3 => ?_)
        have hw := hw v3 ev3
        refine g_lstore dX11_lowestTerms_32 (by decide) (lv1 := [(0, .long x0), (2, .long x2), (4, .int x4), (5, .long x5), (7, .long x7), (9, .int x9), (10, .long v3)]) rfl ?_
        refine g_lload dX11_lowestTerms_34 rfl ?_
        refine g_lstore dX11_lowestTerms_36 (by decide) (lv1 := [(0, .long x0), (2, .long x2), (4, .int x4), (5, .long x7), (7, .long x7), (9, .int x9), (10, .long v3)]) rfl ?_
        refine g_lload dX11_lowestTerms_38 rfl ?_
        refine g_lstore dX11_lowestTerms_40 (by decide) (lv1 := [(0, .long x0), (2, .long x2), (4, .int x4), (5, .long x7), (7, .long v3), (9, .int x9), (10, .long v3)]) rfl ?_
        obtain ⟨v4, ev4⟩ : ∃ y : Int32, y = (x9 + 1) := ⟨_, rfl⟩
        have hw := hw v4 ev4
        refine g_iinc dX11_lowestTerms_42 rfl (by rw [ev4]; rfl) (by decide) (lv1 := [(0, .long x0), (2, .long x2), (4, .int x4), (5, .long x7), (7, .long v3), (9, .int v4), (10, .long v3)]) rfl ?_
        refine g_goto 12 dX11_lowestTerms_45 rfl ?_
        refine g_lv [0, 1, 2, 3, 4, 5] rfl ?_
        exact ih _ _ _ _ hw
def C_lowestTerms (x0 : Int64) (x2 : Int64) (x4 : Int32) (h : Hp) (Q : Int64 → Hp → Prop) : Prop := J9_abs_067f4 x0 h (fun r1 h2 => ∃ n5, C_lowestTerms_L12 x0 x2 x4 (fun x5_6 h7 => (¬ x5_6 = (0 : Int64) → (¬ x4 = 0 → ¬ x5_6 = 0 ∧ Q (x2 / x5_6) h7) ∧ (x4 = 0 → ¬ x5_6 = 0 ∧ Q (x0 / x5_6) h7)) ∧ (x5_6 = (0 : Int64) → (¬ x4 = 0 → Q x2 h7) ∧ (x4 = 0 → Q x0 h7))) n5 r1 x2 0 h2)
set_option maxHeartbeats 4000000 in
set_option maxRecDepth 20000 in
theorem c_C_lowestTerms {G : Gx}  {x0 : Int64} {x2 : Int64} {x4 : Int32} {h : Hp} {Q : Int64 → Hp → Prop} (hw : C_lowestTerms x0 x2 x4 h Q) : Ct yX11_lowestTerms cX11_lowestTerms 12 (some .long) 2 G [.long x0, .long x2, .int x4] h (QJ G Q) := by
  refine ct_go [(0, .long x0), (2, .long x2), (4, .int x4)] (plainFor_of_name (by decide)) rfl (Nat.le_of_ble_eq_true rfl) rfl ?_
  refine g_lload_n dX11_lowestTerms_0 rfl rfl ?_
  refine g_callSJ [.long x0] dX11_lowestTerms_1 ml_X11_421 mk_J9_abs_067f4 rfl (Nat.le_of_ble_eq_true rfl) (Nat.le_of_ble_eq_true rfl) rfl (c_J9_abs_067f4 hw) (fun r1 h2 hw => ?_)
  refine g_lstore dX11_lowestTerms_4 (by decide) (lv1 := [(0, .long x0), (2, .long x2), (4, .int x4), (5, .long r1)]) rfl ?_
  refine g_lload_n dX11_lowestTerms_6 rfl rfl ?_
  refine g_lstore dX11_lowestTerms_7 (by decide) (lv1 := [(0, .long x0), (2, .long x2), (4, .int x4), (5, .long r1), (7, .long x2)]) rfl ?_
  refine g_iconst (v := 0) dX11_lowestTerms_9 (by decide) ?_
  refine g_istore dX11_lowestTerms_10 (by decide) (lv1 := [(0, .long x0), (2, .long x2), (4, .int x4), (5, .long r1), (7, .long x2), (9, .int 0)]) rfl ?_
  obtain ⟨n5, hw⟩ := hw
  refine gl_C_lowestTerms_L12  ?_ _ _ _ _ _ hw
  · intro x5_6 h7 hw
    refine g_lload dX11_lowestTerms_48 rfl ?_
    refine g_lconst (v := (0 : Int64)) dX11_lowestTerms_50 (by decide) ?_
    refine g_lc_ne 66 dX11_lowestTerms_51 dX11_lowestTerms_52 rfl (fun hc => ?_) (fun hc => ?_)
    · have hw := hw.1 hc
      refine g_iload dX11_lowestTerms_66 rfl ?_
      refine g_if_ne 78 dX11_lowestTerms_68 rfl (fun hc => ?_) (fun hc => ?_)
      · have hw := hw.1 hc
        refine g_lload_n dX11_lowestTerms_78 rfl rfl ?_
        refine g_lload dX11_lowestTerms_79 rfl ?_
        refine g_ldiv dX11_lowestTerms_81 hw.1 ?_
        have hw := hw.2
        exact g_lret dX11_lowestTerms_82 hw
      · have hw := hw.2 hc
        refine g_lload_n dX11_lowestTerms_71 rfl rfl ?_
        refine g_lload dX11_lowestTerms_72 rfl ?_
        refine g_ldiv dX11_lowestTerms_74 hw.1 ?_
        have hw := hw.2
        refine g_goto 82 dX11_lowestTerms_75 rfl ?_
        exact g_lret dX11_lowestTerms_82 hw
    · have hw := hw.2 hc
      refine g_iload dX11_lowestTerms_55 rfl ?_
      refine g_if_ne 64 dX11_lowestTerms_57 rfl (fun hc => ?_) (fun hc => ?_)
      · have hw := hw.1 hc
        refine g_lload_n dX11_lowestTerms_64 rfl rfl ?_
        exact g_lret dX11_lowestTerms_65 hw
      · have hw := hw.2 hc
        refine g_lload_n dX11_lowestTerms_60 rfl rfl ?_
        refine g_goto 65 dX11_lowestTerms_61 rfl ?_
        exact g_lret dX11_lowestTerms_65 hw
theorem dX11_ring_0 : decode cX11_ring 0 = .ok (.aload_n 0, 1) := by decide +kernel
theorem dX11_ring_1 : decode cX11_ring 1 = .ok (.getfield 27, 3) := by decide +kernel
theorem dX11_ring_4 : decode cX11_ring 4 = .ok (.iload_n 1, 1) := by decide +kernel
theorem dX11_ring_5 : decode cX11_ring 5 = .ok (.invokevirtual 129, 3) := by decide +kernel
theorem dX11_ring_8 : decode cX11_ring 8 = .ok (.ifCond .eq 17, 3) := by decide +kernel
theorem dX11_ring_11 : decode cX11_ring 11 = .ok (.iload_n 2, 1) := by decide +kernel
theorem dX11_ring_12 : decode cX11_ring 12 = .ok (.invokestatic 262, 3) := by decide +kernel
theorem dX11_ring_15 : decode cX11_ring 15 = .ok (.ifCond .eq 10, 3) := by decide +kernel
theorem dX11_ring_18 : decode cX11_ring 18 = .ok (.iload_n 3, 1) := by decide +kernel
theorem dX11_ring_19 : decode cX11_ring 19 = .ok (.invokestatic 262, 3) := by decide +kernel
theorem dX11_ring_22 : decode cX11_ring 22 = .ok (.ifCond .ne 7, 3) := by decide +kernel
theorem dX11_ring_25 : decode cX11_ring 25 = .ok (.ldc2_w 170, 3) := by decide +kernel
theorem dX11_ring_28 : decode cX11_ring 28 = .ok (.lreturn, 1) := by decide +kernel
theorem dX11_ring_29 : decode cX11_ring 29 = .ok (.aload_n 0, 1) := by decide +kernel
theorem dX11_ring_30 : decode cX11_ring 30 = .ok (.invokevirtual 256, 3) := by decide +kernel
theorem dX11_ring_33 : decode cX11_ring 33 = .ok (.iload_n 2, 1) := by decide +kernel
theorem dX11_ring_34 : decode cX11_ring 34 = .ok (.ifCond .ne 16, 3) := by decide +kernel
theorem dX11_ring_37 : decode cX11_ring 37 = .ok (.aload_n 0, 1) := by decide +kernel
theorem dX11_ring_38 : decode cX11_ring 38 = .ok (.getfield 65, 3) := by decide +kernel
theorem dX11_ring_41 : decode cX11_ring 41 = .ok (.getfield 265, 3) := by decide +kernel
theorem dX11_ring_44 : decode cX11_ring 44 = .ok (.iload_n 1, 1) := by decide +kernel
theorem dX11_ring_45 : decode cX11_ring 45 = .ok (.iaload, 1) := by decide +kernel
theorem dX11_ring_46 : decode cX11_ring 46 = .ok (.i2l, 1) := by decide +kernel
theorem dX11_ring_47 : decode cX11_ring 47 = .ok (.goto 13, 3) := by decide +kernel
theorem dX11_ring_50 : decode cX11_ring 50 = .ok (.aload_n 0, 1) := by decide +kernel
theorem dX11_ring_51 : decode cX11_ring 51 = .ok (.getfield 65, 3) := by decide +kernel
theorem dX11_ring_54 : decode cX11_ring 54 = .ok (.getfield 268, 3) := by decide +kernel
theorem dX11_ring_57 : decode cX11_ring 57 = .ok (.iload_n 1, 1) := by decide +kernel
theorem dX11_ring_58 : decode cX11_ring 58 = .ok (.iaload, 1) := by decide +kernel
theorem dX11_ring_59 : decode cX11_ring 59 = .ok (.i2l, 1) := by decide +kernel
theorem dX11_ring_60 : decode cX11_ring 60 = .ok (.ldc2_w 271, 3) := by decide +kernel
theorem dX11_ring_63 : decode cX11_ring 63 = .ok (.iload_n 3, 1) := by decide +kernel
theorem dX11_ring_64 : decode cX11_ring 64 = .ok (.invokestatic 273, 3) := by decide +kernel
theorem dX11_ring_67 : decode cX11_ring 67 = .ok (.lreturn, 1) := by decide +kernel
theorem kl_X11_271 : Cond.constantLong RX11 271 (840) ∈ Wd := mW 1048 (by decide +kernel) rfl
theorem ml_X11_273 : Cond.methodLink RX11 273 yX11_lowestTerms ∈ Wd := mW 1049 (by decide +kernel) rfl
theorem mk_X11_lowestTerms : MokS yX11_lowestTerms cX11_lowestTerms 12 (some .long) 3 := ⟨⟨mW 1 (by decide +kernel) rfl, mW 1051 (by decide +kernel) rfl, ⟨by decide, by decide, by decide +kernel⟩, by decide⟩, mW 1050 (by decide +kernel) rfl⟩
theorem fl_X11_268 : FLk RX11 268 8 8 := ⟨_, rfl, by decide, mW 260 (by decide +kernel) rfl⟩
theorem fl_X11_265 : FLk RX11 265 8 7 := ⟨_, rfl, by decide, mW 258 (by decide +kernel) rfl⟩
def C_ring (x1 : Int32) (x2 : Int32) (x3 : Int32) (h : Hp) (Q : Int64 → Hp → Prop) : Prop := Land_hasPlace x1 h (fun r1 h2 => (r1 = 0 → Q (-9000000000000000002 : Int64) h2) ∧ (¬ r1 = 0 → C_isEither x2 h2 (fun r3 h4 => (r3 = 0 → Q (-9000000000000000002 : Int64) h4) ∧ (¬ r3 = 0 → C_isEither x3 h4 (fun r5 h6 => (¬ r5 = 0 → C_lookAtAll  h6 (fun h7 => ∀ J60 : Int64 → Hp → Prop, J60 = (fun s8 h9 => C_lowestTerms s8 (840 : Int64) x3 h9 (fun r10 h11 => Q r10 h11)) → (¬ x2 = 0 → vp_in x1 8 ∧ J60 (((gI h7 79 (x1).toNatClampNeg)).toInt64) h7) ∧ (x2 = 0 → vp_in x1 8 ∧ J60 (((gI h7 78 (x1).toNatClampNeg)).toInt64) h7))) ∧ (r5 = 0 → Q (-9000000000000000002 : Int64) h6))))))
set_option maxHeartbeats 4000000 in
set_option maxRecDepth 20000 in
theorem c_C_ring {G : Gx}  {x1 : Int32} {x2 : Int32} {x3 : Int32} {h : Hp} {Q : Int64 → Hp → Prop} (hw : C_ring x1 x2 x3 h Q) : Ct yX11_ring cX11_ring 4 (some .long) 16 G [.ref (gAd G 0), .int x1, .int x2, .int x3] h (QJ G Q) := by
  refine ct_go [(0, .ref (gAd G 0)), (1, .int x1), (2, .int x2), (3, .int x3)] (plainFor_of_name (by decide)) rfl (Nat.le_of_ble_eq_true rfl) rfl ?_
  refine g_aload_n dX11_ring_0 rfl rfl ?_
  refine g_getO dX11_ring_1 fl_X11_27 sh0 rfl ?_
  refine g_iload_n dX11_ring_4 rfl rfl ?_
  refine g_callVI [.int x1] (ci := 2) dX11_ring_5 ml_X11_129 mk_X2_hasPlace rfl rfl sh14 (Nat.le_of_ble_eq_true rfl) (Nat.le_of_ble_eq_true rfl) rfl (c_Land_hasPlace hw) (fun r1 h2 hw => ?_)
  refine g_if_eq 25 dX11_ring_8 rfl (fun hc => ?_) (fun hc => ?_)
  · have hw := hw.1 hc
    refine g_ldc2 dX11_ring_25 kl_X11_170 ?_
    exact g_lret dX11_ring_28 hw
  · have hw := hw.2 hc
    refine g_iload_n dX11_ring_11 rfl rfl ?_
    refine g_callSI [.int x2] dX11_ring_12 ml_X11_262 mk_X11_isEither rfl (Nat.le_of_ble_eq_true rfl) (Nat.le_of_ble_eq_true rfl) rfl (c_C_isEither hw) (fun r3 h4 hw => ?_)
    refine g_if_eq 25 dX11_ring_15 rfl (fun hc => ?_) (fun hc => ?_)
    · have hw := hw.1 hc
      refine g_ldc2 dX11_ring_25 kl_X11_170 ?_
      exact g_lret dX11_ring_28 hw
    · have hw := hw.2 hc
      refine g_iload_n dX11_ring_18 rfl rfl ?_
      refine g_callSI [.int x3] dX11_ring_19 ml_X11_262 mk_X11_isEither rfl (Nat.le_of_ble_eq_true rfl) (Nat.le_of_ble_eq_true rfl) rfl (c_C_isEither hw) (fun r5 h6 hw => ?_)
      refine g_if_ne 29 dX11_ring_22 rfl (fun hc => ?_) (fun hc => ?_)
      · have hw := hw.1 hc
        refine g_aload_n dX11_ring_29 rfl rfl ?_
        refine g_callVV [] (ci := 11) dX11_ring_30 ml_X11_256 mk_X11_lookAtAll rfl rfl sh0 (Nat.le_of_ble_eq_true rfl) (Nat.le_of_ble_eq_true rfl) rfl (c_C_lookAtAll hw) (fun h7 hw => ?_)
        refine g_iload_n dX11_ring_33 rfl rfl ?_
        refine jn_el hw (fun J60 eJ60 hw => ?_)
        have hJ60 : ∀ (s8 : Int64) (h9 : Hp), J60 s8 h9 → Go cX11_ring 4 RX11 (some .long) 16 G (QJ G Q) 60 [(3, .int x3)] [.long s8] h9 := by
          intro s8 h9 hw
          subst eJ60
          refine g_ldc2 dX11_ring_60 kl_X11_271 ?_
          refine g_iload_n dX11_ring_63 rfl rfl ?_
          refine g_callSJ [.long s8, .long (840 : Int64), .int x3] dX11_ring_64 ml_X11_273 mk_X11_lowestTerms rfl (Nat.le_of_ble_eq_true rfl) (Nat.le_of_ble_eq_true rfl) rfl (c_C_lowestTerms hw) (fun r10 h11 hw => ?_)
          exact g_lret dX11_ring_67 hw
        refine g_if_ne 50 dX11_ring_34 rfl (fun hc => ?_) (fun hc => ?_)
        · have hw := hw.1 hc
          refine g_aload_n dX11_ring_50 rfl rfl ?_
          refine g_getO dX11_ring_51 fl_X11_65 sh0 rfl ?_
          refine g_getA dX11_ring_54 fl_X11_268 sh73 rfl ?_
          refine g_iload_n dX11_ring_57 rfl rfl ?_
          refine g_iald dX11_ring_58 ia79 al79 hw.1 ?_
          have hw := hw.2
          refine g_i2l dX11_ring_59 ?_
          refine g_lv [3] rfl ?_
          exact hJ60 _ _ hw
        · have hw := hw.2 hc
          refine g_aload_n dX11_ring_37 rfl rfl ?_
          refine g_getO dX11_ring_38 fl_X11_65 sh0 rfl ?_
          refine g_getA dX11_ring_41 fl_X11_265 sh73 rfl ?_
          refine g_iload_n dX11_ring_44 rfl rfl ?_
          refine g_iald dX11_ring_45 ia78 al78 hw.1 ?_
          have hw := hw.2
          refine g_i2l dX11_ring_46 ?_
          refine g_goto 60 dX11_ring_47 rfl ?_
          refine g_lv [3] rfl ?_
          exact hJ60 _ _ hw
      · have hw := hw.2 hc
        refine g_ldc2 dX11_ring_25 kl_X11_170 ?_
        exact g_lret dX11_ring_28 hw
theorem dX11_reach_0 : decode cX11_reach 0 = .ok (.aload_n 0, 1) := by decide +kernel
theorem dX11_reach_1 : decode cX11_reach 1 = .ok (.getfield 27, 3) := by decide +kernel
theorem dX11_reach_4 : decode cX11_reach 4 = .ok (.iload_n 1, 1) := by decide +kernel
theorem dX11_reach_5 : decode cX11_reach 5 = .ok (.invokevirtual 129, 3) := by decide +kernel
theorem dX11_reach_8 : decode cX11_reach 8 = .ok (.ifCond .ne 6, 3) := by decide +kernel
theorem dX11_reach_11 : decode cX11_reach 11 = .ok (.bipush (-2), 2) := by decide +kernel
theorem dX11_reach_13 : decode cX11_reach 13 = .ok (.ireturn, 1) := by decide +kernel
theorem dX11_reach_14 : decode cX11_reach 14 = .ok (.aload_n 0, 1) := by decide +kernel
theorem dX11_reach_15 : decode cX11_reach 15 = .ok (.invokevirtual 256, 3) := by decide +kernel
theorem dX11_reach_18 : decode cX11_reach 18 = .ok (.aload_n 0, 1) := by decide +kernel
theorem dX11_reach_19 : decode cX11_reach 19 = .ok (.getfield 65, 3) := by decide +kernel
theorem dX11_reach_22 : decode cX11_reach 22 = .ok (.getfield 277, 3) := by decide +kernel
theorem dX11_reach_25 : decode cX11_reach 25 = .ok (.iload_n 1, 1) := by decide +kernel
theorem dX11_reach_26 : decode cX11_reach 26 = .ok (.iaload, 1) := by decide +kernel
theorem dX11_reach_27 : decode cX11_reach 27 = .ok (.ireturn, 1) := by decide +kernel
theorem fl_X11_277 : FLk RX11 277 8 4 := ⟨_, rfl, by decide, mW 254 (by decide +kernel) rfl⟩
def C_reach (x1 : Int32) (h : Hp) (Q : Int32 → Hp → Prop) : Prop := Land_hasPlace x1 h (fun r1 h2 => (¬ r1 = 0 → C_lookAtAll  h2 (fun h3 => vp_in x1 8 ∧ Q (gI h3 75 (x1).toNatClampNeg) h3)) ∧ (r1 = 0 → Q (-2) h2))
set_option maxHeartbeats 4000000 in
set_option maxRecDepth 20000 in
theorem c_C_reach {G : Gx}  {x1 : Int32} {h : Hp} {Q : Int32 → Hp → Prop} (hw : C_reach x1 h Q) : Ct yX11_reach cX11_reach 2 (some .int) 16 G [.ref (gAd G 0), .int x1] h (QI G Q) := by
  refine ct_go [(0, .ref (gAd G 0)), (1, .int x1)] (plainFor_of_name (by decide)) rfl (Nat.le_of_ble_eq_true rfl) rfl ?_
  refine g_aload_n dX11_reach_0 rfl rfl ?_
  refine g_getO dX11_reach_1 fl_X11_27 sh0 rfl ?_
  refine g_iload_n dX11_reach_4 rfl rfl ?_
  refine g_callVI [.int x1] (ci := 2) dX11_reach_5 ml_X11_129 mk_X2_hasPlace rfl rfl sh14 (Nat.le_of_ble_eq_true rfl) (Nat.le_of_ble_eq_true rfl) rfl (c_Land_hasPlace hw) (fun r1 h2 hw => ?_)
  refine g_if_ne 14 dX11_reach_8 rfl (fun hc => ?_) (fun hc => ?_)
  · have hw := hw.1 hc
    refine g_aload_n dX11_reach_14 rfl rfl ?_
    refine g_callVV [] (ci := 11) dX11_reach_15 ml_X11_256 mk_X11_lookAtAll rfl rfl sh0 (Nat.le_of_ble_eq_true rfl) (Nat.le_of_ble_eq_true rfl) rfl (c_C_lookAtAll hw) (fun h3 hw => ?_)
    refine g_aload_n dX11_reach_18 rfl rfl ?_
    refine g_getO dX11_reach_19 fl_X11_65 sh0 rfl ?_
    refine g_getA dX11_reach_22 fl_X11_277 sh73 rfl ?_
    refine g_iload_n dX11_reach_25 rfl rfl ?_
    refine g_iald dX11_reach_26 ia75 al75 hw.1 ?_
    have hw := hw.2
    exact g_iret dX11_reach_27 hw
  · have hw := hw.2 hc
    refine g_bipush (v := (-2)) dX11_reach_11 (by decide) ?_
    exact g_iret dX11_reach_13 hw
theorem dX8_placesEqual_0 : decode cX8_placesEqual 0 = .ok (.iconst 0, 1) := by decide +kernel
theorem dX8_placesEqual_1 : decode cX8_placesEqual 1 = .ok (.istore_n 3, 1) := by decide +kernel
theorem dX8_placesEqual_2 : decode cX8_placesEqual 2 = .ok (.iconst 0, 1) := by decide +kernel
theorem dX8_placesEqual_3 : decode cX8_placesEqual 3 = .ok (.istore 4, 2) := by decide +kernel
theorem dX8_placesEqual_5 : decode cX8_placesEqual 5 = .ok (.iload 4, 2) := by decide +kernel
theorem dX8_placesEqual_7 : decode cX8_placesEqual 7 = .ok (.aload_n 0, 1) := by decide +kernel
theorem dX8_placesEqual_8 : decode cX8_placesEqual 8 = .ok (.invokevirtual 68, 3) := by decide +kernel
theorem dX8_placesEqual_11 : decode cX8_placesEqual 11 = .ok (.if_icmp .ge 31, 3) := by decide +kernel
theorem dX8_placesEqual_14 : decode cX8_placesEqual 14 = .ok (.iload 4, 2) := by decide +kernel
theorem dX8_placesEqual_16 : decode cX8_placesEqual 16 = .ok (.aload_n 1, 1) := by decide +kernel
theorem dX8_placesEqual_17 : decode cX8_placesEqual 17 = .ok (.arraylength, 1) := by decide +kernel
theorem dX8_placesEqual_18 : decode cX8_placesEqual 18 = .ok (.if_icmp .ge 24, 3) := by decide +kernel
theorem dX8_placesEqual_21 : decode cX8_placesEqual 21 = .ok (.aload_n 1, 1) := by decide +kernel
theorem dX8_placesEqual_22 : decode cX8_placesEqual 22 = .ok (.iload 4, 2) := by decide +kernel
theorem dX8_placesEqual_24 : decode cX8_placesEqual 24 = .ok (.iaload, 1) := by decide +kernel
theorem dX8_placesEqual_25 : decode cX8_placesEqual 25 = .ok (.iload_n 2, 1) := by decide +kernel
theorem dX8_placesEqual_26 : decode cX8_placesEqual 26 = .ok (.if_icmp .ne 10, 3) := by decide +kernel
theorem dX8_placesEqual_29 : decode cX8_placesEqual 29 = .ok (.iload_n 3, 1) := by decide +kernel
theorem dX8_placesEqual_30 : decode cX8_placesEqual 30 = .ok (.iconst 1, 1) := by decide +kernel
theorem dX8_placesEqual_31 : decode cX8_placesEqual 31 = .ok (.iload 4, 2) := by decide +kernel
theorem dX8_placesEqual_33 : decode cX8_placesEqual 33 = .ok (.ishl, 1) := by decide +kernel
theorem dX8_placesEqual_34 : decode cX8_placesEqual 34 = .ok (.ior, 1) := by decide +kernel
theorem dX8_placesEqual_35 : decode cX8_placesEqual 35 = .ok (.istore_n 3, 1) := by decide +kernel
theorem dX8_placesEqual_36 : decode cX8_placesEqual 36 = .ok (.iinc 4 1, 3) := by decide +kernel
theorem dX8_placesEqual_39 : decode cX8_placesEqual 39 = .ok (.goto (-34), 3) := by decide +kernel
theorem dX8_placesEqual_42 : decode cX8_placesEqual 42 = .ok (.iload_n 3, 1) := by decide +kernel
theorem dX8_placesEqual_43 : decode cX8_placesEqual 43 = .ok (.ireturn, 1) := by decide +kernel
def Survey_placesEqual_L5 (o1 : Nat) (x2 : Int32) (Q : Int32 → Hp → Prop) : Nat → Int32 → Int32 → Hp → Prop
  | 0, _, _, _ => False
  | n + 1, x3, x4, h => Survey_placeCount  h (fun r1 h2 => (r1 ≤ x4 → Q x3 h2) ∧ (¬ r1 ≤ x4 → ((Int32.ofNat (alen o1)) ≤ x4 → Q x3 h2) ∧ (¬ (Int32.ofNat (alen o1)) ≤ x4 → vp_in x4 (alen o1) ∧ ∀ J36 : Int32 → Hp → Prop, J36 = (fun x3_3 h4 => ∀ v5 : Int32, v5 = (x4 + 1) → Survey_placesEqual_L5 o1 x2 Q n x3_3 v5 h4) → (¬ (gI h2 o1 (x4).toNatClampNeg) = x2 → J36 x3 h2) ∧ ((gI h2 o1 (x4).toNatClampNeg) = x2 → ∀ v6 : Int32, v6 = (x3 ||| ((1 : Int32) <<< (x4 &&& 31))) → J36 v6 h2))))
set_option maxHeartbeats 4000000 in
set_option maxRecDepth 20000 in
theorem gl_Survey_placesEqual_L5 {G : Gx} {o1 : Nat} (ho1 : isA o1 0) {x2 : Int32} {Q : Int32 → Hp → Prop} : ∀ (n : Nat) (x3 : Int32) (x4 : Int32) (h : Hp), Survey_placesEqual_L5 o1 x2 Q n x3 x4 h → Go cX8_placesEqual 5 RX8 (some .int) 3 G (QI G Q) 5 [(0, .ref (gAd G 73)), (1, .ref (gAd G o1)), (2, .int x2), (3, .int x3), (4, .int x4)] [] h := by
  intro n
  induction n with
  | zero => intro _ _ h hw; exact False.elim hw
  | succ n ih =>
    intro x3 x4 h hw
    refine g_iload dX8_placesEqual_5 rfl ?_
    refine g_aload_n dX8_placesEqual_7 rfl rfl ?_
    refine g_callVI [] (ci := 8) dX8_placesEqual_8 ml_X8_68 mk_X8_placeCount rfl rfl sh73 (Nat.le_of_ble_eq_true rfl) (Nat.le_of_ble_eq_true rfl) rfl (c_Survey_placeCount hw) (fun r1 h2 hw => ?_)
    refine g_icmp_ge 42 dX8_placesEqual_11 rfl (fun hc => ?_) (fun hc => ?_)
    · have hw := hw.1 hc
      refine g_iload_n dX8_placesEqual_42 rfl rfl ?_
      exact g_iret dX8_placesEqual_43 hw
    · have hw := hw.2 hc
      refine g_iload dX8_placesEqual_14 rfl ?_
      refine g_aload_n dX8_placesEqual_16 rfl rfl ?_
      refine g_alen dX8_placesEqual_17 ho1 (by decide) rfl rfl ?_
      refine g_icmp_ge 42 dX8_placesEqual_18 rfl (fun hc => ?_) (fun hc => ?_)
      · have hw := hw.1 hc
        refine g_iload_n dX8_placesEqual_42 rfl rfl ?_
        exact g_iret dX8_placesEqual_43 hw
      · have hw := hw.2 hc
        refine g_aload_n dX8_placesEqual_21 rfl rfl ?_
        refine g_iload dX8_placesEqual_22 rfl ?_
        refine g_iald dX8_placesEqual_24 ho1 rfl hw.1 ?_
        have hw := hw.2
        refine g_iload_n dX8_placesEqual_25 rfl rfl ?_
        refine jn_el hw (fun J36 eJ36 hw => ?_)
        have hJ36 : ∀ (x3_3 : Int32) (h4 : Hp), J36 x3_3 h4 → Go cX8_placesEqual 5 RX8 (some .int) 3 G (QI G Q) 36 [(0, .ref (gAd G 73)), (1, .ref (gAd G o1)), (2, .int x2), (3, .int x3_3), (4, .int x4)] [] h4 := by
          intro x3_3 h4 hw
          subst eJ36
          obtain ⟨v5, ev5⟩ : ∃ y : Int32, y = (x4 + 1) := ⟨_, rfl⟩
          have hw := hw v5 ev5
          refine g_iinc dX8_placesEqual_36 rfl (by rw [ev5]; rfl) (by decide) (lv1 := [(0, .ref (gAd G 73)), (1, .ref (gAd G o1)), (2, .int x2), (3, .int x3_3), (4, .int v5)]) rfl ?_
          refine g_goto 5 dX8_placesEqual_39 rfl ?_
          exact ih _ _ _ hw
        refine g_icmp_ne 36 dX8_placesEqual_26 rfl (fun hc => ?_) (fun hc => ?_)
        · have hw := hw.1 hc
          exact hJ36 _ _ hw
        · have hw := hw.2 hc
          refine g_iload_n dX8_placesEqual_29 rfl rfl ?_
          refine g_iconst (v := 1) dX8_placesEqual_30 (by decide) ?_
          refine g_iload dX8_placesEqual_31 rfl ?_
          refine g_ishl dX8_placesEqual_33 ?_
          refine g_ior dX8_placesEqual_34 ?_
          refine g_topi (fun v6 ev6 => ?_)
          have hw := hw v6 ev6
          refine g_istore_n dX8_placesEqual_35 rfl (by decide) (lv1 := [(0, .ref (gAd G 73)), (1, .ref (gAd G o1)), (2, .int x2), (3, .int v6), (4, .int x4)]) rfl ?_
          exact hJ36 _ _ hw
def Survey_placesEqual (o1 : Nat) (x2 : Int32) (h : Hp) (Q : Int32 → Hp → Prop) : Prop := ∃ n7, Survey_placesEqual_L5 o1 x2 Q n7 0 0 h
set_option maxHeartbeats 4000000 in
set_option maxRecDepth 20000 in
theorem c_Survey_placesEqual {G : Gx} {o1 : Nat} (ho1 : isA o1 0) {x2 : Int32} {h : Hp} {Q : Int32 → Hp → Prop} (hw : Survey_placesEqual o1 x2 h Q) : Ct yX8_placesEqual cX8_placesEqual 5 (some .int) 3 G [.ref (gAd G 73), .ref (gAd G o1), .int x2] h (QI G Q) := by
  refine ct_go [(0, .ref (gAd G 73)), (1, .ref (gAd G o1)), (2, .int x2)] (plainFor_of_name (by decide)) rfl (Nat.le_of_ble_eq_true rfl) rfl ?_
  refine g_iconst (v := 0) dX8_placesEqual_0 (by decide) ?_
  refine g_istore_n dX8_placesEqual_1 rfl (by decide) (lv1 := [(0, .ref (gAd G 73)), (1, .ref (gAd G o1)), (2, .int x2), (3, .int 0)]) rfl ?_
  refine g_iconst (v := 0) dX8_placesEqual_2 (by decide) ?_
  refine g_istore dX8_placesEqual_3 (by decide) (lv1 := [(0, .ref (gAd G 73)), (1, .ref (gAd G o1)), (2, .int x2), (3, .int 0), (4, .int 0)]) rfl ?_
  obtain ⟨n7, hw⟩ := hw
  refine gl_Survey_placesEqual_L5 ho1  _ _ _ _ hw
theorem dX8_placesOnLeast_0 : decode cX8_placesOnLeast 0 = .ok (.ldc 60, 2) := by decide +kernel
theorem dX8_placesOnLeast_2 : decode cX8_placesOnLeast 2 = .ok (.istore_n 1, 1) := by decide +kernel
theorem dX8_placesOnLeast_3 : decode cX8_placesOnLeast 3 = .ok (.iconst 0, 1) := by decide +kernel
theorem dX8_placesOnLeast_4 : decode cX8_placesOnLeast 4 = .ok (.istore_n 2, 1) := by decide +kernel
theorem dX8_placesOnLeast_5 : decode cX8_placesOnLeast 5 = .ok (.iload_n 2, 1) := by decide +kernel
theorem dX8_placesOnLeast_6 : decode cX8_placesOnLeast 6 = .ok (.aload_n 0, 1) := by decide +kernel
theorem dX8_placesOnLeast_7 : decode cX8_placesOnLeast 7 = .ok (.invokevirtual 68, 3) := by decide +kernel
theorem dX8_placesOnLeast_10 : decode cX8_placesOnLeast 10 = .ok (.if_icmp .ge 20, 3) := by decide +kernel
theorem dX8_placesOnLeast_13 : decode cX8_placesOnLeast 13 = .ok (.iload_n 1, 1) := by decide +kernel
theorem dX8_placesOnLeast_14 : decode cX8_placesOnLeast 14 = .ok (.aload_n 0, 1) := by decide +kernel
theorem dX8_placesOnLeast_15 : decode cX8_placesOnLeast 15 = .ok (.getfield 29, 3) := by decide +kernel
theorem dX8_placesOnLeast_18 : decode cX8_placesOnLeast 18 = .ok (.iload_n 2, 1) := by decide +kernel
theorem dX8_placesOnLeast_19 : decode cX8_placesOnLeast 19 = .ok (.iaload, 1) := by decide +kernel
theorem dX8_placesOnLeast_20 : decode cX8_placesOnLeast 20 = .ok (.invokestatic 53, 3) := by decide +kernel
theorem dX8_placesOnLeast_23 : decode cX8_placesOnLeast 23 = .ok (.istore_n 1, 1) := by decide +kernel
theorem dX8_placesOnLeast_24 : decode cX8_placesOnLeast 24 = .ok (.iinc 2 1, 3) := by decide +kernel
theorem dX8_placesOnLeast_27 : decode cX8_placesOnLeast 27 = .ok (.goto (-22), 3) := by decide +kernel
theorem dX8_placesOnLeast_30 : decode cX8_placesOnLeast 30 = .ok (.aload_n 0, 1) := by decide +kernel
theorem dX8_placesOnLeast_31 : decode cX8_placesOnLeast 31 = .ok (.aload_n 0, 1) := by decide +kernel
theorem dX8_placesOnLeast_32 : decode cX8_placesOnLeast 32 = .ok (.getfield 29, 3) := by decide +kernel
theorem dX8_placesOnLeast_35 : decode cX8_placesOnLeast 35 = .ok (.iload_n 1, 1) := by decide +kernel
theorem dX8_placesOnLeast_36 : decode cX8_placesOnLeast 36 = .ok (.invokevirtual 96, 3) := by decide +kernel
theorem dX8_placesOnLeast_39 : decode cX8_placesOnLeast 39 = .ok (.ireturn, 1) := by decide +kernel
theorem ml_X8_96 : Cond.methodLink RX8 96 yX8_placesEqual ∈ Wd := mW 1067 (by decide +kernel) rfl
theorem mk_X8_placesEqual : MokV yX8_placesEqual cX8_placesEqual 5 (some .int) 2 := ⟨⟨mW 9 (by decide +kernel) rfl, mW 1070 (by decide +kernel) rfl, ⟨by decide, by decide, by decide +kernel⟩, by decide⟩, mW 1069 (by decide +kernel) rfl, mS (q := (yX8_placesEqual, 10)) 36 (by decide +kernel)⟩
def Survey_placesOnLeast_L5 (Q : Int32 → Hp → Prop) : Nat → Int32 → Int32 → Hp → Prop
  | 0, _, _, _ => False
  | n + 1, x1, x2, h => Survey_placeCount  h (fun r1 h2 => (r1 ≤ x2 → Survey_placesEqual 76 x1 h2 (fun r3 h4 => Q r3 h4)) ∧ (¬ r1 ≤ x2 → vp_in x2 8 ∧ J9_min_7cf53 x1 (gI h2 76 (x2).toNatClampNeg) h2 (fun r5 h6 => ∀ v7 : Int32, v7 = (x2 + 1) → Survey_placesOnLeast_L5 Q n r5 v7 h6)))
set_option maxHeartbeats 4000000 in
set_option maxRecDepth 20000 in
theorem gl_Survey_placesOnLeast_L5 {G : Gx}  {Q : Int32 → Hp → Prop} : ∀ (n : Nat) (x1 : Int32) (x2 : Int32) (h : Hp), Survey_placesOnLeast_L5 Q n x1 x2 h → Go cX8_placesOnLeast 3 RX8 (some .int) 4 G (QI G Q) 5 [(0, .ref (gAd G 73)), (1, .int x1), (2, .int x2)] [] h := by
  intro n
  induction n with
  | zero => intro _ _ h hw; exact False.elim hw
  | succ n ih =>
    intro x1 x2 h hw
    refine g_iload_n dX8_placesOnLeast_5 rfl rfl ?_
    refine g_aload_n dX8_placesOnLeast_6 rfl rfl ?_
    refine g_callVI [] (ci := 8) dX8_placesOnLeast_7 ml_X8_68 mk_X8_placeCount rfl rfl sh73 (Nat.le_of_ble_eq_true rfl) (Nat.le_of_ble_eq_true rfl) rfl (c_Survey_placeCount hw) (fun r1 h2 hw => ?_)
    refine g_icmp_ge 30 dX8_placesOnLeast_10 rfl (fun hc => ?_) (fun hc => ?_)
    · have hw := hw.1 hc
      refine g_aload_n dX8_placesOnLeast_30 rfl rfl ?_
      refine g_aload_n dX8_placesOnLeast_31 rfl rfl ?_
      refine g_getA dX8_placesOnLeast_32 fl_X8_29 sh73 rfl ?_
      refine g_iload_n dX8_placesOnLeast_35 rfl rfl ?_
      refine g_callVI [.ref (gAd G 76), .int x1] (ci := 8) dX8_placesOnLeast_36 ml_X8_96 mk_X8_placesEqual rfl rfl sh73 (Nat.le_of_ble_eq_true rfl) (Nat.le_of_ble_eq_true rfl) rfl (c_Survey_placesEqual ia76 hw) (fun r3 h4 hw => ?_)
      exact g_iret dX8_placesOnLeast_39 hw
    · have hw := hw.2 hc
      refine g_iload_n dX8_placesOnLeast_13 rfl rfl ?_
      refine g_aload_n dX8_placesOnLeast_14 rfl rfl ?_
      refine g_getA dX8_placesOnLeast_15 fl_X8_29 sh73 rfl ?_
      refine g_iload_n dX8_placesOnLeast_18 rfl rfl ?_
      refine g_iald dX8_placesOnLeast_19 ia76 al76 hw.1 ?_
      have hw := hw.2
      refine g_callSI [.int x1, .int (gI h2 76 (x2).toNatClampNeg)] dX8_placesOnLeast_20 ml_X8_53 mk_J9_min_7cf53 rfl (Nat.le_of_ble_eq_true rfl) (Nat.le_of_ble_eq_true rfl) rfl (c_J9_min_7cf53 hw) (fun r5 h6 hw => ?_)
      refine g_istore_n dX8_placesOnLeast_23 rfl (by decide) (lv1 := [(0, .ref (gAd G 73)), (1, .int r5), (2, .int x2)]) rfl ?_
      obtain ⟨v7, ev7⟩ : ∃ y : Int32, y = (x2 + 1) := ⟨_, rfl⟩
      have hw := hw v7 ev7
      refine g_iinc dX8_placesOnLeast_24 rfl (by rw [ev7]; rfl) (by decide) (lv1 := [(0, .ref (gAd G 73)), (1, .int r5), (2, .int v7)]) rfl ?_
      refine g_goto 5 dX8_placesOnLeast_27 rfl ?_
      exact ih _ _ _ hw
def Survey_placesOnLeast  (h : Hp) (Q : Int32 → Hp → Prop) : Prop := ∃ n8, Survey_placesOnLeast_L5 Q n8 2147483647 0 h
set_option maxHeartbeats 4000000 in
set_option maxRecDepth 20000 in
theorem c_Survey_placesOnLeast {G : Gx}   {h : Hp} {Q : Int32 → Hp → Prop} (hw : Survey_placesOnLeast  h Q) : Ct yX8_placesOnLeast cX8_placesOnLeast 3 (some .int) 4 G [.ref (gAd G 73)] h (QI G Q) := by
  refine ct_go [(0, .ref (gAd G 73))] (plainFor_of_name (by decide)) rfl (Nat.le_of_ble_eq_true rfl) rfl ?_
  refine g_ldc dX8_placesOnLeast_0 kc_X8_60 ?_
  refine g_istore_n dX8_placesOnLeast_2 rfl (by decide) (lv1 := [(0, .ref (gAd G 73)), (1, .int 2147483647)]) rfl ?_
  refine g_iconst (v := 0) dX8_placesOnLeast_3 (by decide) ?_
  refine g_istore_n dX8_placesOnLeast_4 rfl (by decide) (lv1 := [(0, .ref (gAd G 73)), (1, .int 2147483647), (2, .int 0)]) rfl ?_
  obtain ⟨n8, hw⟩ := hw
  refine gl_Survey_placesOnLeast_L5   _ _ _ _ hw
theorem dX8_placesOnGreatest_0 : decode cX8_placesOnGreatest 0 = .ok (.ldc 67, 2) := by decide +kernel
theorem dX8_placesOnGreatest_2 : decode cX8_placesOnGreatest 2 = .ok (.istore_n 1, 1) := by decide +kernel
theorem dX8_placesOnGreatest_3 : decode cX8_placesOnGreatest 3 = .ok (.iconst 0, 1) := by decide +kernel
theorem dX8_placesOnGreatest_4 : decode cX8_placesOnGreatest 4 = .ok (.istore_n 2, 1) := by decide +kernel
theorem dX8_placesOnGreatest_5 : decode cX8_placesOnGreatest 5 = .ok (.iload_n 2, 1) := by decide +kernel
theorem dX8_placesOnGreatest_6 : decode cX8_placesOnGreatest 6 = .ok (.aload_n 0, 1) := by decide +kernel
theorem dX8_placesOnGreatest_7 : decode cX8_placesOnGreatest 7 = .ok (.invokevirtual 68, 3) := by decide +kernel
theorem dX8_placesOnGreatest_10 : decode cX8_placesOnGreatest 10 = .ok (.if_icmp .ge 20, 3) := by decide +kernel
theorem dX8_placesOnGreatest_13 : decode cX8_placesOnGreatest 13 = .ok (.iload_n 1, 1) := by decide +kernel
theorem dX8_placesOnGreatest_14 : decode cX8_placesOnGreatest 14 = .ok (.aload_n 0, 1) := by decide +kernel
theorem dX8_placesOnGreatest_15 : decode cX8_placesOnGreatest 15 = .ok (.getfield 32, 3) := by decide +kernel
theorem dX8_placesOnGreatest_18 : decode cX8_placesOnGreatest 18 = .ok (.iload_n 2, 1) := by decide +kernel
theorem dX8_placesOnGreatest_19 : decode cX8_placesOnGreatest 19 = .ok (.iaload, 1) := by decide +kernel
theorem dX8_placesOnGreatest_20 : decode cX8_placesOnGreatest 20 = .ok (.invokestatic 93, 3) := by decide +kernel
theorem dX8_placesOnGreatest_23 : decode cX8_placesOnGreatest 23 = .ok (.istore_n 1, 1) := by decide +kernel
theorem dX8_placesOnGreatest_24 : decode cX8_placesOnGreatest 24 = .ok (.iinc 2 1, 3) := by decide +kernel
theorem dX8_placesOnGreatest_27 : decode cX8_placesOnGreatest 27 = .ok (.goto (-22), 3) := by decide +kernel
theorem dX8_placesOnGreatest_30 : decode cX8_placesOnGreatest 30 = .ok (.aload_n 0, 1) := by decide +kernel
theorem dX8_placesOnGreatest_31 : decode cX8_placesOnGreatest 31 = .ok (.aload_n 0, 1) := by decide +kernel
theorem dX8_placesOnGreatest_32 : decode cX8_placesOnGreatest 32 = .ok (.getfield 32, 3) := by decide +kernel
theorem dX8_placesOnGreatest_35 : decode cX8_placesOnGreatest 35 = .ok (.iload_n 1, 1) := by decide +kernel
theorem dX8_placesOnGreatest_36 : decode cX8_placesOnGreatest 36 = .ok (.invokevirtual 96, 3) := by decide +kernel
theorem dX8_placesOnGreatest_39 : decode cX8_placesOnGreatest 39 = .ok (.ireturn, 1) := by decide +kernel
def Survey_placesOnGreatest_L5 (Q : Int32 → Hp → Prop) : Nat → Int32 → Int32 → Hp → Prop
  | 0, _, _, _ => False
  | n + 1, x1, x2, h => Survey_placeCount  h (fun r1 h2 => (r1 ≤ x2 → Survey_placesEqual 77 x1 h2 (fun r3 h4 => Q r3 h4)) ∧ (¬ r1 ≤ x2 → vp_in x2 8 ∧ J9_max_7cf53 x1 (gI h2 77 (x2).toNatClampNeg) h2 (fun r5 h6 => ∀ v7 : Int32, v7 = (x2 + 1) → Survey_placesOnGreatest_L5 Q n r5 v7 h6)))
set_option maxHeartbeats 4000000 in
set_option maxRecDepth 20000 in
theorem gl_Survey_placesOnGreatest_L5 {G : Gx}  {Q : Int32 → Hp → Prop} : ∀ (n : Nat) (x1 : Int32) (x2 : Int32) (h : Hp), Survey_placesOnGreatest_L5 Q n x1 x2 h → Go cX8_placesOnGreatest 3 RX8 (some .int) 4 G (QI G Q) 5 [(0, .ref (gAd G 73)), (1, .int x1), (2, .int x2)] [] h := by
  intro n
  induction n with
  | zero => intro _ _ h hw; exact False.elim hw
  | succ n ih =>
    intro x1 x2 h hw
    refine g_iload_n dX8_placesOnGreatest_5 rfl rfl ?_
    refine g_aload_n dX8_placesOnGreatest_6 rfl rfl ?_
    refine g_callVI [] (ci := 8) dX8_placesOnGreatest_7 ml_X8_68 mk_X8_placeCount rfl rfl sh73 (Nat.le_of_ble_eq_true rfl) (Nat.le_of_ble_eq_true rfl) rfl (c_Survey_placeCount hw) (fun r1 h2 hw => ?_)
    refine g_icmp_ge 30 dX8_placesOnGreatest_10 rfl (fun hc => ?_) (fun hc => ?_)
    · have hw := hw.1 hc
      refine g_aload_n dX8_placesOnGreatest_30 rfl rfl ?_
      refine g_aload_n dX8_placesOnGreatest_31 rfl rfl ?_
      refine g_getA dX8_placesOnGreatest_32 fl_X8_32 sh73 rfl ?_
      refine g_iload_n dX8_placesOnGreatest_35 rfl rfl ?_
      refine g_callVI [.ref (gAd G 77), .int x1] (ci := 8) dX8_placesOnGreatest_36 ml_X8_96 mk_X8_placesEqual rfl rfl sh73 (Nat.le_of_ble_eq_true rfl) (Nat.le_of_ble_eq_true rfl) rfl (c_Survey_placesEqual ia77 hw) (fun r3 h4 hw => ?_)
      exact g_iret dX8_placesOnGreatest_39 hw
    · have hw := hw.2 hc
      refine g_iload_n dX8_placesOnGreatest_13 rfl rfl ?_
      refine g_aload_n dX8_placesOnGreatest_14 rfl rfl ?_
      refine g_getA dX8_placesOnGreatest_15 fl_X8_32 sh73 rfl ?_
      refine g_iload_n dX8_placesOnGreatest_18 rfl rfl ?_
      refine g_iald dX8_placesOnGreatest_19 ia77 al77 hw.1 ?_
      have hw := hw.2
      refine g_callSI [.int x1, .int (gI h2 77 (x2).toNatClampNeg)] dX8_placesOnGreatest_20 ml_X8_93 mk_J9_max_7cf53 rfl (Nat.le_of_ble_eq_true rfl) (Nat.le_of_ble_eq_true rfl) rfl (c_J9_max_7cf53 hw) (fun r5 h6 hw => ?_)
      refine g_istore_n dX8_placesOnGreatest_23 rfl (by decide) (lv1 := [(0, .ref (gAd G 73)), (1, .int r5), (2, .int x2)]) rfl ?_
      obtain ⟨v7, ev7⟩ : ∃ y : Int32, y = (x2 + 1) := ⟨_, rfl⟩
      have hw := hw v7 ev7
      refine g_iinc dX8_placesOnGreatest_24 rfl (by rw [ev7]; rfl) (by decide) (lv1 := [(0, .ref (gAd G 73)), (1, .int r5), (2, .int v7)]) rfl ?_
      refine g_goto 5 dX8_placesOnGreatest_27 rfl ?_
      exact ih _ _ _ hw
def Survey_placesOnGreatest  (h : Hp) (Q : Int32 → Hp → Prop) : Prop := ∃ n8, Survey_placesOnGreatest_L5 Q n8 (-2147483648) 0 h
set_option maxHeartbeats 4000000 in
set_option maxRecDepth 20000 in
theorem c_Survey_placesOnGreatest {G : Gx}   {h : Hp} {Q : Int32 → Hp → Prop} (hw : Survey_placesOnGreatest  h Q) : Ct yX8_placesOnGreatest cX8_placesOnGreatest 3 (some .int) 4 G [.ref (gAd G 73)] h (QI G Q) := by
  refine ct_go [(0, .ref (gAd G 73))] (plainFor_of_name (by decide)) rfl (Nat.le_of_ble_eq_true rfl) rfl ?_
  refine g_ldc dX8_placesOnGreatest_0 kc_X8_67 ?_
  refine g_istore_n dX8_placesOnGreatest_2 rfl (by decide) (lv1 := [(0, .ref (gAd G 73)), (1, .int (-2147483648))]) rfl ?_
  refine g_iconst (v := 0) dX8_placesOnGreatest_3 (by decide) ?_
  refine g_istore_n dX8_placesOnGreatest_4 rfl (by decide) (lv1 := [(0, .ref (gAd G 73)), (1, .int (-2147483648)), (2, .int 0)]) rfl ?_
  obtain ⟨n8, hw⟩ := hw
  refine gl_Survey_placesOnGreatest_L5   _ _ _ _ hw
theorem dX11_onRing_0 : decode cX11_onRing 0 = .ok (.iload_n 1, 1) := by decide +kernel
theorem dX11_onRing_1 : decode cX11_onRing 1 = .ok (.invokestatic 262, 3) := by decide +kernel
theorem dX11_onRing_4 : decode cX11_onRing 4 = .ok (.ifCond .ne 6, 3) := by decide +kernel
theorem dX11_onRing_7 : decode cX11_onRing 7 = .ok (.bipush (-2), 2) := by decide +kernel
theorem dX11_onRing_9 : decode cX11_onRing 9 = .ok (.ireturn, 1) := by decide +kernel
theorem dX11_onRing_10 : decode cX11_onRing 10 = .ok (.aload_n 0, 1) := by decide +kernel
theorem dX11_onRing_11 : decode cX11_onRing 11 = .ok (.invokevirtual 256, 3) := by decide +kernel
theorem dX11_onRing_14 : decode cX11_onRing 14 = .ok (.iload_n 1, 1) := by decide +kernel
theorem dX11_onRing_15 : decode cX11_onRing 15 = .ok (.ifCond .ne 13, 3) := by decide +kernel
theorem dX11_onRing_18 : decode cX11_onRing 18 = .ok (.aload_n 0, 1) := by decide +kernel
theorem dX11_onRing_19 : decode cX11_onRing 19 = .ok (.getfield 65, 3) := by decide +kernel
theorem dX11_onRing_22 : decode cX11_onRing 22 = .ok (.invokevirtual 280, 3) := by decide +kernel
theorem dX11_onRing_25 : decode cX11_onRing 25 = .ok (.goto 10, 3) := by decide +kernel
theorem dX11_onRing_28 : decode cX11_onRing 28 = .ok (.aload_n 0, 1) := by decide +kernel
theorem dX11_onRing_29 : decode cX11_onRing 29 = .ok (.getfield 65, 3) := by decide +kernel
theorem dX11_onRing_32 : decode cX11_onRing 32 = .ok (.invokevirtual 284, 3) := by decide +kernel
theorem dX11_onRing_35 : decode cX11_onRing 35 = .ok (.ireturn, 1) := by decide +kernel
theorem ml_X11_284 : Cond.methodLink RX11 284 yX8_placesOnGreatest ∈ Wd := mW 1071 (by decide +kernel) rfl
theorem mk_X8_placesOnGreatest : MokV yX8_placesOnGreatest cX8_placesOnGreatest 3 (some .int) 0 := ⟨⟨mW 9 (by decide +kernel) rfl, mW 1074 (by decide +kernel) rfl, ⟨by decide, by decide, by decide +kernel⟩, by decide⟩, mW 1072 (by decide +kernel) rfl, mW 1073 (by decide +kernel) rfl⟩
theorem ml_X11_280 : Cond.methodLink RX11 280 yX8_placesOnLeast ∈ Wd := mW 1063 (by decide +kernel) rfl
theorem mk_X8_placesOnLeast : MokV yX8_placesOnLeast cX8_placesOnLeast 3 (some .int) 0 := ⟨⟨mW 9 (by decide +kernel) rfl, mW 1066 (by decide +kernel) rfl, ⟨by decide, by decide, by decide +kernel⟩, by decide⟩, mW 1064 (by decide +kernel) rfl, mW 1065 (by decide +kernel) rfl⟩
def C_onRing (x1 : Int32) (h : Hp) (Q : Int32 → Hp → Prop) : Prop := C_isEither x1 h (fun r1 h2 => (¬ r1 = 0 → C_lookAtAll  h2 (fun h3 => (¬ x1 = 0 → Survey_placesOnGreatest  h3 (fun r4 h5 => Q r4 h5)) ∧ (x1 = 0 → Survey_placesOnLeast  h3 (fun r6 h7 => Q r6 h7)))) ∧ (r1 = 0 → Q (-2) h2))
set_option maxHeartbeats 4000000 in
set_option maxRecDepth 20000 in
theorem c_C_onRing {G : Gx}  {x1 : Int32} {h : Hp} {Q : Int32 → Hp → Prop} (hw : C_onRing x1 h Q) : Ct yX11_onRing cX11_onRing 2 (some .int) 16 G [.ref (gAd G 0), .int x1] h (QI G Q) := by
  refine ct_go [(0, .ref (gAd G 0)), (1, .int x1)] (plainFor_of_name (by decide)) rfl (Nat.le_of_ble_eq_true rfl) rfl ?_
  refine g_iload_n dX11_onRing_0 rfl rfl ?_
  refine g_callSI [.int x1] dX11_onRing_1 ml_X11_262 mk_X11_isEither rfl (Nat.le_of_ble_eq_true rfl) (Nat.le_of_ble_eq_true rfl) rfl (c_C_isEither hw) (fun r1 h2 hw => ?_)
  refine g_if_ne 10 dX11_onRing_4 rfl (fun hc => ?_) (fun hc => ?_)
  · have hw := hw.1 hc
    refine g_aload_n dX11_onRing_10 rfl rfl ?_
    refine g_callVV [] (ci := 11) dX11_onRing_11 ml_X11_256 mk_X11_lookAtAll rfl rfl sh0 (Nat.le_of_ble_eq_true rfl) (Nat.le_of_ble_eq_true rfl) rfl (c_C_lookAtAll hw) (fun h3 hw => ?_)
    refine g_iload_n dX11_onRing_14 rfl rfl ?_
    refine g_if_ne 28 dX11_onRing_15 rfl (fun hc => ?_) (fun hc => ?_)
    · have hw := hw.1 hc
      refine g_aload_n dX11_onRing_28 rfl rfl ?_
      refine g_getO dX11_onRing_29 fl_X11_65 sh0 rfl ?_
      refine g_callVI [] (ci := 8) dX11_onRing_32 ml_X11_284 mk_X8_placesOnGreatest rfl rfl sh73 (Nat.le_of_ble_eq_true rfl) (Nat.le_of_ble_eq_true rfl) rfl (c_Survey_placesOnGreatest hw) (fun r4 h5 hw => ?_)
      exact g_iret dX11_onRing_35 hw
    · have hw := hw.2 hc
      refine g_aload_n dX11_onRing_18 rfl rfl ?_
      refine g_getO dX11_onRing_19 fl_X11_65 sh0 rfl ?_
      refine g_callVI [] (ci := 8) dX11_onRing_22 ml_X11_280 mk_X8_placesOnLeast rfl rfl sh73 (Nat.le_of_ble_eq_true rfl) (Nat.le_of_ble_eq_true rfl) rfl (c_Survey_placesOnLeast hw) (fun r6 h7 hw => ?_)
      refine g_goto 35 dX11_onRing_25 rfl ?_
      exact g_iret dX11_onRing_35 hw
  · have hw := hw.2 hc
    refine g_bipush (v := (-2)) dX11_onRing_7 (by decide) ?_
    exact g_iret dX11_onRing_9 hw
theorem dX0_valueAt_0 : decode cX0_valueAt 0 = .ok (.iload_n 1, 1) := by decide +kernel
theorem dX0_valueAt_1 : decode cX0_valueAt 1 = .ok (.ifCond .lt 21, 3) := by decide +kernel
theorem dX0_valueAt_4 : decode cX0_valueAt 4 = .ok (.iload_n 1, 1) := by decide +kernel
theorem dX0_valueAt_5 : decode cX0_valueAt 5 = .ok (.aload_n 0, 1) := by decide +kernel
theorem dX0_valueAt_6 : decode cX0_valueAt 6 = .ok (.getfield 19, 3) := by decide +kernel
theorem dX0_valueAt_9 : decode cX0_valueAt 9 = .ok (.arraylength, 1) := by decide +kernel
theorem dX0_valueAt_10 : decode cX0_valueAt 10 = .ok (.if_icmp .ge 12, 3) := by decide +kernel
theorem dX0_valueAt_13 : decode cX0_valueAt 13 = .ok (.aload_n 0, 1) := by decide +kernel
theorem dX0_valueAt_14 : decode cX0_valueAt 14 = .ok (.getfield 19, 3) := by decide +kernel
theorem dX0_valueAt_17 : decode cX0_valueAt 17 = .ok (.iload_n 1, 1) := by decide +kernel
theorem dX0_valueAt_18 : decode cX0_valueAt 18 = .ok (.iaload, 1) := by decide +kernel
theorem dX0_valueAt_19 : decode cX0_valueAt 19 = .ok (.goto 4, 3) := by decide +kernel
theorem dX0_valueAt_22 : decode cX0_valueAt 22 = .ok (.iconst 0, 1) := by decide +kernel
theorem dX0_valueAt_23 : decode cX0_valueAt 23 = .ok (.ireturn, 1) := by decide +kernel
def Game_valueAt (x1 : Int32) (h : Hp) (Q : Int32 → Hp → Prop) : Prop := (x1 < 0 → Q 0 h) ∧ (¬ x1 < 0 → (8 ≤ x1 → Q 0 h) ∧ (¬ 8 ≤ x1 → vp_in x1 8 ∧ Q (gI h 82 (x1).toNatClampNeg) h))
set_option maxHeartbeats 4000000 in
set_option maxRecDepth 20000 in
theorem c_Game_valueAt {G : Gx}  {x1 : Int32} {h : Hp} {Q : Int32 → Hp → Prop} (hw : Game_valueAt x1 h Q) : Ct yX0_valueAt cX0_valueAt 2 (some .int) 1 G [.ref (gAd G 80), .int x1] h (QI G Q) := by
  refine ct_go [(0, .ref (gAd G 80)), (1, .int x1)] (plainFor_of_name (by decide)) rfl (Nat.le_of_ble_eq_true rfl) rfl ?_
  refine g_iload_n dX0_valueAt_0 rfl rfl ?_
  refine g_if_lt 22 dX0_valueAt_1 rfl (fun hc => ?_) (fun hc => ?_)
  · have hw := hw.1 hc
    refine g_iconst (v := 0) dX0_valueAt_22 (by decide) ?_
    exact g_iret dX0_valueAt_23 hw
  · have hw := hw.2 hc
    refine g_iload_n dX0_valueAt_4 rfl rfl ?_
    refine g_aload_n dX0_valueAt_5 rfl rfl ?_
    refine g_getA dX0_valueAt_6 fl_X0_19 sh80 rfl ?_
    refine g_alen dX0_valueAt_9 ia82 (by decide) al82 (v := 8) (by decide) ?_
    refine g_icmp_ge 22 dX0_valueAt_10 rfl (fun hc => ?_) (fun hc => ?_)
    · have hw := hw.1 hc
      refine g_iconst (v := 0) dX0_valueAt_22 (by decide) ?_
      exact g_iret dX0_valueAt_23 hw
    · have hw := hw.2 hc
      refine g_aload_n dX0_valueAt_13 rfl rfl ?_
      refine g_getA dX0_valueAt_14 fl_X0_19 sh80 rfl ?_
      refine g_iload_n dX0_valueAt_17 rfl rfl ?_
      refine g_iald dX0_valueAt_18 ia82 al82 hw.1 ?_
      have hw := hw.2
      refine g_goto 23 dX0_valueAt_19 rfl ?_
      exact g_iret dX0_valueAt_23 hw
theorem dX11_worth_0 : decode cX11_worth 0 = .ok (.aload_n 0, 1) := by decide +kernel
theorem dX11_worth_1 : decode cX11_worth 1 = .ok (.getfield 27, 3) := by decide +kernel
theorem dX11_worth_4 : decode cX11_worth 4 = .ok (.iload_n 1, 1) := by decide +kernel
theorem dX11_worth_5 : decode cX11_worth 5 = .ok (.invokevirtual 129, 3) := by decide +kernel
theorem dX11_worth_8 : decode cX11_worth 8 = .ok (.ifCond .eq 10, 3) := by decide +kernel
theorem dX11_worth_11 : decode cX11_worth 11 = .ok (.iload_n 2, 1) := by decide +kernel
theorem dX11_worth_12 : decode cX11_worth 12 = .ok (.invokestatic 262, 3) := by decide +kernel
theorem dX11_worth_15 : decode cX11_worth 15 = .ok (.ifCond .ne 7, 3) := by decide +kernel
theorem dX11_worth_18 : decode cX11_worth 18 = .ok (.ldc2_w 170, 3) := by decide +kernel
theorem dX11_worth_21 : decode cX11_worth 21 = .ok (.lreturn, 1) := by decide +kernel
theorem dX11_worth_22 : decode cX11_worth 22 = .ok (.aload_n 0, 1) := by decide +kernel
theorem dX11_worth_23 : decode cX11_worth 23 = .ok (.getfield 72, 3) := by decide +kernel
theorem dX11_worth_26 : decode cX11_worth 26 = .ok (.aload_n 0, 1) := by decide +kernel
theorem dX11_worth_27 : decode cX11_worth 27 = .ok (.getfield 27, 3) := by decide +kernel
theorem dX11_worth_30 : decode cX11_worth 30 = .ok (.aload_n 0, 1) := by decide +kernel
theorem dX11_worth_31 : decode cX11_worth 31 = .ok (.getfield 34, 3) := by decide +kernel
theorem dX11_worth_34 : decode cX11_worth 34 = .ok (.getfield 140, 3) := by decide +kernel
theorem dX11_worth_37 : decode cX11_worth 37 = .ok (.aload_n 0, 1) := by decide +kernel
theorem dX11_worth_38 : decode cX11_worth 38 = .ok (.getfield 65, 3) := by decide +kernel
theorem dX11_worth_41 : decode cX11_worth 41 = .ok (.invokevirtual 205, 3) := by decide +kernel
theorem dX11_worth_44 : decode cX11_worth 44 = .ok (.aload_n 0, 1) := by decide +kernel
theorem dX11_worth_45 : decode cX11_worth 45 = .ok (.getfield 72, 3) := by decide +kernel
theorem dX11_worth_48 : decode cX11_worth 48 = .ok (.iload_n 1, 1) := by decide +kernel
theorem dX11_worth_49 : decode cX11_worth 49 = .ok (.invokevirtual 293, 3) := by decide +kernel
theorem dX11_worth_52 : decode cX11_worth 52 = .ok (.i2l, 1) := by decide +kernel
theorem dX11_worth_53 : decode cX11_worth 53 = .ok (.ldc2_w 271, 3) := by decide +kernel
theorem dX11_worth_56 : decode cX11_worth 56 = .ok (.iload_n 2, 1) := by decide +kernel
theorem dX11_worth_57 : decode cX11_worth 57 = .ok (.invokestatic 273, 3) := by decide +kernel
theorem dX11_worth_60 : decode cX11_worth 60 = .ok (.lreturn, 1) := by decide +kernel
theorem ml_X11_293 : Cond.methodLink RX11 293 yX0_valueAt ∈ Wd := mW 1079 (by decide +kernel) rfl
theorem mk_X0_valueAt : MokV yX0_valueAt cX0_valueAt 2 (some .int) 1 := ⟨⟨mW 10 (by decide +kernel) rfl, mW 1082 (by decide +kernel) rfl, ⟨by decide, by decide, by decide +kernel⟩, by decide⟩, mW 1080 (by decide +kernel) rfl, mW 1081 (by decide +kernel) rfl⟩
def C_worth (x1 : Int32) (x2 : Int32) (h : Hp) (Q : Int64 → Hp → Prop) : Prop := Land_hasPlace x1 h (fun r1 h2 => (r1 = 0 → Q (-9000000000000000002 : Int64) h2) ∧ (¬ r1 = 0 → C_isEither x2 h2 (fun r3 h4 => (¬ r3 = 0 → Game_solve (gI h4 20 3) h4 (fun h5 => Game_valueAt x1 h5 (fun r6 h7 => C_lowestTerms ((r6).toInt64) (840 : Int64) x2 h7 (fun r8 h9 => Q r8 h9)))) ∧ (r3 = 0 → Q (-9000000000000000002 : Int64) h4))))
set_option maxHeartbeats 4000000 in
set_option maxRecDepth 20000 in
theorem c_C_worth {G : Gx}  {x1 : Int32} {x2 : Int32} {h : Hp} {Q : Int64 → Hp → Prop} (hw : C_worth x1 x2 h Q) : Ct yX11_worth cX11_worth 3 (some .long) 17 G [.ref (gAd G 0), .int x1, .int x2] h (QJ G Q) := by
  refine ct_go [(0, .ref (gAd G 0)), (1, .int x1), (2, .int x2)] (plainFor_of_name (by decide)) rfl (Nat.le_of_ble_eq_true rfl) rfl ?_
  refine g_aload_n dX11_worth_0 rfl rfl ?_
  refine g_getO dX11_worth_1 fl_X11_27 sh0 rfl ?_
  refine g_iload_n dX11_worth_4 rfl rfl ?_
  refine g_callVI [.int x1] (ci := 2) dX11_worth_5 ml_X11_129 mk_X2_hasPlace rfl rfl sh14 (Nat.le_of_ble_eq_true rfl) (Nat.le_of_ble_eq_true rfl) rfl (c_Land_hasPlace hw) (fun r1 h2 hw => ?_)
  refine g_if_eq 18 dX11_worth_8 rfl (fun hc => ?_) (fun hc => ?_)
  · have hw := hw.1 hc
    refine g_ldc2 dX11_worth_18 kl_X11_170 ?_
    exact g_lret dX11_worth_21 hw
  · have hw := hw.2 hc
    refine g_iload_n dX11_worth_11 rfl rfl ?_
    refine g_callSI [.int x2] dX11_worth_12 ml_X11_262 mk_X11_isEither rfl (Nat.le_of_ble_eq_true rfl) (Nat.le_of_ble_eq_true rfl) rfl (c_C_isEither hw) (fun r3 h4 hw => ?_)
    refine g_if_ne 22 dX11_worth_15 rfl (fun hc => ?_) (fun hc => ?_)
    · have hw := hw.1 hc
      refine g_aload_n dX11_worth_22 rfl rfl ?_
      refine g_getO dX11_worth_23 fl_X11_72 sh0 rfl ?_
      refine g_aload_n dX11_worth_26 rfl rfl ?_
      refine g_getO dX11_worth_27 fl_X11_27 sh0 rfl ?_
      refine g_aload_n dX11_worth_30 rfl rfl ?_
      refine g_getO dX11_worth_31 fl_X11_34 sh0 rfl ?_
      refine g_getI dX11_worth_34 fl_X11_140 sh20 rfl ?_
      refine g_aload_n dX11_worth_37 rfl rfl ?_
      refine g_getO dX11_worth_38 fl_X11_65 sh0 rfl ?_
      refine g_callVV [.ref (gAd G 14), .int (gI h4 20 3), .ref (gAd G 73)] (ci := 0) dX11_worth_41 ml_X11_205 mk_X0_solve rfl rfl sh80 (Nat.le_of_ble_eq_true rfl) (Nat.le_of_ble_eq_true rfl) rfl (c_Game_solve hw) (fun h5 hw => ?_)
      refine g_aload_n dX11_worth_44 rfl rfl ?_
      refine g_getO dX11_worth_45 fl_X11_72 sh0 rfl ?_
      refine g_iload_n dX11_worth_48 rfl rfl ?_
      refine g_callVI [.int x1] (ci := 0) dX11_worth_49 ml_X11_293 mk_X0_valueAt rfl rfl sh80 (Nat.le_of_ble_eq_true rfl) (Nat.le_of_ble_eq_true rfl) rfl (c_Game_valueAt hw) (fun r6 h7 hw => ?_)
      refine g_i2l dX11_worth_52 ?_
      refine g_ldc2 dX11_worth_53 kl_X11_271 ?_
      refine g_iload_n dX11_worth_56 rfl rfl ?_
      refine g_callSJ [.long ((r6).toInt64), .long (840 : Int64), .int x2] dX11_worth_57 ml_X11_273 mk_X11_lowestTerms rfl (Nat.le_of_ble_eq_true rfl) (Nat.le_of_ble_eq_true rfl) rfl (c_C_lowestTerms hw) (fun r8 h9 hw => ?_)
      exact g_lret dX11_worth_60 hw
    · have hw := hw.2 hc
      refine g_ldc2 dX11_worth_18 kl_X11_170 ?_
      exact g_lret dX11_worth_21 hw
theorem dJ6_signum_0f7a4_0 : decode cJ6_signum_0f7a4 0 = .ok (.iload_n 0, 1) := by decide +kernel
theorem dJ6_signum_0f7a4_1 : decode cJ6_signum_0f7a4 1 = .ok (.bipush 31, 2) := by decide +kernel
theorem dJ6_signum_0f7a4_3 : decode cJ6_signum_0f7a4 3 = .ok (.ishr, 1) := by decide +kernel
theorem dJ6_signum_0f7a4_4 : decode cJ6_signum_0f7a4 4 = .ok (.iload_n 0, 1) := by decide +kernel
theorem dJ6_signum_0f7a4_5 : decode cJ6_signum_0f7a4 5 = .ok (.ineg, 1) := by decide +kernel
theorem dJ6_signum_0f7a4_6 : decode cJ6_signum_0f7a4 6 = .ok (.bipush 31, 2) := by decide +kernel
theorem dJ6_signum_0f7a4_8 : decode cJ6_signum_0f7a4 8 = .ok (.iushr, 1) := by decide +kernel
theorem dJ6_signum_0f7a4_9 : decode cJ6_signum_0f7a4 9 = .ok (.ior, 1) := by decide +kernel
theorem dJ6_signum_0f7a4_10 : decode cJ6_signum_0f7a4 10 = .ok (.ireturn, 1) := by decide +kernel
def J6_signum_0f7a4 (x0 : Int32) (h : Hp) (Q : Int32 → Hp → Prop) : Prop := Q ((x0 >>> (31 &&& 31)) ||| ((((-x0)).toUInt32 >>> ((31).toUInt32 &&& Int32.toUInt32 31)).toInt32)) h
set_option maxHeartbeats 4000000 in
set_option maxRecDepth 20000 in
theorem c_J6_signum_0f7a4 {G : Gx}  {x0 : Int32} {h : Hp} {Q : Int32 → Hp → Prop} (hw : J6_signum_0f7a4 x0 h Q) : Ct yJ6_signum_0f7a4 cJ6_signum_0f7a4 1 (some .int) 1 G [.int x0] h (QI G Q) := by
  refine ct_go [(0, .int x0)] (plainFor_of_name (by decide)) rfl (Nat.le_of_ble_eq_true rfl) rfl ?_
  refine g_iload_n dJ6_signum_0f7a4_0 rfl rfl ?_
  refine g_bipush (v := 31) dJ6_signum_0f7a4_1 (by decide) ?_
  refine g_ishr dJ6_signum_0f7a4_3 ?_
  refine g_iload_n dJ6_signum_0f7a4_4 rfl rfl ?_
  refine g_ineg dJ6_signum_0f7a4_5 ?_
  refine g_bipush (v := 31) dJ6_signum_0f7a4_6 (by decide) ?_
  refine g_iushr dJ6_signum_0f7a4_8 ?_
  refine g_ior dJ6_signum_0f7a4_9 ?_
  exact g_iret dJ6_signum_0f7a4_10 hw
theorem dX11_wins_0 : decode cX11_wins 0 = .ok (.iload_n 1, 1) := by decide +kernel
theorem dX11_wins_1 : decode cX11_wins 1 = .ok (.ifCond .lt 8, 3) := by decide +kernel
theorem dX11_wins_4 : decode cX11_wins 4 = .ok (.iload_n 1, 1) := by decide +kernel
theorem dX11_wins_5 : decode cX11_wins 5 = .ok (.iconst 2, 1) := by decide +kernel
theorem dX11_wins_6 : decode cX11_wins 6 = .ok (.if_icmp .le 6, 3) := by decide +kernel
theorem dX11_wins_9 : decode cX11_wins 9 = .ok (.bipush (-2), 2) := by decide +kernel
theorem dX11_wins_11 : decode cX11_wins 11 = .ok (.ireturn, 1) := by decide +kernel
theorem dX11_wins_12 : decode cX11_wins 12 = .ok (.aload_n 0, 1) := by decide +kernel
theorem dX11_wins_13 : decode cX11_wins 13 = .ok (.getfield 72, 3) := by decide +kernel
theorem dX11_wins_16 : decode cX11_wins 16 = .ok (.aload_n 0, 1) := by decide +kernel
theorem dX11_wins_17 : decode cX11_wins 17 = .ok (.getfield 27, 3) := by decide +kernel
theorem dX11_wins_20 : decode cX11_wins 20 = .ok (.aload_n 0, 1) := by decide +kernel
theorem dX11_wins_21 : decode cX11_wins 21 = .ok (.getfield 34, 3) := by decide +kernel
theorem dX11_wins_24 : decode cX11_wins 24 = .ok (.getfield 140, 3) := by decide +kernel
theorem dX11_wins_27 : decode cX11_wins 27 = .ok (.aload_n 0, 1) := by decide +kernel
theorem dX11_wins_28 : decode cX11_wins 28 = .ok (.getfield 65, 3) := by decide +kernel
theorem dX11_wins_31 : decode cX11_wins 31 = .ok (.invokevirtual 205, 3) := by decide +kernel
theorem dX11_wins_34 : decode cX11_wins 34 = .ok (.iconst 0, 1) := by decide +kernel
theorem dX11_wins_35 : decode cX11_wins 35 = .ok (.istore_n 2, 1) := by decide +kernel
theorem dX11_wins_36 : decode cX11_wins 36 = .ok (.iconst 0, 1) := by decide +kernel
theorem dX11_wins_37 : decode cX11_wins 37 = .ok (.istore_n 3, 1) := by decide +kernel
theorem dX11_wins_38 : decode cX11_wins 38 = .ok (.iload_n 3, 1) := by decide +kernel
theorem dX11_wins_39 : decode cX11_wins 39 = .ok (.aload_n 0, 1) := by decide +kernel
theorem dX11_wins_40 : decode cX11_wins 40 = .ok (.getfield 27, 3) := by decide +kernel
theorem dX11_wins_43 : decode cX11_wins 43 = .ok (.getfield 209, 3) := by decide +kernel
theorem dX11_wins_46 : decode cX11_wins 46 = .ok (.if_icmp .ge 32, 3) := by decide +kernel
theorem dX11_wins_49 : decode cX11_wins 49 = .ok (.aload_n 0, 1) := by decide +kernel
theorem dX11_wins_50 : decode cX11_wins 50 = .ok (.getfield 72, 3) := by decide +kernel
theorem dX11_wins_53 : decode cX11_wins 53 = .ok (.iload_n 3, 1) := by decide +kernel
theorem dX11_wins_54 : decode cX11_wins 54 = .ok (.invokevirtual 293, 3) := by decide +kernel
theorem dX11_wins_57 : decode cX11_wins 57 = .ok (.invokestatic 296, 3) := by decide +kernel
theorem dX11_wins_60 : decode cX11_wins 60 = .ok (.iload_n 1, 1) := by decide +kernel
theorem dX11_wins_61 : decode cX11_wins 61 = .ok (.iconst 1, 1) := by decide +kernel
theorem dX11_wins_62 : decode cX11_wins 62 = .ok (.isub, 1) := by decide +kernel
theorem dX11_wins_63 : decode cX11_wins 63 = .ok (.if_icmp .ne 9, 3) := by decide +kernel
theorem dX11_wins_66 : decode cX11_wins 66 = .ok (.iload_n 2, 1) := by decide +kernel
theorem dX11_wins_67 : decode cX11_wins 67 = .ok (.iconst 1, 1) := by decide +kernel
theorem dX11_wins_68 : decode cX11_wins 68 = .ok (.iload_n 3, 1) := by decide +kernel
theorem dX11_wins_69 : decode cX11_wins 69 = .ok (.ishl, 1) := by decide +kernel
theorem dX11_wins_70 : decode cX11_wins 70 = .ok (.ior, 1) := by decide +kernel
theorem dX11_wins_71 : decode cX11_wins 71 = .ok (.istore_n 2, 1) := by decide +kernel
theorem dX11_wins_72 : decode cX11_wins 72 = .ok (.iinc 3 1, 3) := by decide +kernel
theorem dX11_wins_75 : decode cX11_wins 75 = .ok (.goto (-37), 3) := by decide +kernel
theorem dX11_wins_78 : decode cX11_wins 78 = .ok (.iload_n 2, 1) := by decide +kernel
theorem dX11_wins_79 : decode cX11_wins 79 = .ok (.ireturn, 1) := by decide +kernel
theorem ml_X11_296 : Cond.methodLink RX11 296 yJ6_signum_0f7a4 ∈ Wd := mW 1087 (by decide +kernel) rfl
theorem mk_J6_signum_0f7a4 : MokS yJ6_signum_0f7a4 cJ6_signum_0f7a4 1 (some .int) 1 := ⟨⟨mW 21 (by decide +kernel) rfl, mW 1089 (by decide +kernel) rfl, ⟨by decide, by decide, by decide +kernel⟩, by decide⟩, mW 1088 (by decide +kernel) rfl⟩
def C_wins_L38 (x1 : Int32) (Q : Int32 → Hp → Prop) : Nat → Int32 → Int32 → Hp → Prop
  | 0, _, _, _ => False
  | n + 1, x2, x3, h => ((gI h 14 0) ≤ x3 → Q x2 h) ∧ (¬ (gI h 14 0) ≤ x3 → Game_valueAt x3 h (fun r2 h3 => J6_signum_0f7a4 r2 h3 (fun r4 h5 => ∀ J72 : Int32 → Hp → Prop, J72 = (fun x2_6 h7 => ∀ v8 : Int32, v8 = (x3 + 1) → C_wins_L38 x1 Q n x2_6 v8 h7) → (¬ r4 = (x1 - 1) → J72 x2 h5) ∧ (r4 = (x1 - 1) → ∀ v9 : Int32, v9 = (x2 ||| ((1 : Int32) <<< (x3 &&& 31))) → J72 v9 h5))))
set_option maxHeartbeats 4000000 in
set_option maxRecDepth 20000 in
theorem gl_C_wins_L38 {G : Gx}  {x1 : Int32} {Q : Int32 → Hp → Prop} : ∀ (n : Nat) (x2 : Int32) (x3 : Int32) (h : Hp), C_wins_L38 x1 Q n x2 x3 h → Go cX11_wins 4 RX11 (some .int) 17 G (QI G Q) 38 [(0, .ref (gAd G 0)), (1, .int x1), (2, .int x2), (3, .int x3)] [] h := by
  intro n
  induction n with
  | zero => intro _ _ h hw; exact False.elim hw
  | succ n ih =>
    intro x2 x3 h hw
    refine g_iload_n dX11_wins_38 rfl rfl ?_
    refine g_aload_n dX11_wins_39 rfl rfl ?_
    refine g_getO dX11_wins_40 fl_X11_27 sh0 rfl ?_
    refine g_getI dX11_wins_43 fl_X11_209 sh14 rfl ?_
    refine g_icmp_ge 78 dX11_wins_46 rfl (fun hc => ?_) (fun hc => ?_)
    · have hw := hw.1 hc
      refine g_iload_n dX11_wins_78 rfl rfl ?_
      exact g_iret dX11_wins_79 hw
    · have hw := hw.2 hc
      refine g_aload_n dX11_wins_49 rfl rfl ?_
      refine g_getO dX11_wins_50 fl_X11_72 sh0 rfl ?_
      refine g_iload_n dX11_wins_53 rfl rfl ?_
      refine g_callVI [.int x3] (ci := 0) dX11_wins_54 ml_X11_293 mk_X0_valueAt rfl rfl sh80 (Nat.le_of_ble_eq_true rfl) (Nat.le_of_ble_eq_true rfl) rfl (c_Game_valueAt hw) (fun r2 h3 hw => ?_)
      refine g_callSI [.int r2] dX11_wins_57 ml_X11_296 mk_J6_signum_0f7a4 rfl (Nat.le_of_ble_eq_true rfl) (Nat.le_of_ble_eq_true rfl) rfl (c_J6_signum_0f7a4 hw) (fun r4 h5 hw => ?_)
      refine g_iload_n dX11_wins_60 rfl rfl ?_
      refine g_iconst (v := 1) dX11_wins_61 (by decide) ?_
      refine g_isub dX11_wins_62 ?_
      refine jn_el hw (fun J72 eJ72 hw => ?_)
      have hJ72 : ∀ (x2_6 : Int32) (h7 : Hp), J72 x2_6 h7 → Go cX11_wins 4 RX11 (some .int) 17 G (QI G Q) 72 [(0, .ref (gAd G 0)), (1, .int x1), (2, .int x2_6), (3, .int x3)] [] h7 := by
        intro x2_6 h7 hw
        subst eJ72
        obtain ⟨v8, ev8⟩ : ∃ y : Int32, y = (x3 + 1) := ⟨_, rfl⟩
        have hw := hw v8 ev8
        refine g_iinc dX11_wins_72 rfl (by rw [ev8]; rfl) (by decide) (lv1 := [(0, .ref (gAd G 0)), (1, .int x1), (2, .int x2_6), (3, .int v8)]) rfl ?_
        refine g_goto 38 dX11_wins_75 rfl ?_
        exact ih _ _ _ hw
      refine g_icmp_ne 72 dX11_wins_63 rfl (fun hc => ?_) (fun hc => ?_)
      · have hw := hw.1 hc
        exact hJ72 _ _ hw
      · have hw := hw.2 hc
        refine g_iload_n dX11_wins_66 rfl rfl ?_
        refine g_iconst (v := 1) dX11_wins_67 (by decide) ?_
        refine g_iload_n dX11_wins_68 rfl rfl ?_
        refine g_ishl dX11_wins_69 ?_
        refine g_ior dX11_wins_70 ?_
        refine g_topi (fun v9 ev9 => ?_)
        have hw := hw v9 ev9
        refine g_istore_n dX11_wins_71 rfl (by decide) (lv1 := [(0, .ref (gAd G 0)), (1, .int x1), (2, .int v9), (3, .int x3)]) rfl ?_
        exact hJ72 _ _ hw
def C_wins (x1 : Int32) (h : Hp) (Q : Int32 → Hp → Prop) : Prop := (x1 < 0 → Q (-2) h) ∧ (¬ x1 < 0 → (x1 ≤ 2 → Game_solve (gI h 20 3) h (fun h1 => ∃ n10, C_wins_L38 x1 Q n10 0 0 h1)) ∧ (¬ x1 ≤ 2 → Q (-2) h))
set_option maxHeartbeats 4000000 in
set_option maxRecDepth 20000 in
theorem c_C_wins {G : Gx}  {x1 : Int32} {h : Hp} {Q : Int32 → Hp → Prop} (hw : C_wins x1 h Q) : Ct yX11_wins cX11_wins 4 (some .int) 17 G [.ref (gAd G 0), .int x1] h (QI G Q) := by
  refine ct_go [(0, .ref (gAd G 0)), (1, .int x1)] (plainFor_of_name (by decide)) rfl (Nat.le_of_ble_eq_true rfl) rfl ?_
  refine g_iload_n dX11_wins_0 rfl rfl ?_
  refine g_if_lt 9 dX11_wins_1 rfl (fun hc => ?_) (fun hc => ?_)
  · have hw := hw.1 hc
    refine g_bipush (v := (-2)) dX11_wins_9 (by decide) ?_
    exact g_iret dX11_wins_11 hw
  · have hw := hw.2 hc
    refine g_iload_n dX11_wins_4 rfl rfl ?_
    refine g_iconst (v := 2) dX11_wins_5 (by decide) ?_
    refine g_icmp_le 12 dX11_wins_6 rfl (fun hc => ?_) (fun hc => ?_)
    · have hw := hw.1 hc
      refine g_aload_n dX11_wins_12 rfl rfl ?_
      refine g_getO dX11_wins_13 fl_X11_72 sh0 rfl ?_
      refine g_aload_n dX11_wins_16 rfl rfl ?_
      refine g_getO dX11_wins_17 fl_X11_27 sh0 rfl ?_
      refine g_aload_n dX11_wins_20 rfl rfl ?_
      refine g_getO dX11_wins_21 fl_X11_34 sh0 rfl ?_
      refine g_getI dX11_wins_24 fl_X11_140 sh20 rfl ?_
      refine g_aload_n dX11_wins_27 rfl rfl ?_
      refine g_getO dX11_wins_28 fl_X11_65 sh0 rfl ?_
      refine g_callVV [.ref (gAd G 14), .int (gI h 20 3), .ref (gAd G 73)] (ci := 0) dX11_wins_31 ml_X11_205 mk_X0_solve rfl rfl sh80 (Nat.le_of_ble_eq_true rfl) (Nat.le_of_ble_eq_true rfl) rfl (c_Game_solve hw) (fun h1 hw => ?_)
      refine g_iconst (v := 0) dX11_wins_34 (by decide) ?_
      refine g_istore_n dX11_wins_35 rfl (by decide) (lv1 := [(0, .ref (gAd G 0)), (1, .int x1), (2, .int 0)]) rfl ?_
      refine g_iconst (v := 0) dX11_wins_36 (by decide) ?_
      refine g_istore_n dX11_wins_37 rfl (by decide) (lv1 := [(0, .ref (gAd G 0)), (1, .int x1), (2, .int 0), (3, .int 0)]) rfl ?_
      obtain ⟨n10, hw⟩ := hw
      refine gl_C_wins_L38   _ _ _ _ hw
    · have hw := hw.2 hc
      refine g_bipush (v := (-2)) dX11_wins_9 (by decide) ?_
      exact g_iret dX11_wins_11 hw
theorem dX11_atLeast_0 : decode cX11_atLeast 0 = .ok (.aload_n 0, 1) := by decide +kernel
theorem dX11_atLeast_1 : decode cX11_atLeast 1 = .ok (.getfield 27, 3) := by decide +kernel
theorem dX11_atLeast_4 : decode cX11_atLeast 4 = .ok (.iload_n 1, 1) := by decide +kernel
theorem dX11_atLeast_5 : decode cX11_atLeast 5 = .ok (.invokevirtual 129, 3) := by decide +kernel
theorem dX11_atLeast_8 : decode cX11_atLeast 8 = .ok (.ifCond .ne 6, 3) := by decide +kernel
theorem dX11_atLeast_11 : decode cX11_atLeast 11 = .ok (.bipush (-2), 2) := by decide +kernel
theorem dX11_atLeast_13 : decode cX11_atLeast 13 = .ok (.ireturn, 1) := by decide +kernel
theorem dX11_atLeast_14 : decode cX11_atLeast 14 = .ok (.iload_n 2, 1) := by decide +kernel
theorem dX11_atLeast_15 : decode cX11_atLeast 15 = .ok (.sipush (-9999), 3) := by decide +kernel
theorem dX11_atLeast_18 : decode cX11_atLeast 18 = .ok (.if_icmp .lt 21, 3) := by decide +kernel
theorem dX11_atLeast_21 : decode cX11_atLeast 21 = .ok (.iload_n 2, 1) := by decide +kernel
theorem dX11_atLeast_22 : decode cX11_atLeast 22 = .ok (.sipush 9999, 3) := by decide +kernel
theorem dX11_atLeast_25 : decode cX11_atLeast 25 = .ok (.if_icmp .gt 14, 3) := by decide +kernel
theorem dX11_atLeast_28 : decode cX11_atLeast 28 = .ok (.iload_n 3, 1) := by decide +kernel
theorem dX11_atLeast_29 : decode cX11_atLeast 29 = .ok (.iconst 1, 1) := by decide +kernel
theorem dX11_atLeast_30 : decode cX11_atLeast 30 = .ok (.if_icmp .lt 9, 3) := by decide +kernel
theorem dX11_atLeast_33 : decode cX11_atLeast 33 = .ok (.iload_n 3, 1) := by decide +kernel
theorem dX11_atLeast_34 : decode cX11_atLeast 34 = .ok (.bipush 99, 2) := by decide +kernel
theorem dX11_atLeast_36 : decode cX11_atLeast 36 = .ok (.if_icmp .le 6, 3) := by decide +kernel
theorem dX11_atLeast_39 : decode cX11_atLeast 39 = .ok (.bipush (-3), 2) := by decide +kernel
theorem dX11_atLeast_41 : decode cX11_atLeast 41 = .ok (.ireturn, 1) := by decide +kernel
theorem dX11_atLeast_42 : decode cX11_atLeast 42 = .ok (.aload_n 0, 1) := by decide +kernel
theorem dX11_atLeast_43 : decode cX11_atLeast 43 = .ok (.getfield 72, 3) := by decide +kernel
theorem dX11_atLeast_46 : decode cX11_atLeast 46 = .ok (.aload_n 0, 1) := by decide +kernel
theorem dX11_atLeast_47 : decode cX11_atLeast 47 = .ok (.getfield 27, 3) := by decide +kernel
theorem dX11_atLeast_50 : decode cX11_atLeast 50 = .ok (.aload_n 0, 1) := by decide +kernel
theorem dX11_atLeast_51 : decode cX11_atLeast 51 = .ok (.getfield 34, 3) := by decide +kernel
theorem dX11_atLeast_54 : decode cX11_atLeast 54 = .ok (.getfield 140, 3) := by decide +kernel
theorem dX11_atLeast_57 : decode cX11_atLeast 57 = .ok (.aload_n 0, 1) := by decide +kernel
theorem dX11_atLeast_58 : decode cX11_atLeast 58 = .ok (.getfield 65, 3) := by decide +kernel
theorem dX11_atLeast_61 : decode cX11_atLeast 61 = .ok (.invokevirtual 205, 3) := by decide +kernel
theorem dX11_atLeast_64 : decode cX11_atLeast 64 = .ok (.aload_n 0, 1) := by decide +kernel
theorem dX11_atLeast_65 : decode cX11_atLeast 65 = .ok (.getfield 72, 3) := by decide +kernel
theorem dX11_atLeast_68 : decode cX11_atLeast 68 = .ok (.iload_n 1, 1) := by decide +kernel
theorem dX11_atLeast_69 : decode cX11_atLeast 69 = .ok (.invokevirtual 293, 3) := by decide +kernel
theorem dX11_atLeast_72 : decode cX11_atLeast 72 = .ok (.iload_n 3, 1) := by decide +kernel
theorem dX11_atLeast_73 : decode cX11_atLeast 73 = .ok (.imul, 1) := by decide +kernel
theorem dX11_atLeast_74 : decode cX11_atLeast 74 = .ok (.iload_n 2, 1) := by decide +kernel
theorem dX11_atLeast_75 : decode cX11_atLeast 75 = .ok (.sipush 840, 3) := by decide +kernel
theorem dX11_atLeast_78 : decode cX11_atLeast 78 = .ok (.imul, 1) := by decide +kernel
theorem dX11_atLeast_79 : decode cX11_atLeast 79 = .ok (.if_icmp .lt 7, 3) := by decide +kernel
theorem dX11_atLeast_82 : decode cX11_atLeast 82 = .ok (.iconst 1, 1) := by decide +kernel
theorem dX11_atLeast_83 : decode cX11_atLeast 83 = .ok (.goto 4, 3) := by decide +kernel
theorem dX11_atLeast_86 : decode cX11_atLeast 86 = .ok (.iconst 0, 1) := by decide +kernel
theorem dX11_atLeast_87 : decode cX11_atLeast 87 = .ok (.ireturn, 1) := by decide +kernel
def C_atLeast (x1 : Int32) (x2 : Int32) (x3 : Int32) (h : Hp) (Q : Int32 → Hp → Prop) : Prop := Land_hasPlace x1 h (fun r1 h2 => (¬ r1 = 0 → (x2 < (-9999) → Q (-3) h2) ∧ (¬ x2 < (-9999) → (9999 < x2 → Q (-3) h2) ∧ (¬ 9999 < x2 → (x3 < 1 → Q (-3) h2) ∧ (¬ x3 < 1 → (x3 ≤ 99 → Game_solve (gI h2 20 3) h2 (fun h3 => Game_valueAt x1 h3 (fun r4 h5 => ((r4 * x3) < (x2 * 840) → Q 0 h5) ∧ (¬ (r4 * x3) < (x2 * 840) → Q 1 h5)))) ∧ (¬ x3 ≤ 99 → Q (-3) h2))))) ∧ (r1 = 0 → Q (-2) h2))
set_option maxHeartbeats 4000000 in
set_option maxRecDepth 20000 in
theorem c_C_atLeast {G : Gx}  {x1 : Int32} {x2 : Int32} {x3 : Int32} {h : Hp} {Q : Int32 → Hp → Prop} (hw : C_atLeast x1 x2 x3 h Q) : Ct yX11_atLeast cX11_atLeast 4 (some .int) 17 G [.ref (gAd G 0), .int x1, .int x2, .int x3] h (QI G Q) := by
  refine ct_go [(0, .ref (gAd G 0)), (1, .int x1), (2, .int x2), (3, .int x3)] (plainFor_of_name (by decide)) rfl (Nat.le_of_ble_eq_true rfl) rfl ?_
  refine g_aload_n dX11_atLeast_0 rfl rfl ?_
  refine g_getO dX11_atLeast_1 fl_X11_27 sh0 rfl ?_
  refine g_iload_n dX11_atLeast_4 rfl rfl ?_
  refine g_callVI [.int x1] (ci := 2) dX11_atLeast_5 ml_X11_129 mk_X2_hasPlace rfl rfl sh14 (Nat.le_of_ble_eq_true rfl) (Nat.le_of_ble_eq_true rfl) rfl (c_Land_hasPlace hw) (fun r1 h2 hw => ?_)
  refine g_if_ne 14 dX11_atLeast_8 rfl (fun hc => ?_) (fun hc => ?_)
  · have hw := hw.1 hc
    refine g_iload_n dX11_atLeast_14 rfl rfl ?_
    refine g_sipush (v := (-9999)) dX11_atLeast_15 (by decide) ?_
    refine g_icmp_lt 39 dX11_atLeast_18 rfl (fun hc => ?_) (fun hc => ?_)
    · have hw := hw.1 hc
      refine g_bipush (v := (-3)) dX11_atLeast_39 (by decide) ?_
      exact g_iret dX11_atLeast_41 hw
    · have hw := hw.2 hc
      refine g_iload_n dX11_atLeast_21 rfl rfl ?_
      refine g_sipush (v := 9999) dX11_atLeast_22 (by decide) ?_
      refine g_icmp_gt 39 dX11_atLeast_25 rfl (fun hc => ?_) (fun hc => ?_)
      · have hw := hw.1 hc
        refine g_bipush (v := (-3)) dX11_atLeast_39 (by decide) ?_
        exact g_iret dX11_atLeast_41 hw
      · have hw := hw.2 hc
        refine g_iload_n dX11_atLeast_28 rfl rfl ?_
        refine g_iconst (v := 1) dX11_atLeast_29 (by decide) ?_
        refine g_icmp_lt 39 dX11_atLeast_30 rfl (fun hc => ?_) (fun hc => ?_)
        · have hw := hw.1 hc
          refine g_bipush (v := (-3)) dX11_atLeast_39 (by decide) ?_
          exact g_iret dX11_atLeast_41 hw
        · have hw := hw.2 hc
          refine g_iload_n dX11_atLeast_33 rfl rfl ?_
          refine g_bipush (v := 99) dX11_atLeast_34 (by decide) ?_
          refine g_icmp_le 42 dX11_atLeast_36 rfl (fun hc => ?_) (fun hc => ?_)
          · have hw := hw.1 hc
            refine g_aload_n dX11_atLeast_42 rfl rfl ?_
            refine g_getO dX11_atLeast_43 fl_X11_72 sh0 rfl ?_
            refine g_aload_n dX11_atLeast_46 rfl rfl ?_
            refine g_getO dX11_atLeast_47 fl_X11_27 sh0 rfl ?_
            refine g_aload_n dX11_atLeast_50 rfl rfl ?_
            refine g_getO dX11_atLeast_51 fl_X11_34 sh0 rfl ?_
            refine g_getI dX11_atLeast_54 fl_X11_140 sh20 rfl ?_
            refine g_aload_n dX11_atLeast_57 rfl rfl ?_
            refine g_getO dX11_atLeast_58 fl_X11_65 sh0 rfl ?_
            refine g_callVV [.ref (gAd G 14), .int (gI h2 20 3), .ref (gAd G 73)] (ci := 0) dX11_atLeast_61 ml_X11_205 mk_X0_solve rfl rfl sh80 (Nat.le_of_ble_eq_true rfl) (Nat.le_of_ble_eq_true rfl) rfl (c_Game_solve hw) (fun h3 hw => ?_)
            refine g_aload_n dX11_atLeast_64 rfl rfl ?_
            refine g_getO dX11_atLeast_65 fl_X11_72 sh0 rfl ?_
            refine g_iload_n dX11_atLeast_68 rfl rfl ?_
            refine g_callVI [.int x1] (ci := 0) dX11_atLeast_69 ml_X11_293 mk_X0_valueAt rfl rfl sh80 (Nat.le_of_ble_eq_true rfl) (Nat.le_of_ble_eq_true rfl) rfl (c_Game_valueAt hw) (fun r4 h5 hw => ?_)
            refine g_iload_n dX11_atLeast_72 rfl rfl ?_
            refine g_imul dX11_atLeast_73 ?_
            refine g_iload_n dX11_atLeast_74 rfl rfl ?_
            refine g_sipush (v := 840) dX11_atLeast_75 (by decide) ?_
            refine g_imul dX11_atLeast_78 ?_
            refine g_icmp_lt 86 dX11_atLeast_79 rfl (fun hc => ?_) (fun hc => ?_)
            · have hw := hw.1 hc
              refine g_iconst (v := 0) dX11_atLeast_86 (by decide) ?_
              exact g_iret dX11_atLeast_87 hw
            · have hw := hw.2 hc
              refine g_iconst (v := 1) dX11_atLeast_82 (by decide) ?_
              refine g_goto 87 dX11_atLeast_83 rfl ?_
              exact g_iret dX11_atLeast_87 hw
          · have hw := hw.2 hc
            refine g_bipush (v := (-3)) dX11_atLeast_39 (by decide) ?_
            exact g_iret dX11_atLeast_41 hw
  · have hw := hw.2 hc
    refine g_bipush (v := (-2)) dX11_atLeast_11 (by decide) ?_
    exact g_iret dX11_atLeast_13 hw
theorem dX11_best_0 : decode cX11_best 0 = .ok (.aload_n 0, 1) := by decide +kernel
theorem dX11_best_1 : decode cX11_best 1 = .ok (.getfield 27, 3) := by decide +kernel
theorem dX11_best_4 : decode cX11_best 4 = .ok (.iload_n 1, 1) := by decide +kernel
theorem dX11_best_5 : decode cX11_best 5 = .ok (.invokevirtual 129, 3) := by decide +kernel
theorem dX11_best_8 : decode cX11_best 8 = .ok (.ifCond .ne 6, 3) := by decide +kernel
theorem dX11_best_11 : decode cX11_best 11 = .ok (.bipush (-2), 2) := by decide +kernel
theorem dX11_best_13 : decode cX11_best 13 = .ok (.ireturn, 1) := by decide +kernel
theorem dX11_best_14 : decode cX11_best 14 = .ok (.aload_n 0, 1) := by decide +kernel
theorem dX11_best_15 : decode cX11_best 15 = .ok (.getfield 72, 3) := by decide +kernel
theorem dX11_best_18 : decode cX11_best 18 = .ok (.aload_n 0, 1) := by decide +kernel
theorem dX11_best_19 : decode cX11_best 19 = .ok (.getfield 27, 3) := by decide +kernel
theorem dX11_best_22 : decode cX11_best 22 = .ok (.aload_n 0, 1) := by decide +kernel
theorem dX11_best_23 : decode cX11_best 23 = .ok (.getfield 34, 3) := by decide +kernel
theorem dX11_best_26 : decode cX11_best 26 = .ok (.getfield 140, 3) := by decide +kernel
theorem dX11_best_29 : decode cX11_best 29 = .ok (.aload_n 0, 1) := by decide +kernel
theorem dX11_best_30 : decode cX11_best 30 = .ok (.getfield 65, 3) := by decide +kernel
theorem dX11_best_33 : decode cX11_best 33 = .ok (.invokevirtual 205, 3) := by decide +kernel
theorem dX11_best_36 : decode cX11_best 36 = .ok (.aload_n 0, 1) := by decide +kernel
theorem dX11_best_37 : decode cX11_best 37 = .ok (.getfield 72, 3) := by decide +kernel
theorem dX11_best_40 : decode cX11_best 40 = .ok (.iload_n 1, 1) := by decide +kernel
theorem dX11_best_41 : decode cX11_best 41 = .ok (.invokevirtual 212, 3) := by decide +kernel
theorem dX11_best_44 : decode cX11_best 44 = .ok (.ireturn, 1) := by decide +kernel
def C_best (x1 : Int32) (h : Hp) (Q : Int32 → Hp → Prop) : Prop := Land_hasPlace x1 h (fun r1 h2 => (¬ r1 = 0 → Game_solve (gI h2 20 3) h2 (fun h3 => Game_bestWay x1 h3 (fun r4 h5 => Q r4 h5))) ∧ (r1 = 0 → Q (-2) h2))
set_option maxHeartbeats 4000000 in
set_option maxRecDepth 20000 in
theorem c_C_best {G : Gx}  {x1 : Int32} {h : Hp} {Q : Int32 → Hp → Prop} (hw : C_best x1 h Q) : Ct yX11_best cX11_best 2 (some .int) 17 G [.ref (gAd G 0), .int x1] h (QI G Q) := by
  refine ct_go [(0, .ref (gAd G 0)), (1, .int x1)] (plainFor_of_name (by decide)) rfl (Nat.le_of_ble_eq_true rfl) rfl ?_
  refine g_aload_n dX11_best_0 rfl rfl ?_
  refine g_getO dX11_best_1 fl_X11_27 sh0 rfl ?_
  refine g_iload_n dX11_best_4 rfl rfl ?_
  refine g_callVI [.int x1] (ci := 2) dX11_best_5 ml_X11_129 mk_X2_hasPlace rfl rfl sh14 (Nat.le_of_ble_eq_true rfl) (Nat.le_of_ble_eq_true rfl) rfl (c_Land_hasPlace hw) (fun r1 h2 hw => ?_)
  refine g_if_ne 14 dX11_best_8 rfl (fun hc => ?_) (fun hc => ?_)
  · have hw := hw.1 hc
    refine g_aload_n dX11_best_14 rfl rfl ?_
    refine g_getO dX11_best_15 fl_X11_72 sh0 rfl ?_
    refine g_aload_n dX11_best_18 rfl rfl ?_
    refine g_getO dX11_best_19 fl_X11_27 sh0 rfl ?_
    refine g_aload_n dX11_best_22 rfl rfl ?_
    refine g_getO dX11_best_23 fl_X11_34 sh0 rfl ?_
    refine g_getI dX11_best_26 fl_X11_140 sh20 rfl ?_
    refine g_aload_n dX11_best_29 rfl rfl ?_
    refine g_getO dX11_best_30 fl_X11_65 sh0 rfl ?_
    refine g_callVV [.ref (gAd G 14), .int (gI h2 20 3), .ref (gAd G 73)] (ci := 0) dX11_best_33 ml_X11_205 mk_X0_solve rfl rfl sh80 (Nat.le_of_ble_eq_true rfl) (Nat.le_of_ble_eq_true rfl) rfl (c_Game_solve hw) (fun h3 hw => ?_)
    refine g_aload_n dX11_best_36 rfl rfl ?_
    refine g_getO dX11_best_37 fl_X11_72 sh0 rfl ?_
    refine g_iload_n dX11_best_40 rfl rfl ?_
    refine g_callVI [.int x1] (ci := 0) dX11_best_41 ml_X11_212 mk_X0_bestWay rfl rfl sh80 (Nat.le_of_ble_eq_true rfl) (Nat.le_of_ble_eq_true rfl) rfl (c_Game_bestWay hw) (fun r4 h5 hw => ?_)
    exact g_iret dX11_best_44 hw
  · have hw := hw.2 hc
    refine g_bipush (v := (-2)) dX11_best_11 (by decide) ?_
    exact g_iret dX11_best_13 hw
theorem dX8_onlyWay_0 : decode cX8_onlyWay 0 = .ok (.iload_n 1, 1) := by decide +kernel
theorem dX8_onlyWay_1 : decode cX8_onlyWay 1 = .ok (.ifCond .lt 21, 3) := by decide +kernel
theorem dX8_onlyWay_4 : decode cX8_onlyWay 4 = .ok (.iload_n 1, 1) := by decide +kernel
theorem dX8_onlyWay_5 : decode cX8_onlyWay 5 = .ok (.aload_n 0, 1) := by decide +kernel
theorem dX8_onlyWay_6 : decode cX8_onlyWay 6 = .ok (.getfield 22, 3) := by decide +kernel
theorem dX8_onlyWay_9 : decode cX8_onlyWay 9 = .ok (.arraylength, 1) := by decide +kernel
theorem dX8_onlyWay_10 : decode cX8_onlyWay 10 = .ok (.if_icmp .ge 12, 3) := by decide +kernel
theorem dX8_onlyWay_13 : decode cX8_onlyWay 13 = .ok (.aload_n 0, 1) := by decide +kernel
theorem dX8_onlyWay_14 : decode cX8_onlyWay 14 = .ok (.getfield 22, 3) := by decide +kernel
theorem dX8_onlyWay_17 : decode cX8_onlyWay 17 = .ok (.iload_n 1, 1) := by decide +kernel
theorem dX8_onlyWay_18 : decode cX8_onlyWay 18 = .ok (.iconst 1, 1) := by decide +kernel
theorem dX8_onlyWay_19 : decode cX8_onlyWay 19 = .ok (.iload_n 2, 1) := by decide +kernel
theorem dX8_onlyWay_20 : decode cX8_onlyWay 20 = .ok (.ishl, 1) := by decide +kernel
theorem dX8_onlyWay_21 : decode cX8_onlyWay 21 = .ok (.iastore, 1) := by decide +kernel
theorem dX8_onlyWay_22 : decode cX8_onlyWay 22 = .ok (.return_, 1) := by decide +kernel
def Survey_onlyWay (x1 : Int32) (x2 : Int32) (h : Hp) (Q : Hp → Prop) : Prop := (x1 < 0 → Q h) ∧ (¬ x1 < 0 → (8 ≤ x1 → Q h) ∧ (¬ 8 ≤ x1 → vp_in x1 8 ∧ ∀ h1 : Hp, h1 = sI h 74 (x1).toNatClampNeg ((1 : Int32) <<< (x2 &&& 31)) → Q h1))
set_option maxHeartbeats 4000000 in
set_option maxRecDepth 20000 in
theorem c_Survey_onlyWay {G : Gx}  {x1 : Int32} {x2 : Int32} {h : Hp} {Q : Hp → Prop} (hw : Survey_onlyWay x1 x2 h Q) : Ct yX8_onlyWay cX8_onlyWay 3 none 1 G [.ref (gAd G 73), .int x1, .int x2] h (QV G Q) := by
  refine ct_go [(0, .ref (gAd G 73)), (1, .int x1), (2, .int x2)] (plainFor_of_name (by decide)) rfl (Nat.le_of_ble_eq_true rfl) rfl ?_
  refine g_iload_n dX8_onlyWay_0 rfl rfl ?_
  refine g_if_lt 22 dX8_onlyWay_1 rfl (fun hc => ?_) (fun hc => ?_)
  · have hw := hw.1 hc
    exact g_vret dX8_onlyWay_22 hw
  · have hw := hw.2 hc
    refine g_iload_n dX8_onlyWay_4 rfl rfl ?_
    refine g_aload_n dX8_onlyWay_5 rfl rfl ?_
    refine g_getA dX8_onlyWay_6 fl_X8_22 sh73 rfl ?_
    refine g_alen dX8_onlyWay_9 ia74 (by decide) al74 (v := 8) (by decide) ?_
    refine g_icmp_ge 22 dX8_onlyWay_10 rfl (fun hc => ?_) (fun hc => ?_)
    · have hw := hw.1 hc
      exact g_vret dX8_onlyWay_22 hw
    · have hw := hw.2 hc
      refine g_aload_n dX8_onlyWay_13 rfl rfl ?_
      refine g_getA dX8_onlyWay_14 fl_X8_22 sh73 rfl ?_
      refine g_iload_n dX8_onlyWay_17 rfl rfl ?_
      refine g_iconst (v := 1) dX8_onlyWay_18 (by decide) ?_
      refine g_iload_n dX8_onlyWay_19 rfl rfl ?_
      refine g_ishl dX8_onlyWay_20 ?_
      refine g_iast dX8_onlyWay_21 ia74 al74 hw.1 ?_
      have hw := hw.2
      refine g_heap (fun h1 eh1 => ?_)
      have hw := hw h1 eh1
      exact g_vret dX8_onlyWay_22 hw
theorem dX11_lookAtPlanOf_0 : decode cX11_lookAtPlanOf 0 = .ok (.aload_n 0, 1) := by decide +kernel
theorem dX11_lookAtPlanOf_1 : decode cX11_lookAtPlanOf 1 = .ok (.getfield 65, 3) := by decide +kernel
theorem dX11_lookAtPlanOf_4 : decode cX11_lookAtPlanOf 4 = .ok (.aload_n 0, 1) := by decide +kernel
theorem dX11_lookAtPlanOf_5 : decode cX11_lookAtPlanOf 5 = .ok (.getfield 27, 3) := by decide +kernel
theorem dX11_lookAtPlanOf_8 : decode cX11_lookAtPlanOf 8 = .ok (.aload_n 0, 1) := by decide +kernel
theorem dX11_lookAtPlanOf_9 : decode cX11_lookAtPlanOf 9 = .ok (.getfield 34, 3) := by decide +kernel
theorem dX11_lookAtPlanOf_12 : decode cX11_lookAtPlanOf 12 = .ok (.getfield 140, 3) := by decide +kernel
theorem dX11_lookAtPlanOf_15 : decode cX11_lookAtPlanOf 15 = .ok (.invokevirtual 287, 3) := by decide +kernel
theorem dX11_lookAtPlanOf_18 : decode cX11_lookAtPlanOf 18 = .ok (.iconst 0, 1) := by decide +kernel
theorem dX11_lookAtPlanOf_19 : decode cX11_lookAtPlanOf 19 = .ok (.istore_n 2, 1) := by decide +kernel
theorem dX11_lookAtPlanOf_20 : decode cX11_lookAtPlanOf 20 = .ok (.iload_n 2, 1) := by decide +kernel
theorem dX11_lookAtPlanOf_21 : decode cX11_lookAtPlanOf 21 = .ok (.aload_n 0, 1) := by decide +kernel
theorem dX11_lookAtPlanOf_22 : decode cX11_lookAtPlanOf 22 = .ok (.getfield 27, 3) := by decide +kernel
theorem dX11_lookAtPlanOf_25 : decode cX11_lookAtPlanOf 25 = .ok (.getfield 209, 3) := by decide +kernel
theorem dX11_lookAtPlanOf_28 : decode cX11_lookAtPlanOf 28 = .ok (.if_icmp .ge 41, 3) := by decide +kernel
theorem dX11_lookAtPlanOf_31 : decode cX11_lookAtPlanOf 31 = .ok (.aload_n 0, 1) := by decide +kernel
theorem dX11_lookAtPlanOf_32 : decode cX11_lookAtPlanOf 32 = .ok (.getfield 27, 3) := by decide +kernel
theorem dX11_lookAtPlanOf_35 : decode cX11_lookAtPlanOf 35 = .ok (.iload_n 2, 1) := by decide +kernel
theorem dX11_lookAtPlanOf_36 : decode cX11_lookAtPlanOf 36 = .ok (.invokevirtual 133, 3) := by decide +kernel
theorem dX11_lookAtPlanOf_39 : decode cX11_lookAtPlanOf 39 = .ok (.iload_n 1, 1) := by decide +kernel
theorem dX11_lookAtPlanOf_40 : decode cX11_lookAtPlanOf 40 = .ok (.if_icmp .ne 23, 3) := by decide +kernel
theorem dX11_lookAtPlanOf_43 : decode cX11_lookAtPlanOf 43 = .ok (.aload_n 0, 1) := by decide +kernel
theorem dX11_lookAtPlanOf_44 : decode cX11_lookAtPlanOf 44 = .ok (.getfield 65, 3) := by decide +kernel
theorem dX11_lookAtPlanOf_47 : decode cX11_lookAtPlanOf 47 = .ok (.iload_n 2, 1) := by decide +kernel
theorem dX11_lookAtPlanOf_48 : decode cX11_lookAtPlanOf 48 = .ok (.aload_n 0, 1) := by decide +kernel
theorem dX11_lookAtPlanOf_49 : decode cX11_lookAtPlanOf 49 = .ok (.getfield 34, 3) := by decide +kernel
theorem dX11_lookAtPlanOf_52 : decode cX11_lookAtPlanOf 52 = .ok (.aload_n 0, 1) := by decide +kernel
theorem dX11_lookAtPlanOf_53 : decode cX11_lookAtPlanOf 53 = .ok (.getfield 27, 3) := by decide +kernel
theorem dX11_lookAtPlanOf_56 : decode cX11_lookAtPlanOf 56 = .ok (.iload_n 2, 1) := by decide +kernel
theorem dX11_lookAtPlanOf_57 : decode cX11_lookAtPlanOf 57 = .ok (.invokevirtual 150, 3) := by decide +kernel
theorem dX11_lookAtPlanOf_60 : decode cX11_lookAtPlanOf 60 = .ok (.invokevirtual 305, 3) := by decide +kernel
theorem dX11_lookAtPlanOf_63 : decode cX11_lookAtPlanOf 63 = .ok (.iinc 2 1, 3) := by decide +kernel
theorem dX11_lookAtPlanOf_66 : decode cX11_lookAtPlanOf 66 = .ok (.goto (-46), 3) := by decide +kernel
theorem dX11_lookAtPlanOf_69 : decode cX11_lookAtPlanOf 69 = .ok (.aload_n 0, 1) := by decide +kernel
theorem dX11_lookAtPlanOf_70 : decode cX11_lookAtPlanOf 70 = .ok (.getfield 65, 3) := by decide +kernel
theorem dX11_lookAtPlanOf_73 : decode cX11_lookAtPlanOf 73 = .ok (.invokevirtual 290, 3) := by decide +kernel
theorem dX11_lookAtPlanOf_76 : decode cX11_lookAtPlanOf 76 = .ok (.return_, 1) := by decide +kernel
theorem ml_X11_305 : Cond.methodLink RX11 305 yX8_onlyWay ∈ Wd := mW 1106 (by decide +kernel) rfl
theorem mk_X8_onlyWay : MokV yX8_onlyWay cX8_onlyWay 3 none 2 := ⟨⟨mW 9 (by decide +kernel) rfl, mW 1109 (by decide +kernel) rfl, ⟨by decide, by decide, by decide +kernel⟩, by decide⟩, mW 1107 (by decide +kernel) rfl, mW 1108 (by decide +kernel) rfl⟩
def C_lookAtPlanOf_L20 (x1 : Int32) (Q : Hp → Prop) : Nat → Int32 → Hp → Prop
  | 0, _, _ => False
  | n + 1, x2, h => ((gI h 14 0) ≤ x2 → Survey_look  h (fun h2 => Q h2)) ∧ (¬ (gI h 14 0) ≤ x2 → Land_owner x2 h (fun r3 h4 => ∀ J63 : Hp → Prop, J63 = (fun h5 => ∀ v6 : Int32, v6 = (x2 + 1) → C_lookAtPlanOf_L20 x1 Q n v6 h5) → (¬ r3 = x1 → J63 h4) ∧ (r3 = x1 → Stand_wayByPlan 20 x2 h4 (fun r7 h8 => Survey_onlyWay x2 r7 h8 (fun h9 => J63 h9)))))
set_option maxHeartbeats 4000000 in
set_option maxRecDepth 20000 in
theorem gl_C_lookAtPlanOf_L20 {G : Gx}  {x1 : Int32} {Q : Hp → Prop} : ∀ (n : Nat) (x2 : Int32) (h : Hp), C_lookAtPlanOf_L20 x1 Q n x2 h → Go cX11_lookAtPlanOf 3 RX11 none 15 G (QV G Q) 20 [(0, .ref (gAd G 0)), (1, .int x1), (2, .int x2)] [] h := by
  intro n
  induction n with
  | zero => intro _ h hw; exact False.elim hw
  | succ n ih =>
    intro x2 h hw
    refine g_iload_n dX11_lookAtPlanOf_20 rfl rfl ?_
    refine g_aload_n dX11_lookAtPlanOf_21 rfl rfl ?_
    refine g_getO dX11_lookAtPlanOf_22 fl_X11_27 sh0 rfl ?_
    refine g_getI dX11_lookAtPlanOf_25 fl_X11_209 sh14 rfl ?_
    refine g_icmp_ge 69 dX11_lookAtPlanOf_28 rfl (fun hc => ?_) (fun hc => ?_)
    · have hw := hw.1 hc
      refine g_aload_n dX11_lookAtPlanOf_69 rfl rfl ?_
      refine g_getO dX11_lookAtPlanOf_70 fl_X11_65 sh0 rfl ?_
      refine g_callVV [] (ci := 8) dX11_lookAtPlanOf_73 ml_X11_290 mk_X8_look rfl rfl sh73 (Nat.le_of_ble_eq_true rfl) (Nat.le_of_ble_eq_true rfl) rfl (c_Survey_look hw) (fun h2 hw => ?_)
      exact g_vret dX11_lookAtPlanOf_76 hw
    · have hw := hw.2 hc
      refine g_aload_n dX11_lookAtPlanOf_31 rfl rfl ?_
      refine g_getO dX11_lookAtPlanOf_32 fl_X11_27 sh0 rfl ?_
      refine g_iload_n dX11_lookAtPlanOf_35 rfl rfl ?_
      refine g_callVI [.int x2] (ci := 2) dX11_lookAtPlanOf_36 ml_X11_133 mk_X2_owner rfl rfl sh14 (Nat.le_of_ble_eq_true rfl) (Nat.le_of_ble_eq_true rfl) rfl (c_Land_owner hw) (fun r3 h4 hw => ?_)
      refine g_iload_n dX11_lookAtPlanOf_39 rfl rfl ?_
      refine jn_el hw (fun J63 eJ63 hw => ?_)
      have hJ63 : ∀ (h5 : Hp), J63 h5 → Go cX11_lookAtPlanOf 3 RX11 none 15 G (QV G Q) 63 [(0, .ref (gAd G 0)), (1, .int x1), (2, .int x2)] [] h5 := by
        intro h5 hw
        subst eJ63
        obtain ⟨v6, ev6⟩ : ∃ y : Int32, y = (x2 + 1) := ⟨_, rfl⟩
        have hw := hw v6 ev6
        refine g_iinc dX11_lookAtPlanOf_63 rfl (by rw [ev6]; rfl) (by decide) (lv1 := [(0, .ref (gAd G 0)), (1, .int x1), (2, .int v6)]) rfl ?_
        refine g_goto 20 dX11_lookAtPlanOf_66 rfl ?_
        exact ih _ _ hw
      refine g_icmp_ne 63 dX11_lookAtPlanOf_40 rfl (fun hc => ?_) (fun hc => ?_)
      · have hw := hw.1 hc
        exact hJ63 _ hw
      · have hw := hw.2 hc
        refine g_aload_n dX11_lookAtPlanOf_43 rfl rfl ?_
        refine g_getO dX11_lookAtPlanOf_44 fl_X11_65 sh0 rfl ?_
        refine g_iload_n dX11_lookAtPlanOf_47 rfl rfl ?_
        refine g_aload_n dX11_lookAtPlanOf_48 rfl rfl ?_
        refine g_getO dX11_lookAtPlanOf_49 fl_X11_34 sh0 rfl ?_
        refine g_aload_n dX11_lookAtPlanOf_52 rfl rfl ?_
        refine g_getO dX11_lookAtPlanOf_53 fl_X11_27 sh0 rfl ?_
        refine g_iload_n dX11_lookAtPlanOf_56 rfl rfl ?_
        refine g_callVI [.ref (gAd G 14), .int x2] (ci := 6) dX11_lookAtPlanOf_57 ml_X11_150 mk_X6_wayByPlan rfl rfl sh20 (Nat.le_of_ble_eq_true rfl) (Nat.le_of_ble_eq_true rfl) rfl (c_Stand_wayByPlan sh20 hw) (fun r7 h8 hw => ?_)
        refine g_callVV [.int x2, .int r7] (ci := 8) dX11_lookAtPlanOf_60 ml_X11_305 mk_X8_onlyWay rfl rfl sh73 (Nat.le_of_ble_eq_true rfl) (Nat.le_of_ble_eq_true rfl) rfl (c_Survey_onlyWay hw) (fun h9 hw => ?_)
        exact hJ63 _ hw
def C_lookAtPlanOf (x1 : Int32) (h : Hp) (Q : Hp → Prop) : Prop := Survey_allWays (gI h 20 3) h (fun h1 => ∃ n10, C_lookAtPlanOf_L20 x1 Q n10 0 h1)
set_option maxHeartbeats 4000000 in
set_option maxRecDepth 20000 in
theorem c_C_lookAtPlanOf {G : Gx}  {x1 : Int32} {h : Hp} {Q : Hp → Prop} (hw : C_lookAtPlanOf x1 h Q) : Ct yX11_lookAtPlanOf cX11_lookAtPlanOf 3 none 15 G [.ref (gAd G 0), .int x1] h (QV G Q) := by
  refine ct_go [(0, .ref (gAd G 0)), (1, .int x1)] (plainFor_of_name (by decide)) rfl (Nat.le_of_ble_eq_true rfl) rfl ?_
  refine g_aload_n dX11_lookAtPlanOf_0 rfl rfl ?_
  refine g_getO dX11_lookAtPlanOf_1 fl_X11_65 sh0 rfl ?_
  refine g_aload_n dX11_lookAtPlanOf_4 rfl rfl ?_
  refine g_getO dX11_lookAtPlanOf_5 fl_X11_27 sh0 rfl ?_
  refine g_aload_n dX11_lookAtPlanOf_8 rfl rfl ?_
  refine g_getO dX11_lookAtPlanOf_9 fl_X11_34 sh0 rfl ?_
  refine g_getI dX11_lookAtPlanOf_12 fl_X11_140 sh20 rfl ?_
  refine g_callVV [.ref (gAd G 14), .int (gI h 20 3)] (ci := 8) dX11_lookAtPlanOf_15 ml_X11_287 mk_X8_allWays rfl rfl sh73 (Nat.le_of_ble_eq_true rfl) (Nat.le_of_ble_eq_true rfl) rfl (c_Survey_allWays hw) (fun h1 hw => ?_)
  refine g_iconst (v := 0) dX11_lookAtPlanOf_18 (by decide) ?_
  refine g_istore_n dX11_lookAtPlanOf_19 rfl (by decide) (lv1 := [(0, .ref (gAd G 0)), (1, .int x1), (2, .int 0)]) rfl ?_
  obtain ⟨n10, hw⟩ := hw
  refine gl_C_lookAtPlanOf_L20   _ _ _ hw
theorem dX11_secures_0 : decode cX11_secures 0 = .ok (.iload_n 1, 1) := by decide +kernel
theorem dX11_secures_1 : decode cX11_secures 1 = .ok (.invokestatic 202, 3) := by decide +kernel
theorem dX11_secures_4 : decode cX11_secures 4 = .ok (.ifCond .eq 21, 3) := by decide +kernel
theorem dX11_secures_7 : decode cX11_secures 7 = .ok (.aload_n 0, 1) := by decide +kernel
theorem dX11_secures_8 : decode cX11_secures 8 = .ok (.getfield 27, 3) := by decide +kernel
theorem dX11_secures_11 : decode cX11_secures 11 = .ok (.iload_n 2, 1) := by decide +kernel
theorem dX11_secures_12 : decode cX11_secures 12 = .ok (.invokevirtual 129, 3) := by decide +kernel
theorem dX11_secures_15 : decode cX11_secures 15 = .ok (.ifCond .eq 10, 3) := by decide +kernel
theorem dX11_secures_18 : decode cX11_secures 18 = .ok (.iload_n 3, 1) := by decide +kernel
theorem dX11_secures_19 : decode cX11_secures 19 = .ok (.invokestatic 262, 3) := by decide +kernel
theorem dX11_secures_22 : decode cX11_secures 22 = .ok (.ifCond .ne 7, 3) := by decide +kernel
theorem dX11_secures_25 : decode cX11_secures 25 = .ok (.ldc2_w 170, 3) := by decide +kernel
theorem dX11_secures_28 : decode cX11_secures 28 = .ok (.lreturn, 1) := by decide +kernel
theorem dX11_secures_29 : decode cX11_secures 29 = .ok (.aload_n 0, 1) := by decide +kernel
theorem dX11_secures_30 : decode cX11_secures 30 = .ok (.iload_n 1, 1) := by decide +kernel
theorem dX11_secures_31 : decode cX11_secures 31 = .ok (.invokevirtual 299, 3) := by decide +kernel
theorem dX11_secures_34 : decode cX11_secures 34 = .ok (.aload_n 0, 1) := by decide +kernel
theorem dX11_secures_35 : decode cX11_secures 35 = .ok (.getfield 65, 3) := by decide +kernel
theorem dX11_secures_38 : decode cX11_secures 38 = .ok (.iload_n 1, 1) := by decide +kernel
theorem dX11_secures_39 : decode cX11_secures 39 = .ok (.iload_n 2, 1) := by decide +kernel
theorem dX11_secures_40 : decode cX11_secures 40 = .ok (.invokevirtual 302, 3) := by decide +kernel
theorem dX11_secures_43 : decode cX11_secures 43 = .ok (.i2l, 1) := by decide +kernel
theorem dX11_secures_44 : decode cX11_secures 44 = .ok (.ldc2_w 271, 3) := by decide +kernel
theorem dX11_secures_47 : decode cX11_secures 47 = .ok (.iload_n 3, 1) := by decide +kernel
theorem dX11_secures_48 : decode cX11_secures 48 = .ok (.invokestatic 273, 3) := by decide +kernel
theorem dX11_secures_51 : decode cX11_secures 51 = .ok (.lreturn, 1) := by decide +kernel
theorem ml_X11_299 : Cond.methodLink RX11 299 yX11_lookAtPlanOf ∈ Wd := mW 1102 (by decide +kernel) rfl
theorem mk_X11_lookAtPlanOf : MokV yX11_lookAtPlanOf cX11_lookAtPlanOf 3 none 1 := ⟨⟨mW 1 (by decide +kernel) rfl, mW 1105 (by decide +kernel) rfl, ⟨by decide, by decide, by decide +kernel⟩, by decide⟩, mW 1104 (by decide +kernel) rfl, mS (q := (yX11_lookAtPlanOf, 16)) 37 (by decide +kernel)⟩
theorem ml_X11_302 : Cond.methodLink RX11 302 yX8_securedBy ∈ Wd := mW 1110 (by decide +kernel) rfl
def C_secures (x1 : Int32) (x2 : Int32) (x3 : Int32) (h : Hp) (Q : Int64 → Hp → Prop) : Prop := C_isPlayer x1 h (fun r1 h2 => (r1 = 0 → Q (-9000000000000000002 : Int64) h2) ∧ (¬ r1 = 0 → Land_hasPlace x2 h2 (fun r3 h4 => (r3 = 0 → Q (-9000000000000000002 : Int64) h4) ∧ (¬ r3 = 0 → C_isEither x3 h4 (fun r5 h6 => (¬ r5 = 0 → C_lookAtPlanOf x1 h6 (fun h7 => Survey_securedBy x1 x2 h7 (fun r8 h9 => C_lowestTerms ((r8).toInt64) (840 : Int64) x3 h9 (fun r10 h11 => Q r10 h11)))) ∧ (r5 = 0 → Q (-9000000000000000002 : Int64) h6))))))
set_option maxHeartbeats 4000000 in
set_option maxRecDepth 20000 in
theorem c_C_secures {G : Gx}  {x1 : Int32} {x2 : Int32} {x3 : Int32} {h : Hp} {Q : Int64 → Hp → Prop} (hw : C_secures x1 x2 x3 h Q) : Ct yX11_secures cX11_secures 4 (some .long) 16 G [.ref (gAd G 0), .int x1, .int x2, .int x3] h (QJ G Q) := by
  refine ct_go [(0, .ref (gAd G 0)), (1, .int x1), (2, .int x2), (3, .int x3)] (plainFor_of_name (by decide)) rfl (Nat.le_of_ble_eq_true rfl) rfl ?_
  refine g_iload_n dX11_secures_0 rfl rfl ?_
  refine g_callSI [.int x1] dX11_secures_1 ml_X11_202 mk_X11_isPlayer rfl (Nat.le_of_ble_eq_true rfl) (Nat.le_of_ble_eq_true rfl) rfl (c_C_isPlayer hw) (fun r1 h2 hw => ?_)
  refine g_if_eq 25 dX11_secures_4 rfl (fun hc => ?_) (fun hc => ?_)
  · have hw := hw.1 hc
    refine g_ldc2 dX11_secures_25 kl_X11_170 ?_
    exact g_lret dX11_secures_28 hw
  · have hw := hw.2 hc
    refine g_aload_n dX11_secures_7 rfl rfl ?_
    refine g_getO dX11_secures_8 fl_X11_27 sh0 rfl ?_
    refine g_iload_n dX11_secures_11 rfl rfl ?_
    refine g_callVI [.int x2] (ci := 2) dX11_secures_12 ml_X11_129 mk_X2_hasPlace rfl rfl sh14 (Nat.le_of_ble_eq_true rfl) (Nat.le_of_ble_eq_true rfl) rfl (c_Land_hasPlace hw) (fun r3 h4 hw => ?_)
    refine g_if_eq 25 dX11_secures_15 rfl (fun hc => ?_) (fun hc => ?_)
    · have hw := hw.1 hc
      refine g_ldc2 dX11_secures_25 kl_X11_170 ?_
      exact g_lret dX11_secures_28 hw
    · have hw := hw.2 hc
      refine g_iload_n dX11_secures_18 rfl rfl ?_
      refine g_callSI [.int x3] dX11_secures_19 ml_X11_262 mk_X11_isEither rfl (Nat.le_of_ble_eq_true rfl) (Nat.le_of_ble_eq_true rfl) rfl (c_C_isEither hw) (fun r5 h6 hw => ?_)
      refine g_if_ne 29 dX11_secures_22 rfl (fun hc => ?_) (fun hc => ?_)
      · have hw := hw.1 hc
        refine g_aload_n dX11_secures_29 rfl rfl ?_
        refine g_iload_n dX11_secures_30 rfl rfl ?_
        refine g_callVV [.int x1] (ci := 11) dX11_secures_31 ml_X11_299 mk_X11_lookAtPlanOf rfl rfl sh0 (Nat.le_of_ble_eq_true rfl) (Nat.le_of_ble_eq_true rfl) rfl (c_C_lookAtPlanOf hw) (fun h7 hw => ?_)
        refine g_aload_n dX11_secures_34 rfl rfl ?_
        refine g_getO dX11_secures_35 fl_X11_65 sh0 rfl ?_
        refine g_iload_n dX11_secures_38 rfl rfl ?_
        refine g_iload_n dX11_secures_39 rfl rfl ?_
        refine g_callVI [.int x1, .int x2] (ci := 8) dX11_secures_40 ml_X11_302 mk_X8_securedBy rfl rfl sh73 (Nat.le_of_ble_eq_true rfl) (Nat.le_of_ble_eq_true rfl) rfl (c_Survey_securedBy hw) (fun r8 h9 hw => ?_)
        refine g_i2l dX11_secures_43 ?_
        refine g_ldc2 dX11_secures_44 kl_X11_271 ?_
        refine g_iload_n dX11_secures_47 rfl rfl ?_
        refine g_callSJ [.long ((r8).toInt64), .long (840 : Int64), .int x3] dX11_secures_48 ml_X11_273 mk_X11_lowestTerms rfl (Nat.le_of_ble_eq_true rfl) (Nat.le_of_ble_eq_true rfl) rfl (c_C_lowestTerms hw) (fun r10 h11 hw => ?_)
        exact g_lret dX11_secures_51 hw
      · have hw := hw.2 hc
        refine g_ldc2 dX11_secures_25 kl_X11_170 ?_
        exact g_lret dX11_secures_28 hw
theorem dX11_meet_0 : decode cX11_meet 0 = .ok (.aload_n 0, 1) := by decide +kernel
theorem dX11_meet_1 : decode cX11_meet 1 = .ok (.iconst 1, 1) := by decide +kernel
theorem dX11_meet_2 : decode cX11_meet 2 = .ok (.invokevirtual 299, 3) := by decide +kernel
theorem dX11_meet_5 : decode cX11_meet 5 = .ok (.iconst 0, 1) := by decide +kernel
theorem dX11_meet_6 : decode cX11_meet 6 = .ok (.istore_n 1, 1) := by decide +kernel
theorem dX11_meet_7 : decode cX11_meet 7 = .ok (.iload_n 1, 1) := by decide +kernel
theorem dX11_meet_8 : decode cX11_meet 8 = .ok (.aload_n 0, 1) := by decide +kernel
theorem dX11_meet_9 : decode cX11_meet 9 = .ok (.getfield 90, 3) := by decide +kernel
theorem dX11_meet_12 : decode cX11_meet 12 = .ok (.arraylength, 1) := by decide +kernel
theorem dX11_meet_13 : decode cX11_meet 13 = .ok (.if_icmp .ge 24, 3) := by decide +kernel
theorem dX11_meet_16 : decode cX11_meet 16 = .ok (.aload_n 0, 1) := by decide +kernel
theorem dX11_meet_17 : decode cX11_meet 17 = .ok (.getfield 90, 3) := by decide +kernel
theorem dX11_meet_20 : decode cX11_meet 20 = .ok (.iload_n 1, 1) := by decide +kernel
theorem dX11_meet_21 : decode cX11_meet 21 = .ok (.aload_n 0, 1) := by decide +kernel
theorem dX11_meet_22 : decode cX11_meet 22 = .ok (.getfield 65, 3) := by decide +kernel
theorem dX11_meet_25 : decode cX11_meet 25 = .ok (.iconst 1, 1) := by decide +kernel
theorem dX11_meet_26 : decode cX11_meet 26 = .ok (.iload_n 1, 1) := by decide +kernel
theorem dX11_meet_27 : decode cX11_meet 27 = .ok (.invokevirtual 302, 3) := by decide +kernel
theorem dX11_meet_30 : decode cX11_meet 30 = .ok (.iastore, 1) := by decide +kernel
theorem dX11_meet_31 : decode cX11_meet 31 = .ok (.iinc 1 1, 3) := by decide +kernel
theorem dX11_meet_34 : decode cX11_meet 34 = .ok (.goto (-27), 3) := by decide +kernel
theorem dX11_meet_37 : decode cX11_meet 37 = .ok (.aload_n 0, 1) := by decide +kernel
theorem dX11_meet_38 : decode cX11_meet 38 = .ok (.iconst 0, 1) := by decide +kernel
theorem dX11_meet_39 : decode cX11_meet 39 = .ok (.invokevirtual 299, 3) := by decide +kernel
theorem dX11_meet_42 : decode cX11_meet 42 = .ok (.iconst 0, 1) := by decide +kernel
theorem dX11_meet_43 : decode cX11_meet 43 = .ok (.istore_n 1, 1) := by decide +kernel
theorem dX11_meet_44 : decode cX11_meet 44 = .ok (.iconst 0, 1) := by decide +kernel
theorem dX11_meet_45 : decode cX11_meet 45 = .ok (.istore_n 2, 1) := by decide +kernel
theorem dX11_meet_46 : decode cX11_meet 46 = .ok (.iload_n 2, 1) := by decide +kernel
theorem dX11_meet_47 : decode cX11_meet 47 = .ok (.aload_n 0, 1) := by decide +kernel
theorem dX11_meet_48 : decode cX11_meet 48 = .ok (.getfield 27, 3) := by decide +kernel
theorem dX11_meet_51 : decode cX11_meet 51 = .ok (.getfield 209, 3) := by decide +kernel
theorem dX11_meet_54 : decode cX11_meet 54 = .ok (.if_icmp .ge 42, 3) := by decide +kernel
theorem dX11_meet_57 : decode cX11_meet 57 = .ok (.iload_n 2, 1) := by decide +kernel
theorem dX11_meet_58 : decode cX11_meet 58 = .ok (.aload_n 0, 1) := by decide +kernel
theorem dX11_meet_59 : decode cX11_meet 59 = .ok (.getfield 90, 3) := by decide +kernel
theorem dX11_meet_62 : decode cX11_meet 62 = .ok (.arraylength, 1) := by decide +kernel
theorem dX11_meet_63 : decode cX11_meet 63 = .ok (.if_icmp .ge 33, 3) := by decide +kernel
theorem dX11_meet_66 : decode cX11_meet 66 = .ok (.aload_n 0, 1) := by decide +kernel
theorem dX11_meet_67 : decode cX11_meet 67 = .ok (.getfield 90, 3) := by decide +kernel
theorem dX11_meet_70 : decode cX11_meet 70 = .ok (.iload_n 2, 1) := by decide +kernel
theorem dX11_meet_71 : decode cX11_meet 71 = .ok (.iaload, 1) := by decide +kernel
theorem dX11_meet_72 : decode cX11_meet 72 = .ok (.aload_n 0, 1) := by decide +kernel
theorem dX11_meet_73 : decode cX11_meet 73 = .ok (.getfield 65, 3) := by decide +kernel
theorem dX11_meet_76 : decode cX11_meet 76 = .ok (.iconst 0, 1) := by decide +kernel
theorem dX11_meet_77 : decode cX11_meet 77 = .ok (.iload_n 2, 1) := by decide +kernel
theorem dX11_meet_78 : decode cX11_meet 78 = .ok (.invokevirtual 302, 3) := by decide +kernel
theorem dX11_meet_81 : decode cX11_meet 81 = .ok (.if_icmp .ne 9, 3) := by decide +kernel
theorem dX11_meet_84 : decode cX11_meet 84 = .ok (.iload_n 1, 1) := by decide +kernel
theorem dX11_meet_85 : decode cX11_meet 85 = .ok (.iconst 1, 1) := by decide +kernel
theorem dX11_meet_86 : decode cX11_meet 86 = .ok (.iload_n 2, 1) := by decide +kernel
theorem dX11_meet_87 : decode cX11_meet 87 = .ok (.ishl, 1) := by decide +kernel
theorem dX11_meet_88 : decode cX11_meet 88 = .ok (.ior, 1) := by decide +kernel
theorem dX11_meet_89 : decode cX11_meet 89 = .ok (.istore_n 1, 1) := by decide +kernel
theorem dX11_meet_90 : decode cX11_meet 90 = .ok (.iinc 2 1, 3) := by decide +kernel
theorem dX11_meet_93 : decode cX11_meet 93 = .ok (.goto (-47), 3) := by decide +kernel
theorem dX11_meet_96 : decode cX11_meet 96 = .ok (.iload_n 1, 1) := by decide +kernel
theorem dX11_meet_97 : decode cX11_meet 97 = .ok (.ireturn, 1) := by decide +kernel
theorem fl_X11_90 : FLk RX11 90 11 14 := ⟨_, rfl, by decide, mW 393 (by decide +kernel) rfl⟩
def C_meet_L7 (K37 : Hp → Prop) : Nat → Int32 → Hp → Prop
  | 0, _, _ => False
  | n + 1, x1, h => (8 ≤ x1 → K37 h) ∧ (¬ 8 ≤ x1 → Survey_securedBy 1 x1 h (fun r2 h3 => vp_in x1 8 ∧ ∀ h4 : Hp, h4 = sI h3 96 (x1).toNatClampNeg r2 → ∀ v5 : Int32, v5 = (x1 + 1) → C_meet_L7 K37 n v5 h4))
set_option maxHeartbeats 4000000 in
set_option maxRecDepth 20000 in
theorem gl_C_meet_L7 {G : Gx}  {Q : Int32 → Hp → Prop} {K37 : Hp → Prop} (hK37 : ∀  (h1 : Hp), K37  h1 → Go cX11_meet 3 RX11 (some .int) 16 G (QI G Q) 37 [(0, .ref (gAd G 0))] [] h1) : ∀ (n : Nat) (x1 : Int32) (h : Hp), C_meet_L7 K37 n x1 h → Go cX11_meet 3 RX11 (some .int) 16 G (QI G Q) 7 [(0, .ref (gAd G 0)), (1, .int x1)] [] h := by
  intro n
  induction n with
  | zero => intro _ h hw; exact False.elim hw
  | succ n ih =>
    intro x1 h hw
    refine g_iload_n dX11_meet_7 rfl rfl ?_
    refine g_aload_n dX11_meet_8 rfl rfl ?_
    refine g_getA dX11_meet_9 fl_X11_90 sh0 rfl ?_
    refine g_alen dX11_meet_12 ia96 (by decide) al96 (v := 8) (by decide) ?_
    refine g_icmp_ge 37 dX11_meet_13 rfl (fun hc => ?_) (fun hc => ?_)
    · have hw := hw.1 hc
      refine g_lv [0] rfl ?_
      exact hK37 _ hw
    · have hw := hw.2 hc
      refine g_aload_n dX11_meet_16 rfl rfl ?_
      refine g_getA dX11_meet_17 fl_X11_90 sh0 rfl ?_
      refine g_iload_n dX11_meet_20 rfl rfl ?_
      refine g_aload_n dX11_meet_21 rfl rfl ?_
      refine g_getO dX11_meet_22 fl_X11_65 sh0 rfl ?_
      refine g_iconst (v := 1) dX11_meet_25 (by decide) ?_
      refine g_iload_n dX11_meet_26 rfl rfl ?_
      refine g_callVI [.int 1, .int x1] (ci := 8) dX11_meet_27 ml_X11_302 mk_X8_securedBy rfl rfl sh73 (Nat.le_of_ble_eq_true rfl) (Nat.le_of_ble_eq_true rfl) rfl (c_Survey_securedBy hw) (fun r2 h3 hw => ?_)
      refine g_iast dX11_meet_30 ia96 al96 hw.1 ?_
      have hw := hw.2
      refine g_heap (fun h4 eh4 => ?_)
      have hw := hw h4 eh4
      obtain ⟨v5, ev5⟩ : ∃ y : Int32, y = (x1 + 1) := ⟨_, rfl⟩
      have hw := hw v5 ev5
      refine g_iinc dX11_meet_31 rfl (by rw [ev5]; rfl) (by decide) (lv1 := [(0, .ref (gAd G 0)), (1, .int v5)]) rfl ?_
      refine g_goto 7 dX11_meet_34 rfl ?_
      exact ih _ _ hw
def C_meet_L46 (Q : Int32 → Hp → Prop) : Nat → Int32 → Int32 → Hp → Prop
  | 0, _, _, _ => False
  | n + 1, x1, x2, h => ((gI h 14 0) ≤ x2 → Q x1 h) ∧ (¬ (gI h 14 0) ≤ x2 → (8 ≤ x2 → Q x1 h) ∧ (¬ 8 ≤ x2 → vp_in x2 8 ∧ Survey_securedBy 0 x2 h (fun r9 h10 => ∀ J90 : Int32 → Hp → Prop, J90 = (fun x1_11 h12 => ∀ v13 : Int32, v13 = (x2 + 1) → C_meet_L46 Q n x1_11 v13 h12) → (¬ (gI h 96 (x2).toNatClampNeg) = r9 → J90 x1 h10) ∧ ((gI h 96 (x2).toNatClampNeg) = r9 → ∀ v14 : Int32, v14 = (x1 ||| ((1 : Int32) <<< (x2 &&& 31))) → J90 v14 h10))))
set_option maxHeartbeats 4000000 in
set_option maxRecDepth 20000 in
theorem gl_C_meet_L46 {G : Gx}  {Q : Int32 → Hp → Prop} : ∀ (n : Nat) (x1 : Int32) (x2 : Int32) (h : Hp), C_meet_L46 Q n x1 x2 h → Go cX11_meet 3 RX11 (some .int) 16 G (QI G Q) 46 [(0, .ref (gAd G 0)), (1, .int x1), (2, .int x2)] [] h := by
  intro n
  induction n with
  | zero => intro _ _ h hw; exact False.elim hw
  | succ n ih =>
    intro x1 x2 h hw
    refine g_iload_n dX11_meet_46 rfl rfl ?_
    refine g_aload_n dX11_meet_47 rfl rfl ?_
    refine g_getO dX11_meet_48 fl_X11_27 sh0 rfl ?_
    refine g_getI dX11_meet_51 fl_X11_209 sh14 rfl ?_
    refine g_icmp_ge 96 dX11_meet_54 rfl (fun hc => ?_) (fun hc => ?_)
    · have hw := hw.1 hc
      refine g_iload_n dX11_meet_96 rfl rfl ?_
      exact g_iret dX11_meet_97 hw
    · have hw := hw.2 hc
      refine g_iload_n dX11_meet_57 rfl rfl ?_
      refine g_aload_n dX11_meet_58 rfl rfl ?_
      refine g_getA dX11_meet_59 fl_X11_90 sh0 rfl ?_
      refine g_alen dX11_meet_62 ia96 (by decide) al96 (v := 8) (by decide) ?_
      refine g_icmp_ge 96 dX11_meet_63 rfl (fun hc => ?_) (fun hc => ?_)
      · have hw := hw.1 hc
        refine g_iload_n dX11_meet_96 rfl rfl ?_
        exact g_iret dX11_meet_97 hw
      · have hw := hw.2 hc
        refine g_aload_n dX11_meet_66 rfl rfl ?_
        refine g_getA dX11_meet_67 fl_X11_90 sh0 rfl ?_
        refine g_iload_n dX11_meet_70 rfl rfl ?_
        refine g_iald dX11_meet_71 ia96 al96 hw.1 ?_
        have hw := hw.2
        refine g_aload_n dX11_meet_72 rfl rfl ?_
        refine g_getO dX11_meet_73 fl_X11_65 sh0 rfl ?_
        refine g_iconst (v := 0) dX11_meet_76 (by decide) ?_
        refine g_iload_n dX11_meet_77 rfl rfl ?_
        refine g_callVI [.int 0, .int x2] (ci := 8) dX11_meet_78 ml_X11_302 mk_X8_securedBy rfl rfl sh73 (Nat.le_of_ble_eq_true rfl) (Nat.le_of_ble_eq_true rfl) rfl (c_Survey_securedBy hw) (fun r9 h10 hw => ?_)
        refine jn_el hw (fun J90 eJ90 hw => ?_)
        have hJ90 : ∀ (x1_11 : Int32) (h12 : Hp), J90 x1_11 h12 → Go cX11_meet 3 RX11 (some .int) 16 G (QI G Q) 90 [(0, .ref (gAd G 0)), (1, .int x1_11), (2, .int x2)] [] h12 := by
          intro x1_11 h12 hw
          subst eJ90
          obtain ⟨v13, ev13⟩ : ∃ y : Int32, y = (x2 + 1) := ⟨_, rfl⟩
          have hw := hw v13 ev13
          refine g_iinc dX11_meet_90 rfl (by rw [ev13]; rfl) (by decide) (lv1 := [(0, .ref (gAd G 0)), (1, .int x1_11), (2, .int v13)]) rfl ?_
          refine g_goto 46 dX11_meet_93 rfl ?_
          exact ih _ _ _ hw
        refine g_icmp_ne 90 dX11_meet_81 rfl (fun hc => ?_) (fun hc => ?_)
        · have hw := hw.1 hc
          exact hJ90 _ _ hw
        · have hw := hw.2 hc
          refine g_iload_n dX11_meet_84 rfl rfl ?_
          refine g_iconst (v := 1) dX11_meet_85 (by decide) ?_
          refine g_iload_n dX11_meet_86 rfl rfl ?_
          refine g_ishl dX11_meet_87 ?_
          refine g_ior dX11_meet_88 ?_
          refine g_topi (fun v14 ev14 => ?_)
          have hw := hw v14 ev14
          refine g_istore_n dX11_meet_89 rfl (by decide) (lv1 := [(0, .ref (gAd G 0)), (1, .int v14), (2, .int x2)]) rfl ?_
          exact hJ90 _ _ hw
def C_meet  (h : Hp) (Q : Int32 → Hp → Prop) : Prop := C_lookAtPlanOf 1 h (fun h1 => ∃ n6, C_meet_L7 (fun h7 => C_lookAtPlanOf 0 h7 (fun h8 => ∃ n15, C_meet_L46 Q n15 0 0 h8)) n6 0 h1)
set_option maxHeartbeats 4000000 in
set_option maxRecDepth 20000 in
theorem c_C_meet {G : Gx}   {h : Hp} {Q : Int32 → Hp → Prop} (hw : C_meet  h Q) : Ct yX11_meet cX11_meet 3 (some .int) 16 G [.ref (gAd G 0)] h (QI G Q) := by
  refine ct_go [(0, .ref (gAd G 0))] (plainFor_of_name (by decide)) rfl (Nat.le_of_ble_eq_true rfl) rfl ?_
  refine g_aload_n dX11_meet_0 rfl rfl ?_
  refine g_iconst (v := 1) dX11_meet_1 (by decide) ?_
  refine g_callVV [.int 1] (ci := 11) dX11_meet_2 ml_X11_299 mk_X11_lookAtPlanOf rfl rfl sh0 (Nat.le_of_ble_eq_true rfl) (Nat.le_of_ble_eq_true rfl) rfl (c_C_lookAtPlanOf hw) (fun h1 hw => ?_)
  refine g_iconst (v := 0) dX11_meet_5 (by decide) ?_
  refine g_istore_n dX11_meet_6 rfl (by decide) (lv1 := [(0, .ref (gAd G 0)), (1, .int 0)]) rfl ?_
  obtain ⟨n6, hw⟩ := hw
  refine gl_C_meet_L7  ?_ _ _ _ hw
  · intro h7 hw
    refine g_aload_n dX11_meet_37 rfl rfl ?_
    refine g_iconst (v := 0) dX11_meet_38 (by decide) ?_
    refine g_callVV [.int 0] (ci := 11) dX11_meet_39 ml_X11_299 mk_X11_lookAtPlanOf rfl rfl sh0 (Nat.le_of_ble_eq_true rfl) (Nat.le_of_ble_eq_true rfl) rfl (c_C_lookAtPlanOf hw) (fun h8 hw => ?_)
    refine g_iconst (v := 0) dX11_meet_42 (by decide) ?_
    refine g_istore_n dX11_meet_43 rfl (by decide) (lv1 := [(0, .ref (gAd G 0)), (1, .int 0)]) rfl ?_
    refine g_iconst (v := 0) dX11_meet_44 (by decide) ?_
    refine g_istore_n dX11_meet_45 rfl (by decide) (lv1 := [(0, .ref (gAd G 0)), (1, .int 0), (2, .int 0)]) rfl ?_
    obtain ⟨n15, hw⟩ := hw
    refine gl_C_meet_L46   _ _ _ _ hw
theorem dX0_goodPlans_0 : decode cX0_goodPlans 0 = .ok (.iload_n 2, 1) := by decide +kernel
theorem dX0_goodPlans_1 : decode cX0_goodPlans 1 = .ok (.ifCond .lt 9, 3) := by decide +kernel
theorem dX0_goodPlans_4 : decode cX0_goodPlans 4 = .ok (.iload_n 2, 1) := by decide +kernel
theorem dX0_goodPlans_5 : decode cX0_goodPlans 5 = .ok (.bipush 8, 2) := by decide +kernel
theorem dX0_goodPlans_7 : decode cX0_goodPlans 7 = .ok (.if_icmp .lt 5, 3) := by decide +kernel
theorem dX0_goodPlans_10 : decode cX0_goodPlans 10 = .ok (.iconst 0, 1) := by decide +kernel
theorem dX0_goodPlans_11 : decode cX0_goodPlans 11 = .ok (.ireturn, 1) := by decide +kernel
theorem dX0_goodPlans_12 : decode cX0_goodPlans 12 = .ok (.iload_n 1, 1) := by decide +kernel
theorem dX0_goodPlans_13 : decode cX0_goodPlans 13 = .ok (.iconst 1, 1) := by decide +kernel
theorem dX0_goodPlans_14 : decode cX0_goodPlans 14 = .ok (.if_icmp .ne 12, 3) := by decide +kernel
theorem dX0_goodPlans_17 : decode cX0_goodPlans 17 = .ok (.aload_n 0, 1) := by decide +kernel
theorem dX0_goodPlans_18 : decode cX0_goodPlans 18 = .ok (.getfield 25, 3) := by decide +kernel
theorem dX0_goodPlans_21 : decode cX0_goodPlans 21 = .ok (.iload_n 2, 1) := by decide +kernel
theorem dX0_goodPlans_22 : decode cX0_goodPlans 22 = .ok (.iaload, 1) := by decide +kernel
theorem dX0_goodPlans_23 : decode cX0_goodPlans 23 = .ok (.goto 9, 3) := by decide +kernel
theorem dX0_goodPlans_26 : decode cX0_goodPlans 26 = .ok (.aload_n 0, 1) := by decide +kernel
theorem dX0_goodPlans_27 : decode cX0_goodPlans 27 = .ok (.getfield 28, 3) := by decide +kernel
theorem dX0_goodPlans_30 : decode cX0_goodPlans 30 = .ok (.iload_n 2, 1) := by decide +kernel
theorem dX0_goodPlans_31 : decode cX0_goodPlans 31 = .ok (.iaload, 1) := by decide +kernel
theorem dX0_goodPlans_32 : decode cX0_goodPlans 32 = .ok (.ireturn, 1) := by decide +kernel
def Game_goodPlans (x1 : Int32) (x2 : Int32) (h : Hp) (Q : Int32 → Hp → Prop) : Prop := (x2 < 0 → Q 0 h) ∧ (¬ x2 < 0 → (x2 < 8 → (¬ x1 = 1 → vp_in x2 8 ∧ Q (gI h 85 (x2).toNatClampNeg) h) ∧ (x1 = 1 → vp_in x2 8 ∧ Q (gI h 84 (x2).toNatClampNeg) h)) ∧ (¬ x2 < 8 → Q 0 h))
set_option maxHeartbeats 4000000 in
set_option maxRecDepth 20000 in
theorem c_Game_goodPlans {G : Gx}  {x1 : Int32} {x2 : Int32} {h : Hp} {Q : Int32 → Hp → Prop} (hw : Game_goodPlans x1 x2 h Q) : Ct yX0_goodPlans cX0_goodPlans 3 (some .int) 1 G [.ref (gAd G 80), .int x1, .int x2] h (QI G Q) := by
  refine ct_go [(0, .ref (gAd G 80)), (1, .int x1), (2, .int x2)] (plainFor_of_name (by decide)) rfl (Nat.le_of_ble_eq_true rfl) rfl ?_
  refine g_iload_n dX0_goodPlans_0 rfl rfl ?_
  refine g_if_lt 10 dX0_goodPlans_1 rfl (fun hc => ?_) (fun hc => ?_)
  · have hw := hw.1 hc
    refine g_iconst (v := 0) dX0_goodPlans_10 (by decide) ?_
    exact g_iret dX0_goodPlans_11 hw
  · have hw := hw.2 hc
    refine g_iload_n dX0_goodPlans_4 rfl rfl ?_
    refine g_bipush (v := 8) dX0_goodPlans_5 (by decide) ?_
    refine g_icmp_lt 12 dX0_goodPlans_7 rfl (fun hc => ?_) (fun hc => ?_)
    · have hw := hw.1 hc
      refine g_iload_n dX0_goodPlans_12 rfl rfl ?_
      refine g_iconst (v := 1) dX0_goodPlans_13 (by decide) ?_
      refine g_icmp_ne 26 dX0_goodPlans_14 rfl (fun hc => ?_) (fun hc => ?_)
      · have hw := hw.1 hc
        refine g_aload_n dX0_goodPlans_26 rfl rfl ?_
        refine g_getA dX0_goodPlans_27 fl_X0_28 sh80 rfl ?_
        refine g_iload_n dX0_goodPlans_30 rfl rfl ?_
        refine g_iald dX0_goodPlans_31 ia85 al85 hw.1 ?_
        have hw := hw.2
        exact g_iret dX0_goodPlans_32 hw
      · have hw := hw.2 hc
        refine g_aload_n dX0_goodPlans_17 rfl rfl ?_
        refine g_getA dX0_goodPlans_18 fl_X0_25 sh80 rfl ?_
        refine g_iload_n dX0_goodPlans_21 rfl rfl ?_
        refine g_iald dX0_goodPlans_22 ia84 al84 hw.1 ?_
        have hw := hw.2
        refine g_goto 32 dX0_goodPlans_23 rfl ?_
        exact g_iret dX0_goodPlans_32 hw
    · have hw := hw.2 hc
      refine g_iconst (v := 0) dX0_goodPlans_10 (by decide) ?_
      exact g_iret dX0_goodPlans_11 hw
theorem dX11_plans_0 : decode cX11_plans 0 = .ok (.iload_n 1, 1) := by decide +kernel
theorem dX11_plans_1 : decode cX11_plans 1 = .ok (.invokestatic 202, 3) := by decide +kernel
theorem dX11_plans_4 : decode cX11_plans 4 = .ok (.ifCond .eq 14, 3) := by decide +kernel
theorem dX11_plans_7 : decode cX11_plans 7 = .ok (.aload_n 0, 1) := by decide +kernel
theorem dX11_plans_8 : decode cX11_plans 8 = .ok (.getfield 27, 3) := by decide +kernel
theorem dX11_plans_11 : decode cX11_plans 11 = .ok (.iload_n 2, 1) := by decide +kernel
theorem dX11_plans_12 : decode cX11_plans 12 = .ok (.invokevirtual 129, 3) := by decide +kernel
theorem dX11_plans_15 : decode cX11_plans 15 = .ok (.ifCond .ne 6, 3) := by decide +kernel
theorem dX11_plans_18 : decode cX11_plans 18 = .ok (.bipush (-2), 2) := by decide +kernel
theorem dX11_plans_20 : decode cX11_plans 20 = .ok (.ireturn, 1) := by decide +kernel
theorem dX11_plans_21 : decode cX11_plans 21 = .ok (.aload_n 0, 1) := by decide +kernel
theorem dX11_plans_22 : decode cX11_plans 22 = .ok (.getfield 72, 3) := by decide +kernel
theorem dX11_plans_25 : decode cX11_plans 25 = .ok (.aload_n 0, 1) := by decide +kernel
theorem dX11_plans_26 : decode cX11_plans 26 = .ok (.getfield 27, 3) := by decide +kernel
theorem dX11_plans_29 : decode cX11_plans 29 = .ok (.aload_n 0, 1) := by decide +kernel
theorem dX11_plans_30 : decode cX11_plans 30 = .ok (.getfield 34, 3) := by decide +kernel
theorem dX11_plans_33 : decode cX11_plans 33 = .ok (.getfield 140, 3) := by decide +kernel
theorem dX11_plans_36 : decode cX11_plans 36 = .ok (.aload_n 0, 1) := by decide +kernel
theorem dX11_plans_37 : decode cX11_plans 37 = .ok (.getfield 65, 3) := by decide +kernel
theorem dX11_plans_40 : decode cX11_plans 40 = .ok (.invokevirtual 205, 3) := by decide +kernel
theorem dX11_plans_43 : decode cX11_plans 43 = .ok (.aload_n 0, 1) := by decide +kernel
theorem dX11_plans_44 : decode cX11_plans 44 = .ok (.getfield 72, 3) := by decide +kernel
theorem dX11_plans_47 : decode cX11_plans 47 = .ok (.iload_n 1, 1) := by decide +kernel
theorem dX11_plans_48 : decode cX11_plans 48 = .ok (.iload_n 2, 1) := by decide +kernel
theorem dX11_plans_49 : decode cX11_plans 49 = .ok (.invokevirtual 308, 3) := by decide +kernel
theorem dX11_plans_52 : decode cX11_plans 52 = .ok (.ireturn, 1) := by decide +kernel
theorem ml_X11_308 : Cond.methodLink RX11 308 yX0_goodPlans ∈ Wd := mW 1119 (by decide +kernel) rfl
theorem mk_X0_goodPlans : MokV yX0_goodPlans cX0_goodPlans 3 (some .int) 2 := ⟨⟨mW 10 (by decide +kernel) rfl, mW 1122 (by decide +kernel) rfl, ⟨by decide, by decide, by decide +kernel⟩, by decide⟩, mW 1120 (by decide +kernel) rfl, mW 1121 (by decide +kernel) rfl⟩
def C_plans (x1 : Int32) (x2 : Int32) (h : Hp) (Q : Int32 → Hp → Prop) : Prop := C_isPlayer x1 h (fun r1 h2 => (r1 = 0 → Q (-2) h2) ∧ (¬ r1 = 0 → Land_hasPlace x2 h2 (fun r3 h4 => (¬ r3 = 0 → Game_solve (gI h4 20 3) h4 (fun h5 => Game_goodPlans x1 x2 h5 (fun r6 h7 => Q r6 h7))) ∧ (r3 = 0 → Q (-2) h4))))
set_option maxHeartbeats 4000000 in
set_option maxRecDepth 20000 in
theorem c_C_plans {G : Gx}  {x1 : Int32} {x2 : Int32} {h : Hp} {Q : Int32 → Hp → Prop} (hw : C_plans x1 x2 h Q) : Ct yX11_plans cX11_plans 3 (some .int) 17 G [.ref (gAd G 0), .int x1, .int x2] h (QI G Q) := by
  refine ct_go [(0, .ref (gAd G 0)), (1, .int x1), (2, .int x2)] (plainFor_of_name (by decide)) rfl (Nat.le_of_ble_eq_true rfl) rfl ?_
  refine g_iload_n dX11_plans_0 rfl rfl ?_
  refine g_callSI [.int x1] dX11_plans_1 ml_X11_202 mk_X11_isPlayer rfl (Nat.le_of_ble_eq_true rfl) (Nat.le_of_ble_eq_true rfl) rfl (c_C_isPlayer hw) (fun r1 h2 hw => ?_)
  refine g_if_eq 18 dX11_plans_4 rfl (fun hc => ?_) (fun hc => ?_)
  · have hw := hw.1 hc
    refine g_bipush (v := (-2)) dX11_plans_18 (by decide) ?_
    exact g_iret dX11_plans_20 hw
  · have hw := hw.2 hc
    refine g_aload_n dX11_plans_7 rfl rfl ?_
    refine g_getO dX11_plans_8 fl_X11_27 sh0 rfl ?_
    refine g_iload_n dX11_plans_11 rfl rfl ?_
    refine g_callVI [.int x2] (ci := 2) dX11_plans_12 ml_X11_129 mk_X2_hasPlace rfl rfl sh14 (Nat.le_of_ble_eq_true rfl) (Nat.le_of_ble_eq_true rfl) rfl (c_Land_hasPlace hw) (fun r3 h4 hw => ?_)
    refine g_if_ne 21 dX11_plans_15 rfl (fun hc => ?_) (fun hc => ?_)
    · have hw := hw.1 hc
      refine g_aload_n dX11_plans_21 rfl rfl ?_
      refine g_getO dX11_plans_22 fl_X11_72 sh0 rfl ?_
      refine g_aload_n dX11_plans_25 rfl rfl ?_
      refine g_getO dX11_plans_26 fl_X11_27 sh0 rfl ?_
      refine g_aload_n dX11_plans_29 rfl rfl ?_
      refine g_getO dX11_plans_30 fl_X11_34 sh0 rfl ?_
      refine g_getI dX11_plans_33 fl_X11_140 sh20 rfl ?_
      refine g_aload_n dX11_plans_36 rfl rfl ?_
      refine g_getO dX11_plans_37 fl_X11_65 sh0 rfl ?_
      refine g_callVV [.ref (gAd G 14), .int (gI h4 20 3), .ref (gAd G 73)] (ci := 0) dX11_plans_40 ml_X11_205 mk_X0_solve rfl rfl sh80 (Nat.le_of_ble_eq_true rfl) (Nat.le_of_ble_eq_true rfl) rfl (c_Game_solve hw) (fun h5 hw => ?_)
      refine g_aload_n dX11_plans_43 rfl rfl ?_
      refine g_getO dX11_plans_44 fl_X11_72 sh0 rfl ?_
      refine g_iload_n dX11_plans_47 rfl rfl ?_
      refine g_iload_n dX11_plans_48 rfl rfl ?_
      refine g_callVI [.int x1, .int x2] (ci := 0) dX11_plans_49 ml_X11_308 mk_X0_goodPlans rfl rfl sh80 (Nat.le_of_ble_eq_true rfl) (Nat.le_of_ble_eq_true rfl) rfl (c_Game_goodPlans hw) (fun r6 h7 hw => ?_)
      exact g_iret dX11_plans_52 hw
    · have hw := hw.2 hc
      refine g_bipush (v := (-2)) dX11_plans_18 (by decide) ?_
      exact g_iret dX11_plans_20 hw
theorem dX0_needAlong_0 : decode cX0_needAlong 0 = .ok (.iload_n 1, 1) := by decide +kernel
theorem dX0_needAlong_1 : decode cX0_needAlong 1 = .ok (.ifCond .lt 24, 3) := by decide +kernel
theorem dX0_needAlong_4 : decode cX0_needAlong 4 = .ok (.iload_n 1, 1) := by decide +kernel
theorem dX0_needAlong_5 : decode cX0_needAlong 5 = .ok (.aload_n 0, 1) := by decide +kernel
theorem dX0_needAlong_6 : decode cX0_needAlong 6 = .ok (.getfield 31, 3) := by decide +kernel
theorem dX0_needAlong_9 : decode cX0_needAlong 9 = .ok (.arraylength, 1) := by decide +kernel
theorem dX0_needAlong_10 : decode cX0_needAlong 10 = .ok (.if_icmp .ge 15, 3) := by decide +kernel
theorem dX0_needAlong_13 : decode cX0_needAlong 13 = .ok (.aload_n 0, 1) := by decide +kernel
theorem dX0_needAlong_14 : decode cX0_needAlong 14 = .ok (.getfield 31, 3) := by decide +kernel
theorem dX0_needAlong_17 : decode cX0_needAlong 17 = .ok (.iload_n 1, 1) := by decide +kernel
theorem dX0_needAlong_18 : decode cX0_needAlong 18 = .ok (.iaload, 1) := by decide +kernel
theorem dX0_needAlong_19 : decode cX0_needAlong 19 = .ok (.sipush 792, 3) := by decide +kernel
theorem dX0_needAlong_22 : decode cX0_needAlong 22 = .ok (.if_icmp .lt 7, 3) := by decide +kernel
theorem dX0_needAlong_25 : decode cX0_needAlong 25 = .ok (.sipush 792, 3) := by decide +kernel
theorem dX0_needAlong_28 : decode cX0_needAlong 28 = .ok (.ireturn, 1) := by decide +kernel
theorem dX0_needAlong_29 : decode cX0_needAlong 29 = .ok (.iconst 0, 1) := by decide +kernel
theorem dX0_needAlong_30 : decode cX0_needAlong 30 = .ok (.sipush 792, 3) := by decide +kernel
theorem dX0_needAlong_33 : decode cX0_needAlong 33 = .ok (.aload_n 0, 1) := by decide +kernel
theorem dX0_needAlong_34 : decode cX0_needAlong 34 = .ok (.getfield 31, 3) := by decide +kernel
theorem dX0_needAlong_37 : decode cX0_needAlong 37 = .ok (.iload_n 1, 1) := by decide +kernel
theorem dX0_needAlong_38 : decode cX0_needAlong 38 = .ok (.iaload, 1) := by decide +kernel
theorem dX0_needAlong_39 : decode cX0_needAlong 39 = .ok (.iload_n 2, 1) := by decide +kernel
theorem dX0_needAlong_40 : decode cX0_needAlong 40 = .ok (.isub, 1) := by decide +kernel
theorem dX0_needAlong_41 : decode cX0_needAlong 41 = .ok (.invokestatic 99, 3) := by decide +kernel
theorem dX0_needAlong_44 : decode cX0_needAlong 44 = .ok (.invokestatic 117, 3) := by decide +kernel
theorem dX0_needAlong_47 : decode cX0_needAlong 47 = .ok (.ireturn, 1) := by decide +kernel
theorem fl_X0_31 : FLk RX0 31 0 6 := ⟨_, rfl, by decide, mW 296 (by decide +kernel) rfl⟩
theorem ml_X0_117 : Cond.methodLink RX0 117 yJ9_max_7cf53 ∈ Wd := mW 1141 (by decide +kernel) rfl
def Game_needAlong (x1 : Int32) (x2 : Int32) (h : Hp) (Q : Int32 → Hp → Prop) : Prop := (x1 < 0 → Q 792 h) ∧ (¬ x1 < 0 → (8 ≤ x1 → Q 792 h) ∧ (¬ 8 ≤ x1 → vp_in x1 8 ∧ ((gI h 86 (x1).toNatClampNeg) < 792 → vp_in x1 8 ∧ J9_min_7cf53 792 ((gI h 86 (x1).toNatClampNeg) - x2) h (fun r1 h2 => J9_max_7cf53 0 r1 h2 (fun r3 h4 => Q r3 h4))) ∧ (¬ (gI h 86 (x1).toNatClampNeg) < 792 → Q 792 h)))
set_option maxHeartbeats 4000000 in
set_option maxRecDepth 20000 in
theorem c_Game_needAlong {G : Gx}  {x1 : Int32} {x2 : Int32} {h : Hp} {Q : Int32 → Hp → Prop} (hw : Game_needAlong x1 x2 h Q) : Ct yX0_needAlong cX0_needAlong 3 (some .int) 2 G [.ref (gAd G 80), .int x1, .int x2] h (QI G Q) := by
  refine ct_go [(0, .ref (gAd G 80)), (1, .int x1), (2, .int x2)] (plainFor_of_name (by decide)) rfl (Nat.le_of_ble_eq_true rfl) rfl ?_
  refine g_iload_n dX0_needAlong_0 rfl rfl ?_
  refine g_if_lt 25 dX0_needAlong_1 rfl (fun hc => ?_) (fun hc => ?_)
  · have hw := hw.1 hc
    refine g_sipush (v := 792) dX0_needAlong_25 (by decide) ?_
    exact g_iret dX0_needAlong_28 hw
  · have hw := hw.2 hc
    refine g_iload_n dX0_needAlong_4 rfl rfl ?_
    refine g_aload_n dX0_needAlong_5 rfl rfl ?_
    refine g_getA dX0_needAlong_6 fl_X0_31 sh80 rfl ?_
    refine g_alen dX0_needAlong_9 ia86 (by decide) al86 (v := 8) (by decide) ?_
    refine g_icmp_ge 25 dX0_needAlong_10 rfl (fun hc => ?_) (fun hc => ?_)
    · have hw := hw.1 hc
      refine g_sipush (v := 792) dX0_needAlong_25 (by decide) ?_
      exact g_iret dX0_needAlong_28 hw
    · have hw := hw.2 hc
      refine g_aload_n dX0_needAlong_13 rfl rfl ?_
      refine g_getA dX0_needAlong_14 fl_X0_31 sh80 rfl ?_
      refine g_iload_n dX0_needAlong_17 rfl rfl ?_
      refine g_iald dX0_needAlong_18 ia86 al86 hw.1 ?_
      have hw := hw.2
      refine g_sipush (v := 792) dX0_needAlong_19 (by decide) ?_
      refine g_icmp_lt 29 dX0_needAlong_22 rfl (fun hc => ?_) (fun hc => ?_)
      · have hw := hw.1 hc
        refine g_iconst (v := 0) dX0_needAlong_29 (by decide) ?_
        refine g_sipush (v := 792) dX0_needAlong_30 (by decide) ?_
        refine g_aload_n dX0_needAlong_33 rfl rfl ?_
        refine g_getA dX0_needAlong_34 fl_X0_31 sh80 rfl ?_
        refine g_iload_n dX0_needAlong_37 rfl rfl ?_
        refine g_iald dX0_needAlong_38 ia86 al86 hw.1 ?_
        have hw := hw.2
        refine g_iload_n dX0_needAlong_39 rfl rfl ?_
        refine g_isub dX0_needAlong_40 ?_
        refine g_callSI [.int 792, .int ((gI h 86 (x1).toNatClampNeg) - x2)] dX0_needAlong_41 ml_X0_99 mk_J9_min_7cf53 rfl (Nat.le_of_ble_eq_true rfl) (Nat.le_of_ble_eq_true rfl) rfl (c_J9_min_7cf53 hw) (fun r1 h2 hw => ?_)
        refine g_callSI [.int 0, .int r1] dX0_needAlong_44 ml_X0_117 mk_J9_max_7cf53 rfl (Nat.le_of_ble_eq_true rfl) (Nat.le_of_ble_eq_true rfl) rfl (c_J9_max_7cf53 hw) (fun r3 h4 hw => ?_)
        exact g_iret dX0_needAlong_47 hw
      · have hw := hw.2 hc
        refine g_sipush (v := 792) dX0_needAlong_25 (by decide) ?_
        exact g_iret dX0_needAlong_28 hw
