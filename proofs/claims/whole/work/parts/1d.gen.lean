theorem dX0_needFrom_0 : decode cX0_needFrom 0 = .ok (.aload_n 1, 1) := by decide +kernel
theorem dX0_needFrom_1 : decode cX0_needFrom 1 = .ok (.iload_n 3, 1) := by decide +kernel
theorem dX0_needFrom_2 : decode cX0_needFrom 2 = .ok (.invokevirtual 87, 3) := by decide +kernel
theorem dX0_needFrom_5 : decode cX0_needFrom 5 = .ok (.iconst 1, 1) := by decide +kernel
theorem dX0_needFrom_6 : decode cX0_needFrom 6 = .ok (.if_icmp .ne 7, 3) := by decide +kernel
theorem dX0_needFrom_9 : decode cX0_needFrom 9 = .ok (.iconst 1, 1) := by decide +kernel
theorem dX0_needFrom_10 : decode cX0_needFrom 10 = .ok (.goto 4, 3) := by decide +kernel
theorem dX0_needFrom_13 : decode cX0_needFrom 13 = .ok (.iconst 0, 1) := by decide +kernel
theorem dX0_needFrom_14 : decode cX0_needFrom 14 = .ok (.istore 4, 2) := by decide +kernel
theorem dX0_needFrom_16 : decode cX0_needFrom 16 = .ok (.aload_n 1, 1) := by decide +kernel
theorem dX0_needFrom_17 : decode cX0_needFrom 17 = .ok (.iload_n 2, 1) := by decide +kernel
theorem dX0_needFrom_18 : decode cX0_needFrom 18 = .ok (.iload_n 3, 1) := by decide +kernel
theorem dX0_needFrom_19 : decode cX0_needFrom 19 = .ok (.invokevirtual 34, 3) := by decide +kernel
theorem dX0_needFrom_22 : decode cX0_needFrom 22 = .ok (.istore 5, 2) := by decide +kernel
theorem dX0_needFrom_24 : decode cX0_needFrom 24 = .ok (.iload 4, 2) := by decide +kernel
theorem dX0_needFrom_26 : decode cX0_needFrom 26 = .ok (.ifCond .eq 9, 3) := by decide +kernel
theorem dX0_needFrom_29 : decode cX0_needFrom 29 = .ok (.sipush 792, 3) := by decide +kernel
theorem dX0_needFrom_32 : decode cX0_needFrom 32 = .ok (.goto 4, 3) := by decide +kernel
theorem dX0_needFrom_35 : decode cX0_needFrom 35 = .ok (.iconst 0, 1) := by decide +kernel
theorem dX0_needFrom_36 : decode cX0_needFrom 36 = .ok (.istore 6, 2) := by decide +kernel
theorem dX0_needFrom_38 : decode cX0_needFrom 38 = .ok (.iconst 0, 1) := by decide +kernel
theorem dX0_needFrom_39 : decode cX0_needFrom 39 = .ok (.istore 7, 2) := by decide +kernel
theorem dX0_needFrom_41 : decode cX0_needFrom 41 = .ok (.iload 7, 2) := by decide +kernel
theorem dX0_needFrom_43 : decode cX0_needFrom 43 = .ok (.bipush 16, 2) := by decide +kernel
theorem dX0_needFrom_45 : decode cX0_needFrom 45 = .ok (.if_icmp .gt 64, 3) := by decide +kernel
theorem dX0_needFrom_48 : decode cX0_needFrom 48 = .ok (.iload 5, 2) := by decide +kernel
theorem dX0_needFrom_50 : decode cX0_needFrom 50 = .ok (.iload 7, 2) := by decide +kernel
theorem dX0_needFrom_52 : decode cX0_needFrom 52 = .ok (.ishr, 1) := by decide +kernel
theorem dX0_needFrom_53 : decode cX0_needFrom 53 = .ok (.iconst 1, 1) := by decide +kernel
theorem dX0_needFrom_54 : decode cX0_needFrom 54 = .ok (.iand, 1) := by decide +kernel
theorem dX0_needFrom_55 : decode cX0_needFrom 55 = .ok (.iconst 1, 1) := by decide +kernel
theorem dX0_needFrom_56 : decode cX0_needFrom 56 = .ok (.if_icmp .ne 47, 3) := by decide +kernel
theorem dX0_needFrom_59 : decode cX0_needFrom 59 = .ok (.aload_n 0, 1) := by decide +kernel
theorem dX0_needFrom_60 : decode cX0_needFrom 60 = .ok (.aload_n 1, 1) := by decide +kernel
theorem dX0_needFrom_61 : decode cX0_needFrom 61 = .ok (.iload_n 3, 1) := by decide +kernel
theorem dX0_needFrom_62 : decode cX0_needFrom 62 = .ok (.iload 7, 2) := by decide +kernel
theorem dX0_needFrom_64 : decode cX0_needFrom 64 = .ok (.invokevirtual 108, 3) := by decide +kernel
theorem dX0_needFrom_67 : decode cX0_needFrom 67 = .ok (.aload_n 1, 1) := by decide +kernel
theorem dX0_needFrom_68 : decode cX0_needFrom 68 = .ok (.iload_n 2, 1) := by decide +kernel
theorem dX0_needFrom_69 : decode cX0_needFrom 69 = .ok (.iload 7, 2) := by decide +kernel
theorem dX0_needFrom_71 : decode cX0_needFrom 71 = .ok (.invokevirtual 111, 3) := by decide +kernel
theorem dX0_needFrom_74 : decode cX0_needFrom 74 = .ok (.invokevirtual 114, 3) := by decide +kernel
theorem dX0_needFrom_77 : decode cX0_needFrom 77 = .ok (.istore 8, 2) := by decide +kernel
theorem dX0_needFrom_79 : decode cX0_needFrom 79 = .ok (.iload 4, 2) := by decide +kernel
theorem dX0_needFrom_81 : decode cX0_needFrom 81 = .ok (.ifCond .eq 13, 3) := by decide +kernel
theorem dX0_needFrom_84 : decode cX0_needFrom 84 = .ok (.iload 6, 2) := by decide +kernel
theorem dX0_needFrom_86 : decode cX0_needFrom 86 = .ok (.iload 8, 2) := by decide +kernel
theorem dX0_needFrom_88 : decode cX0_needFrom 88 = .ok (.invokestatic 99, 3) := by decide +kernel
theorem dX0_needFrom_91 : decode cX0_needFrom 91 = .ok (.goto 10, 3) := by decide +kernel
theorem dX0_needFrom_94 : decode cX0_needFrom 94 = .ok (.iload 6, 2) := by decide +kernel
theorem dX0_needFrom_96 : decode cX0_needFrom 96 = .ok (.iload 8, 2) := by decide +kernel
theorem dX0_needFrom_98 : decode cX0_needFrom 98 = .ok (.invokestatic 117, 3) := by decide +kernel
theorem dX0_needFrom_101 : decode cX0_needFrom 101 = .ok (.istore 6, 2) := by decide +kernel
theorem dX0_needFrom_103 : decode cX0_needFrom 103 = .ok (.iinc 7 1, 3) := by decide +kernel
theorem dX0_needFrom_106 : decode cX0_needFrom 106 = .ok (.goto (-65), 3) := by decide +kernel
theorem dX0_needFrom_109 : decode cX0_needFrom 109 = .ok (.iload 6, 2) := by decide +kernel
theorem dX0_needFrom_111 : decode cX0_needFrom 111 = .ok (.ireturn, 1) := by decide +kernel
theorem ml_X0_108 : Cond.methodLink RX0 108 yX2_target ∈ Wd := mW 1135 (by decide +kernel) rfl
theorem ml_X0_111 : Cond.methodLink RX0 111 yX2_payOf ∈ Wd := mW 1136 (by decide +kernel) rfl
theorem ml_X0_114 : Cond.methodLink RX0 114 yX0_needAlong ∈ Wd := mW 1137 (by decide +kernel) rfl
theorem mk_X0_needAlong : MokV yX0_needAlong cX0_needAlong 3 (some .int) 2 := ⟨⟨mW 10 (by decide +kernel) rfl, mW 1140 (by decide +kernel) rfl, ⟨by decide, by decide, by decide +kernel⟩, by decide⟩, mW 1139 (by decide +kernel) rfl, mS (q := (yX0_needAlong, 7)) 39 (by decide +kernel)⟩
def Game_needFrom_L41 (x2 : Int32) (x3 : Int32) (x4 : Int32) (x5 : Int32) (Q : Int32 → Hp → Prop) : Nat → Int32 → Int32 → Hp → Prop
  | 0, _, _, _ => False
  | n + 1, x6, x7, h => (16 < x7 → Q x6 h) ∧ (¬ 16 < x7 → ∀ J103 : Int32 → Hp → Prop, J103 = (fun x6_9 h10 => ∀ v11 : Int32, v11 = (x7 + 1) → Game_needFrom_L41 x2 x3 x4 x5 Q n x6_9 v11 h10) → (¬ ((x5 >>> (x7 &&& 31)) &&& 1) = 1 → J103 x6 h) ∧ (((x5 >>> (x7 &&& 31)) &&& 1) = 1 → Land_target x3 x7 h (fun r12 h13 => Land_payOf x2 x7 h13 (fun r14 h15 => Game_needAlong r12 r14 h15 (fun r16 h17 => ∀ J101 : Int32 → Hp → Prop, J101 = (fun s18 h19 => J103 s18 h19) → (x4 = 0 → J9_max_7cf53 x6 r16 h17 (fun r20 h21 => J101 r20 h21)) ∧ (¬ x4 = 0 → J9_min_7cf53 x6 r16 h17 (fun r22 h23 => J101 r22 h23)))))))
set_option maxHeartbeats 4000000 in
set_option maxRecDepth 20000 in
theorem gl_Game_needFrom_L41 {G : Gx}  {x2 : Int32} {x3 : Int32} {x4 : Int32} {x5 : Int32} {Q : Int32 → Hp → Prop} : ∀ (n : Nat) (x6 : Int32) (x7 : Int32) (h : Hp), Game_needFrom_L41 x2 x3 x4 x5 Q n x6 x7 h → Go cX0_needFrom 9 RX0 (some .int) 4 G (QI G Q) 41 [(0, .ref (gAd G 80)), (1, .ref (gAd G 14)), (2, .int x2), (3, .int x3), (4, .int x4), (5, .int x5), (6, .int x6), (7, .int x7)] [] h := by
  intro n
  induction n with
  | zero => intro _ _ h hw; exact False.elim hw
  | succ n ih =>
    intro x6 x7 h hw
    refine g_iload dX0_needFrom_41 rfl ?_
    refine g_bipush (v := 16) dX0_needFrom_43 (by decide) ?_
    refine g_icmp_gt 109 dX0_needFrom_45 rfl (fun hc => ?_) (fun hc => ?_)
    · have hw := hw.1 hc
      refine g_iload dX0_needFrom_109 rfl ?_
      exact g_iret dX0_needFrom_111 hw
    · have hw := hw.2 hc
      refine g_iload dX0_needFrom_48 rfl ?_
      refine g_iload dX0_needFrom_50 rfl ?_
      refine g_ishr dX0_needFrom_52 ?_
      refine g_iconst (v := 1) dX0_needFrom_53 (by decide) ?_
      refine g_iand dX0_needFrom_54 ?_
      refine g_iconst (v := 1) dX0_needFrom_55 (by decide) ?_
      refine jn_el hw (fun J103 eJ103 hw => ?_)
      have hJ103 : ∀ (x6_9 : Int32) (h10 : Hp), J103 x6_9 h10 → Go cX0_needFrom 9 RX0 (some .int) 4 G (QI G Q) 103 [(0, .ref (gAd G 80)), (1, .ref (gAd G 14)), (2, .int x2), (3, .int x3), (4, .int x4), (5, .int x5), (6, .int x6_9), (7, .int x7)] [] h10 := by
        intro x6_9 h10 hw
        subst eJ103
        obtain ⟨v11, ev11⟩ : ∃ y : Int32, y = (x7 + 1) := ⟨_, rfl⟩
        have hw := hw v11 ev11
        refine g_iinc dX0_needFrom_103 rfl (by rw [ev11]; rfl) (by decide) (lv1 := [(0, .ref (gAd G 80)), (1, .ref (gAd G 14)), (2, .int x2), (3, .int x3), (4, .int x4), (5, .int x5), (6, .int x6_9), (7, .int v11)]) rfl ?_
        refine g_goto 41 dX0_needFrom_106 rfl ?_
        exact ih _ _ _ hw
      refine g_icmp_ne 103 dX0_needFrom_56 rfl (fun hc => ?_) (fun hc => ?_)
      · have hw := hw.1 hc
        exact hJ103 _ _ hw
      · have hw := hw.2 hc
        refine g_aload_n dX0_needFrom_59 rfl rfl ?_
        refine g_aload_n dX0_needFrom_60 rfl rfl ?_
        refine g_iload_n dX0_needFrom_61 rfl rfl ?_
        refine g_iload dX0_needFrom_62 rfl ?_
        refine g_callVI [.int x3, .int x7] (ci := 2) dX0_needFrom_64 ml_X0_108 mk_X2_target rfl rfl sh14 (Nat.le_of_ble_eq_true rfl) (Nat.le_of_ble_eq_true rfl) rfl (c_Land_target hw) (fun r12 h13 hw => ?_)
        refine g_aload_n dX0_needFrom_67 rfl rfl ?_
        refine g_iload_n dX0_needFrom_68 rfl rfl ?_
        refine g_iload dX0_needFrom_69 rfl ?_
        refine g_callVI [.int x2, .int x7] (ci := 2) dX0_needFrom_71 ml_X0_111 mk_X2_payOf rfl rfl sh14 (Nat.le_of_ble_eq_true rfl) (Nat.le_of_ble_eq_true rfl) rfl (c_Land_payOf hw) (fun r14 h15 hw => ?_)
        refine g_callVI [.int r12, .int r14] (ci := 0) dX0_needFrom_74 ml_X0_114 mk_X0_needAlong rfl rfl sh80 (Nat.le_of_ble_eq_true rfl) (Nat.le_of_ble_eq_true rfl) rfl (c_Game_needAlong hw) (fun r16 h17 hw => ?_)
        refine g_istore dX0_needFrom_77 (by decide) (lv1 := [(0, .ref (gAd G 80)), (1, .ref (gAd G 14)), (2, .int x2), (3, .int x3), (4, .int x4), (5, .int x5), (6, .int x6), (7, .int x7), (8, .int r16)]) rfl ?_
        refine g_iload dX0_needFrom_79 rfl ?_
        refine jn_el hw (fun J101 eJ101 hw => ?_)
        have hJ101 : ∀ (s18 : Int32) (h19 : Hp), J101 s18 h19 → Go cX0_needFrom 9 RX0 (some .int) 4 G (QI G Q) 101 [(0, .ref (gAd G 80)), (1, .ref (gAd G 14)), (2, .int x2), (3, .int x3), (4, .int x4), (5, .int x5), (7, .int x7)] [.int s18] h19 := by
          intro s18 h19 hw
          subst eJ101
          refine g_istore dX0_needFrom_101 (by decide) (lv1 := [(0, .ref (gAd G 80)), (1, .ref (gAd G 14)), (2, .int x2), (3, .int x3), (4, .int x4), (5, .int x5), (6, .int s18), (7, .int x7)]) rfl ?_
          exact hJ103 _ _ hw
        refine g_if_eq 94 dX0_needFrom_81 rfl (fun hc => ?_) (fun hc => ?_)
        · have hw := hw.1 hc
          refine g_iload dX0_needFrom_94 rfl ?_
          refine g_iload dX0_needFrom_96 rfl ?_
          refine g_callSI [.int x6, .int r16] dX0_needFrom_98 ml_X0_117 mk_J9_max_7cf53 rfl (Nat.le_of_ble_eq_true rfl) (Nat.le_of_ble_eq_true rfl) rfl (c_J9_max_7cf53 hw) (fun r20 h21 hw => ?_)
          refine g_lv [0, 1, 2, 3, 4, 5, 7] rfl ?_
          exact hJ101 _ _ hw
        · have hw := hw.2 hc
          refine g_iload dX0_needFrom_84 rfl ?_
          refine g_iload dX0_needFrom_86 rfl ?_
          refine g_callSI [.int x6, .int r16] dX0_needFrom_88 ml_X0_99 mk_J9_min_7cf53 rfl (Nat.le_of_ble_eq_true rfl) (Nat.le_of_ble_eq_true rfl) rfl (c_J9_min_7cf53 hw) (fun r22 h23 hw => ?_)
          refine g_goto 101 dX0_needFrom_91 rfl ?_
          refine g_lv [0, 1, 2, 3, 4, 5, 7] rfl ?_
          exact hJ101 _ _ hw
def Game_needFrom (x2 : Int32) (x3 : Int32) (h : Hp) (Q : Int32 → Hp → Prop) : Prop := Land_owner x3 h (fun r1 h2 => ∀ J14 : Int32 → Hp → Prop, J14 = (fun s3 h4 => Land_waysFrom x2 x3 h4 (fun r5 h6 => ∀ J36 : Int32 → Hp → Prop, J36 = (fun s7 h8 => ∃ n24, Game_needFrom_L41 x2 x3 s3 r5 Q n24 s7 0 h8) → (s3 = 0 → J36 0 h6) ∧ (¬ s3 = 0 → J36 792 h6))) → (¬ r1 = 1 → J14 0 h2) ∧ (r1 = 1 → J14 1 h2))
set_option maxHeartbeats 4000000 in
set_option maxRecDepth 20000 in
theorem c_Game_needFrom {G : Gx}  {x2 : Int32} {x3 : Int32} {h : Hp} {Q : Int32 → Hp → Prop} (hw : Game_needFrom x2 x3 h Q) : Ct yX0_needFrom cX0_needFrom 9 (some .int) 4 G [.ref (gAd G 80), .ref (gAd G 14), .int x2, .int x3] h (QI G Q) := by
  refine ct_go [(0, .ref (gAd G 80)), (1, .ref (gAd G 14)), (2, .int x2), (3, .int x3)] (plainFor_of_name (by decide)) rfl (Nat.le_of_ble_eq_true rfl) rfl ?_
  refine g_aload_n dX0_needFrom_0 rfl rfl ?_
  refine g_iload_n dX0_needFrom_1 rfl rfl ?_
  refine g_callVI [.int x3] (ci := 2) dX0_needFrom_2 ml_X0_87 mk_X2_owner rfl rfl sh14 (Nat.le_of_ble_eq_true rfl) (Nat.le_of_ble_eq_true rfl) rfl (c_Land_owner hw) (fun r1 h2 hw => ?_)
  refine g_iconst (v := 1) dX0_needFrom_5 (by decide) ?_
  refine jn_el hw (fun J14 eJ14 hw => ?_)
  have hJ14 : ∀ (s3 : Int32) (h4 : Hp), J14 s3 h4 → Go cX0_needFrom 9 RX0 (some .int) 4 G (QI G Q) 14 [(0, .ref (gAd G 80)), (1, .ref (gAd G 14)), (2, .int x2), (3, .int x3)] [.int s3] h4 := by
    intro s3 h4 hw
    subst eJ14
    refine g_istore dX0_needFrom_14 (by decide) (lv1 := [(0, .ref (gAd G 80)), (1, .ref (gAd G 14)), (2, .int x2), (3, .int x3), (4, .int s3)]) rfl ?_
    refine g_aload_n dX0_needFrom_16 rfl rfl ?_
    refine g_iload_n dX0_needFrom_17 rfl rfl ?_
    refine g_iload_n dX0_needFrom_18 rfl rfl ?_
    refine g_callVI [.int x2, .int x3] (ci := 2) dX0_needFrom_19 ml_X0_34 mk_X2_waysFrom rfl rfl sh14 (Nat.le_of_ble_eq_true rfl) (Nat.le_of_ble_eq_true rfl) rfl (c_Land_waysFrom hw) (fun r5 h6 hw => ?_)
    refine g_istore dX0_needFrom_22 (by decide) (lv1 := [(0, .ref (gAd G 80)), (1, .ref (gAd G 14)), (2, .int x2), (3, .int x3), (4, .int s3), (5, .int r5)]) rfl ?_
    refine g_iload dX0_needFrom_24 rfl ?_
    refine jn_el hw (fun J36 eJ36 hw => ?_)
    have hJ36 : ∀ (s7 : Int32) (h8 : Hp), J36 s7 h8 → Go cX0_needFrom 9 RX0 (some .int) 4 G (QI G Q) 36 [(0, .ref (gAd G 80)), (1, .ref (gAd G 14)), (2, .int x2), (3, .int x3), (4, .int s3), (5, .int r5)] [.int s7] h8 := by
      intro s7 h8 hw
      subst eJ36
      refine g_istore dX0_needFrom_36 (by decide) (lv1 := [(0, .ref (gAd G 80)), (1, .ref (gAd G 14)), (2, .int x2), (3, .int x3), (4, .int s3), (5, .int r5), (6, .int s7)]) rfl ?_
      refine g_iconst (v := 0) dX0_needFrom_38 (by decide) ?_
      refine g_istore dX0_needFrom_39 (by decide) (lv1 := [(0, .ref (gAd G 80)), (1, .ref (gAd G 14)), (2, .int x2), (3, .int x3), (4, .int s3), (5, .int r5), (6, .int s7), (7, .int 0)]) rfl ?_
      obtain ⟨n24, hw⟩ := hw
      refine gl_Game_needFrom_L41   _ _ _ _ hw
    refine g_if_eq 35 dX0_needFrom_26 rfl (fun hc => ?_) (fun hc => ?_)
    · have hw := hw.1 hc
      refine g_iconst (v := 0) dX0_needFrom_35 (by decide) ?_
      exact hJ36 _ _ hw
    · have hw := hw.2 hc
      refine g_sipush (v := 792) dX0_needFrom_29 (by decide) ?_
      refine g_goto 36 dX0_needFrom_32 rfl ?_
      exact hJ36 _ _ hw
  refine g_icmp_ne 13 dX0_needFrom_6 rfl (fun hc => ?_) (fun hc => ?_)
  · have hw := hw.1 hc
    refine g_iconst (v := 0) dX0_needFrom_13 (by decide) ?_
    exact hJ14 _ _ hw
  · have hw := hw.2 hc
    refine g_iconst (v := 1) dX0_needFrom_9 (by decide) ?_
    refine g_goto 14 dX0_needFrom_10 rfl ?_
    exact hJ14 _ _ hw
theorem dX0_raiseNeeds_0 : decode cX0_raiseNeeds 0 = .ok (.aload_n 0, 1) := by decide +kernel
theorem dX0_raiseNeeds_1 : decode cX0_raiseNeeds 1 = .ok (.getfield 31, 3) := by decide +kernel
theorem dX0_raiseNeeds_4 : decode cX0_raiseNeeds 4 = .ok (.iconst 0, 1) := by decide +kernel
theorem dX0_raiseNeeds_5 : decode cX0_raiseNeeds 5 = .ok (.invokestatic 57, 3) := by decide +kernel
theorem dX0_raiseNeeds_8 : decode cX0_raiseNeeds 8 = .ok (.iconst 1, 1) := by decide +kernel
theorem dX0_raiseNeeds_9 : decode cX0_raiseNeeds 9 = .ok (.istore_n 3, 1) := by decide +kernel
theorem dX0_raiseNeeds_10 : decode cX0_raiseNeeds 10 = .ok (.iconst 0, 1) := by decide +kernel
theorem dX0_raiseNeeds_11 : decode cX0_raiseNeeds 11 = .ok (.istore 4, 2) := by decide +kernel
theorem dX0_raiseNeeds_13 : decode cX0_raiseNeeds 13 = .ok (.iload 4, 2) := by decide +kernel
theorem dX0_raiseNeeds_15 : decode cX0_raiseNeeds 15 = .ok (.sipush 6336, 3) := by decide +kernel
theorem dX0_raiseNeeds_18 : decode cX0_raiseNeeds 18 = .ok (.if_icmp .gt 84, 3) := by decide +kernel
theorem dX0_raiseNeeds_21 : decode cX0_raiseNeeds 21 = .ok (.iload_n 3, 1) := by decide +kernel
theorem dX0_raiseNeeds_22 : decode cX0_raiseNeeds 22 = .ok (.ifCond .eq 80, 3) := by decide +kernel
theorem dX0_raiseNeeds_25 : decode cX0_raiseNeeds 25 = .ok (.iconst 0, 1) := by decide +kernel
theorem dX0_raiseNeeds_26 : decode cX0_raiseNeeds 26 = .ok (.istore_n 3, 1) := by decide +kernel
theorem dX0_raiseNeeds_27 : decode cX0_raiseNeeds 27 = .ok (.iconst 0, 1) := by decide +kernel
theorem dX0_raiseNeeds_28 : decode cX0_raiseNeeds 28 = .ok (.istore 5, 2) := by decide +kernel
theorem dX0_raiseNeeds_30 : decode cX0_raiseNeeds 30 = .ok (.iload 5, 2) := by decide +kernel
theorem dX0_raiseNeeds_32 : decode cX0_raiseNeeds 32 = .ok (.aload_n 1, 1) := by decide +kernel
theorem dX0_raiseNeeds_33 : decode cX0_raiseNeeds 33 = .ok (.getfield 81, 3) := by decide +kernel
theorem dX0_raiseNeeds_36 : decode cX0_raiseNeeds 36 = .ok (.if_icmp .ge 60, 3) := by decide +kernel
theorem dX0_raiseNeeds_39 : decode cX0_raiseNeeds 39 = .ok (.iload 5, 2) := by decide +kernel
theorem dX0_raiseNeeds_41 : decode cX0_raiseNeeds 41 = .ok (.aload_n 0, 1) := by decide +kernel
theorem dX0_raiseNeeds_42 : decode cX0_raiseNeeds 42 = .ok (.getfield 31, 3) := by decide +kernel
theorem dX0_raiseNeeds_45 : decode cX0_raiseNeeds 45 = .ok (.arraylength, 1) := by decide +kernel
theorem dX0_raiseNeeds_46 : decode cX0_raiseNeeds 46 = .ok (.if_icmp .ge 50, 3) := by decide +kernel
theorem dX0_raiseNeeds_49 : decode cX0_raiseNeeds 49 = .ok (.aload_n 0, 1) := by decide +kernel
theorem dX0_raiseNeeds_50 : decode cX0_raiseNeeds 50 = .ok (.aload_n 1, 1) := by decide +kernel
theorem dX0_raiseNeeds_51 : decode cX0_raiseNeeds 51 = .ok (.iload_n 2, 1) := by decide +kernel
theorem dX0_raiseNeeds_52 : decode cX0_raiseNeeds 52 = .ok (.iload 5, 2) := by decide +kernel
theorem dX0_raiseNeeds_54 : decode cX0_raiseNeeds 54 = .ok (.invokevirtual 104, 3) := by decide +kernel
theorem dX0_raiseNeeds_57 : decode cX0_raiseNeeds 57 = .ok (.istore 6, 2) := by decide +kernel
theorem dX0_raiseNeeds_59 : decode cX0_raiseNeeds 59 = .ok (.iload_n 3, 1) := by decide +kernel
theorem dX0_raiseNeeds_60 : decode cX0_raiseNeeds 60 = .ok (.ifCond .ne 15, 3) := by decide +kernel
theorem dX0_raiseNeeds_63 : decode cX0_raiseNeeds 63 = .ok (.iload 6, 2) := by decide +kernel
theorem dX0_raiseNeeds_65 : decode cX0_raiseNeeds 65 = .ok (.aload_n 0, 1) := by decide +kernel
theorem dX0_raiseNeeds_66 : decode cX0_raiseNeeds 66 = .ok (.getfield 31, 3) := by decide +kernel
theorem dX0_raiseNeeds_69 : decode cX0_raiseNeeds 69 = .ok (.iload 5, 2) := by decide +kernel
theorem dX0_raiseNeeds_71 : decode cX0_raiseNeeds 71 = .ok (.iaload, 1) := by decide +kernel
theorem dX0_raiseNeeds_72 : decode cX0_raiseNeeds 72 = .ok (.if_icmp .le 7, 3) := by decide +kernel
theorem dX0_raiseNeeds_75 : decode cX0_raiseNeeds 75 = .ok (.iconst 1, 1) := by decide +kernel
theorem dX0_raiseNeeds_76 : decode cX0_raiseNeeds 76 = .ok (.goto 4, 3) := by decide +kernel
theorem dX0_raiseNeeds_79 : decode cX0_raiseNeeds 79 = .ok (.iconst 0, 1) := by decide +kernel
theorem dX0_raiseNeeds_80 : decode cX0_raiseNeeds 80 = .ok (.istore_n 3, 1) := by decide +kernel
theorem dX0_raiseNeeds_81 : decode cX0_raiseNeeds 81 = .ok (.aload_n 0, 1) := by decide +kernel
theorem dX0_raiseNeeds_82 : decode cX0_raiseNeeds 82 = .ok (.getfield 31, 3) := by decide +kernel
theorem dX0_raiseNeeds_85 : decode cX0_raiseNeeds 85 = .ok (.iload 5, 2) := by decide +kernel
theorem dX0_raiseNeeds_87 : decode cX0_raiseNeeds 87 = .ok (.iload 6, 2) := by decide +kernel
theorem dX0_raiseNeeds_89 : decode cX0_raiseNeeds 89 = .ok (.iastore, 1) := by decide +kernel
theorem dX0_raiseNeeds_90 : decode cX0_raiseNeeds 90 = .ok (.iinc 5 1, 3) := by decide +kernel
theorem dX0_raiseNeeds_93 : decode cX0_raiseNeeds 93 = .ok (.goto (-63), 3) := by decide +kernel
theorem dX0_raiseNeeds_96 : decode cX0_raiseNeeds 96 = .ok (.iinc 4 1, 3) := by decide +kernel
theorem dX0_raiseNeeds_99 : decode cX0_raiseNeeds 99 = .ok (.goto (-86), 3) := by decide +kernel
theorem dX0_raiseNeeds_102 : decode cX0_raiseNeeds 102 = .ok (.return_, 1) := by decide +kernel
theorem ml_X0_104 : Cond.methodLink RX0 104 yX0_needFrom ∈ Wd := mW 1131 (by decide +kernel) rfl
theorem mk_X0_needFrom : MokV yX0_needFrom cX0_needFrom 9 (some .int) 3 := ⟨⟨mW 10 (by decide +kernel) rfl, mW 1134 (by decide +kernel) rfl, ⟨by decide, by decide, by decide +kernel⟩, by decide⟩, mW 1133 (by decide +kernel) rfl, mS (q := (yX0_needFrom, 7)) 38 (by decide +kernel)⟩
def Game_raiseNeeds_L30 (x2 : Int32) (x4 : Int32) (K96 : Int32 → Hp → Prop) : Nat → Int32 → Int32 → Hp → Prop
  | 0, _, _, _ => False
  | n + 1, x3, x5, h => ((gI h 14 0) ≤ x5 → K96 x3 h) ∧ (¬ (gI h 14 0) ≤ x5 → (8 ≤ x5 → K96 x3 h) ∧ (¬ 8 ≤ x5 → Game_needFrom x2 x5 h (fun r2 h3 => ∀ J80 : Int32 → Hp → Prop, J80 = (fun s4 h5 => vp_in x5 8 ∧ ∀ h6 : Hp, h6 = sI h5 86 (x5).toNatClampNeg r2 → ∀ v7 : Int32, v7 = (x5 + 1) → Game_raiseNeeds_L30 x2 x4 K96 n s4 v7 h6) → ∀ J75 : Hp → Prop, J75 = (fun h8 => J80 1 h8) → (¬ x3 = 0 → J75 h3) ∧ (x3 = 0 → vp_in x5 8 ∧ (r2 ≤ (gI h3 86 (x5).toNatClampNeg) → J80 0 h3) ∧ (¬ r2 ≤ (gI h3 86 (x5).toNatClampNeg) → J75 h3)))))
set_option maxHeartbeats 4000000 in
set_option maxRecDepth 20000 in
theorem gl_Game_raiseNeeds_L30 {G : Gx}  {x2 : Int32} {x4 : Int32} {Q : Hp → Prop} {K96 : Int32 → Hp → Prop} (hK96 : ∀ (y3 : Int32) (h1 : Hp), K96 y3 h1 → Go cX0_raiseNeeds 7 RX0 none 5 G (QV G Q) 96 [(0, .ref (gAd G 80)), (1, .ref (gAd G 14)), (2, .int x2), (3, .int y3), (4, .int x4)] [] h1) : ∀ (n : Nat) (x3 : Int32) (x5 : Int32) (h : Hp), Game_raiseNeeds_L30 x2 x4 K96 n x3 x5 h → Go cX0_raiseNeeds 7 RX0 none 5 G (QV G Q) 30 [(0, .ref (gAd G 80)), (1, .ref (gAd G 14)), (2, .int x2), (3, .int x3), (4, .int x4), (5, .int x5)] [] h := by
  intro n
  induction n with
  | zero => intro _ _ h hw; exact False.elim hw
  | succ n ih =>
    intro x3 x5 h hw
    refine g_iload dX0_raiseNeeds_30 rfl ?_
    refine g_aload_n dX0_raiseNeeds_32 rfl rfl ?_
    refine g_getI dX0_raiseNeeds_33 fl_X0_81 sh14 rfl ?_
    refine g_icmp_ge 96 dX0_raiseNeeds_36 rfl (fun hc => ?_) (fun hc => ?_)
    · have hw := hw.1 hc
      refine g_lv [0, 1, 2, 3, 4] rfl ?_
      exact hK96 _ _ hw
    · have hw := hw.2 hc
      refine g_iload dX0_raiseNeeds_39 rfl ?_
      refine g_aload_n dX0_raiseNeeds_41 rfl rfl ?_
      refine g_getA dX0_raiseNeeds_42 fl_X0_31 sh80 rfl ?_
      refine g_alen dX0_raiseNeeds_45 ia86 (by decide) al86 (v := 8) (by decide) ?_
      refine g_icmp_ge 96 dX0_raiseNeeds_46 rfl (fun hc => ?_) (fun hc => ?_)
      · have hw := hw.1 hc
        refine g_lv [0, 1, 2, 3, 4] rfl ?_
        exact hK96 _ _ hw
      · have hw := hw.2 hc
        refine g_aload_n dX0_raiseNeeds_49 rfl rfl ?_
        refine g_aload_n dX0_raiseNeeds_50 rfl rfl ?_
        refine g_iload_n dX0_raiseNeeds_51 rfl rfl ?_
        refine g_iload dX0_raiseNeeds_52 rfl ?_
        refine g_callVI [.ref (gAd G 14), .int x2, .int x5] (ci := 0) dX0_raiseNeeds_54 ml_X0_104 mk_X0_needFrom rfl rfl sh80 (Nat.le_of_ble_eq_true rfl) (Nat.le_of_ble_eq_true rfl) rfl (c_Game_needFrom hw) (fun r2 h3 hw => ?_)
        refine g_istore dX0_raiseNeeds_57 (by decide) (lv1 := [(0, .ref (gAd G 80)), (1, .ref (gAd G 14)), (2, .int x2), (3, .int x3), (4, .int x4), (5, .int x5), (6, .int r2)]) rfl ?_
        refine g_iload_n dX0_raiseNeeds_59 rfl rfl ?_
        refine jn_el hw (fun J80 eJ80 hw => ?_)
        have hJ80 : ∀ (s4 : Int32) (h5 : Hp), J80 s4 h5 → Go cX0_raiseNeeds 7 RX0 none 5 G (QV G Q) 80 [(0, .ref (gAd G 80)), (1, .ref (gAd G 14)), (2, .int x2), (4, .int x4), (5, .int x5), (6, .int r2)] [.int s4] h5 := by
          intro s4 h5 hw
          subst eJ80
          refine g_istore_n dX0_raiseNeeds_80 rfl (by decide) (lv1 := [(0, .ref (gAd G 80)), (1, .ref (gAd G 14)), (2, .int x2), (3, .int s4), (4, .int x4), (5, .int x5), (6, .int r2)]) rfl ?_
          refine g_aload_n dX0_raiseNeeds_81 rfl rfl ?_
          refine g_getA dX0_raiseNeeds_82 fl_X0_31 sh80 rfl ?_
          refine g_iload dX0_raiseNeeds_85 rfl ?_
          refine g_iload dX0_raiseNeeds_87 rfl ?_
          refine g_iast dX0_raiseNeeds_89 ia86 al86 hw.1 ?_
          have hw := hw.2
          refine g_heap (fun h6 eh6 => ?_)
          have hw := hw h6 eh6
          obtain ⟨v7, ev7⟩ : ∃ y : Int32, y = (x5 + 1) := ⟨_, rfl⟩
          have hw := hw v7 ev7
          refine g_iinc dX0_raiseNeeds_90 rfl (by rw [ev7]; rfl) (by decide) (lv1 := [(0, .ref (gAd G 80)), (1, .ref (gAd G 14)), (2, .int x2), (3, .int s4), (4, .int x4), (5, .int v7), (6, .int r2)]) rfl ?_
          refine g_goto 30 dX0_raiseNeeds_93 rfl ?_
          refine g_lv [0, 1, 2, 3, 4, 5] rfl ?_
          exact ih _ _ _ hw
        refine jn_el hw (fun J75 eJ75 hw => ?_)
        have hJ75 : ∀ (h8 : Hp), J75 h8 → Go cX0_raiseNeeds 7 RX0 none 5 G (QV G Q) 75 [(0, .ref (gAd G 80)), (1, .ref (gAd G 14)), (2, .int x2), (4, .int x4), (5, .int x5), (6, .int r2)] [] h8 := by
          intro h8 hw
          subst eJ75
          refine g_iconst (v := 1) dX0_raiseNeeds_75 (by decide) ?_
          refine g_goto 80 dX0_raiseNeeds_76 rfl ?_
          exact hJ80 _ _ hw
        refine g_if_ne 75 dX0_raiseNeeds_60 rfl (fun hc => ?_) (fun hc => ?_)
        · have hw := hw.1 hc
          refine g_lv [0, 1, 2, 4, 5, 6] rfl ?_
          exact hJ75 _ hw
        · have hw := hw.2 hc
          refine g_iload dX0_raiseNeeds_63 rfl ?_
          refine g_aload_n dX0_raiseNeeds_65 rfl rfl ?_
          refine g_getA dX0_raiseNeeds_66 fl_X0_31 sh80 rfl ?_
          refine g_iload dX0_raiseNeeds_69 rfl ?_
          refine g_iald dX0_raiseNeeds_71 ia86 al86 hw.1 ?_
          have hw := hw.2
          refine g_icmp_le 79 dX0_raiseNeeds_72 rfl (fun hc => ?_) (fun hc => ?_)
          · have hw := hw.1 hc
            refine g_iconst (v := 0) dX0_raiseNeeds_79 (by decide) ?_
            refine g_lv [0, 1, 2, 4, 5, 6] rfl ?_
            exact hJ80 _ _ hw
          · have hw := hw.2 hc
            refine g_lv [0, 1, 2, 4, 5, 6] rfl ?_
            exact hJ75 _ hw
def Game_raiseNeeds_L13 (x2 : Int32) (Q : Hp → Prop) : Nat → Int32 → Int32 → Hp → Prop
  | 0, _, _, _ => False
  | n + 1, x3, x4, h => (6336 < x4 → Q h) ∧ (¬ 6336 < x4 → (x3 = 0 → Q h) ∧ (¬ x3 = 0 → ∃ n9, Game_raiseNeeds_L30 x2 x4 (fun x3_10 h11 => ∀ v12 : Int32, v12 = (x4 + 1) → Game_raiseNeeds_L13 x2 Q n x3_10 v12 h11) n9 0 0 h))
set_option maxHeartbeats 4000000 in
set_option maxRecDepth 20000 in
theorem gl_Game_raiseNeeds_L13 {G : Gx}  {x2 : Int32} {Q : Hp → Prop} : ∀ (n : Nat) (x3 : Int32) (x4 : Int32) (h : Hp), Game_raiseNeeds_L13 x2 Q n x3 x4 h → Go cX0_raiseNeeds 7 RX0 none 5 G (QV G Q) 13 [(0, .ref (gAd G 80)), (1, .ref (gAd G 14)), (2, .int x2), (3, .int x3), (4, .int x4)] [] h := by
  intro n
  induction n with
  | zero => intro _ _ h hw; exact False.elim hw
  | succ n ih =>
    intro x3 x4 h hw
    refine g_iload dX0_raiseNeeds_13 rfl ?_
    refine g_sipush (v := 6336) dX0_raiseNeeds_15 (by decide) ?_
    refine g_icmp_gt 102 dX0_raiseNeeds_18 rfl (fun hc => ?_) (fun hc => ?_)
    · have hw := hw.1 hc
      exact g_vret dX0_raiseNeeds_102 hw
    · have hw := hw.2 hc
      refine g_iload_n dX0_raiseNeeds_21 rfl rfl ?_
      refine g_if_eq 102 dX0_raiseNeeds_22 rfl (fun hc => ?_) (fun hc => ?_)
      · have hw := hw.1 hc
        exact g_vret dX0_raiseNeeds_102 hw
      · have hw := hw.2 hc
        refine g_iconst (v := 0) dX0_raiseNeeds_25 (by decide) ?_
        refine g_istore_n dX0_raiseNeeds_26 rfl (by decide) (lv1 := [(0, .ref (gAd G 80)), (1, .ref (gAd G 14)), (2, .int x2), (3, .int 0), (4, .int x4)]) rfl ?_
        refine g_iconst (v := 0) dX0_raiseNeeds_27 (by decide) ?_
        refine g_istore dX0_raiseNeeds_28 (by decide) (lv1 := [(0, .ref (gAd G 80)), (1, .ref (gAd G 14)), (2, .int x2), (3, .int 0), (4, .int x4), (5, .int 0)]) rfl ?_
        obtain ⟨n9, hw⟩ := hw
        refine gl_Game_raiseNeeds_L30  ?_ _ _ _ _ hw
        · intro x3_10 h11 hw
          obtain ⟨v12, ev12⟩ : ∃ y : Int32, y = (x4 + 1) := ⟨_, rfl⟩
          have hw := hw v12 ev12
          refine g_iinc dX0_raiseNeeds_96 rfl (by rw [ev12]; rfl) (by decide) (lv1 := [(0, .ref (gAd G 80)), (1, .ref (gAd G 14)), (2, .int x2), (3, .int x3_10), (4, .int v12)]) rfl ?_
          refine g_goto 13 dX0_raiseNeeds_99 rfl ?_
          exact ih _ _ _ hw
def Game_raiseNeeds (x2 : Int32) (h : Hp) (Q : Hp → Prop) : Prop := J7_fill_53178 86 0 h (fun h1 => ∃ n13, Game_raiseNeeds_L13 x2 Q n13 1 0 h1)
set_option maxHeartbeats 4000000 in
set_option maxRecDepth 20000 in
theorem c_Game_raiseNeeds {G : Gx}  {x2 : Int32} {h : Hp} {Q : Hp → Prop} (hw : Game_raiseNeeds x2 h Q) : Ct yX0_raiseNeeds cX0_raiseNeeds 7 none 5 G [.ref (gAd G 80), .ref (gAd G 14), .int x2] h (QV G Q) := by
  refine ct_go [(0, .ref (gAd G 80)), (1, .ref (gAd G 14)), (2, .int x2)] (plainFor_of_name (by decide)) rfl (Nat.le_of_ble_eq_true rfl) rfl ?_
  refine g_aload_n dX0_raiseNeeds_0 rfl rfl ?_
  refine g_getA dX0_raiseNeeds_1 fl_X0_31 sh80 rfl ?_
  refine g_iconst (v := 0) dX0_raiseNeeds_4 (by decide) ?_
  refine g_callSV [.ref (gAd G 86), .int 0] dX0_raiseNeeds_5 ml_X0_57 mk_J7_fill_53178 rfl (Nat.le_of_ble_eq_true rfl) (Nat.le_of_ble_eq_true rfl) rfl (c_J7_fill_53178 ia86 hw) (fun h1 hw => ?_)
  refine g_iconst (v := 1) dX0_raiseNeeds_8 (by decide) ?_
  refine g_istore_n dX0_raiseNeeds_9 rfl (by decide) (lv1 := [(0, .ref (gAd G 80)), (1, .ref (gAd G 14)), (2, .int x2), (3, .int 1)]) rfl ?_
  refine g_iconst (v := 0) dX0_raiseNeeds_10 (by decide) ?_
  refine g_istore dX0_raiseNeeds_11 (by decide) (lv1 := [(0, .ref (gAd G 80)), (1, .ref (gAd G 14)), (2, .int x2), (3, .int 1), (4, .int 0)]) rfl ?_
  obtain ⟨n13, hw⟩ := hw
  refine gl_Game_raiseNeeds_L13   _ _ _ _ hw
theorem dX0_needAt_0 : decode cX0_needAt 0 = .ok (.iload_n 1, 1) := by decide +kernel
theorem dX0_needAt_1 : decode cX0_needAt 1 = .ok (.ifCond .lt 24, 3) := by decide +kernel
theorem dX0_needAt_4 : decode cX0_needAt 4 = .ok (.iload_n 1, 1) := by decide +kernel
theorem dX0_needAt_5 : decode cX0_needAt 5 = .ok (.aload_n 0, 1) := by decide +kernel
theorem dX0_needAt_6 : decode cX0_needAt 6 = .ok (.getfield 31, 3) := by decide +kernel
theorem dX0_needAt_9 : decode cX0_needAt 9 = .ok (.arraylength, 1) := by decide +kernel
theorem dX0_needAt_10 : decode cX0_needAt 10 = .ok (.if_icmp .ge 15, 3) := by decide +kernel
theorem dX0_needAt_13 : decode cX0_needAt 13 = .ok (.aload_n 0, 1) := by decide +kernel
theorem dX0_needAt_14 : decode cX0_needAt 14 = .ok (.getfield 31, 3) := by decide +kernel
theorem dX0_needAt_17 : decode cX0_needAt 17 = .ok (.iload_n 1, 1) := by decide +kernel
theorem dX0_needAt_18 : decode cX0_needAt 18 = .ok (.iaload, 1) := by decide +kernel
theorem dX0_needAt_19 : decode cX0_needAt 19 = .ok (.sipush 792, 3) := by decide +kernel
theorem dX0_needAt_22 : decode cX0_needAt 22 = .ok (.if_icmp .lt 5, 3) := by decide +kernel
theorem dX0_needAt_25 : decode cX0_needAt 25 = .ok (.iconst (-1), 1) := by decide +kernel
theorem dX0_needAt_26 : decode cX0_needAt 26 = .ok (.ireturn, 1) := by decide +kernel
theorem dX0_needAt_27 : decode cX0_needAt 27 = .ok (.aload_n 0, 1) := by decide +kernel
theorem dX0_needAt_28 : decode cX0_needAt 28 = .ok (.getfield 31, 3) := by decide +kernel
theorem dX0_needAt_31 : decode cX0_needAt 31 = .ok (.iload_n 1, 1) := by decide +kernel
theorem dX0_needAt_32 : decode cX0_needAt 32 = .ok (.iaload, 1) := by decide +kernel
theorem dX0_needAt_33 : decode cX0_needAt 33 = .ok (.ireturn, 1) := by decide +kernel
def Game_needAt (x1 : Int32) (h : Hp) (Q : Int32 → Hp → Prop) : Prop := (x1 < 0 → Q (-1) h) ∧ (¬ x1 < 0 → (8 ≤ x1 → Q (-1) h) ∧ (¬ 8 ≤ x1 → vp_in x1 8 ∧ ((gI h 86 (x1).toNatClampNeg) < 792 → vp_in x1 8 ∧ Q (gI h 86 (x1).toNatClampNeg) h) ∧ (¬ (gI h 86 (x1).toNatClampNeg) < 792 → Q (-1) h)))
set_option maxHeartbeats 4000000 in
set_option maxRecDepth 20000 in
theorem c_Game_needAt {G : Gx}  {x1 : Int32} {h : Hp} {Q : Int32 → Hp → Prop} (hw : Game_needAt x1 h Q) : Ct yX0_needAt cX0_needAt 2 (some .int) 1 G [.ref (gAd G 80), .int x1] h (QI G Q) := by
  refine ct_go [(0, .ref (gAd G 80)), (1, .int x1)] (plainFor_of_name (by decide)) rfl (Nat.le_of_ble_eq_true rfl) rfl ?_
  refine g_iload_n dX0_needAt_0 rfl rfl ?_
  refine g_if_lt 25 dX0_needAt_1 rfl (fun hc => ?_) (fun hc => ?_)
  · have hw := hw.1 hc
    refine g_iconst (v := (-1)) dX0_needAt_25 (by decide) ?_
    exact g_iret dX0_needAt_26 hw
  · have hw := hw.2 hc
    refine g_iload_n dX0_needAt_4 rfl rfl ?_
    refine g_aload_n dX0_needAt_5 rfl rfl ?_
    refine g_getA dX0_needAt_6 fl_X0_31 sh80 rfl ?_
    refine g_alen dX0_needAt_9 ia86 (by decide) al86 (v := 8) (by decide) ?_
    refine g_icmp_ge 25 dX0_needAt_10 rfl (fun hc => ?_) (fun hc => ?_)
    · have hw := hw.1 hc
      refine g_iconst (v := (-1)) dX0_needAt_25 (by decide) ?_
      exact g_iret dX0_needAt_26 hw
    · have hw := hw.2 hc
      refine g_aload_n dX0_needAt_13 rfl rfl ?_
      refine g_getA dX0_needAt_14 fl_X0_31 sh80 rfl ?_
      refine g_iload_n dX0_needAt_17 rfl rfl ?_
      refine g_iald dX0_needAt_18 ia86 al86 hw.1 ?_
      have hw := hw.2
      refine g_sipush (v := 792) dX0_needAt_19 (by decide) ?_
      refine g_icmp_lt 27 dX0_needAt_22 rfl (fun hc => ?_) (fun hc => ?_)
      · have hw := hw.1 hc
        refine g_aload_n dX0_needAt_27 rfl rfl ?_
        refine g_getA dX0_needAt_28 fl_X0_31 sh80 rfl ?_
        refine g_iload_n dX0_needAt_31 rfl rfl ?_
        refine g_iald dX0_needAt_32 ia86 al86 hw.1 ?_
        have hw := hw.2
        exact g_iret dX0_needAt_33 hw
      · have hw := hw.2 hc
        refine g_iconst (v := (-1)) dX0_needAt_25 (by decide) ?_
        exact g_iret dX0_needAt_26 hw
theorem dX11_energy_0 : decode cX11_energy 0 = .ok (.aload_n 0, 1) := by decide +kernel
theorem dX11_energy_1 : decode cX11_energy 1 = .ok (.getfield 27, 3) := by decide +kernel
theorem dX11_energy_4 : decode cX11_energy 4 = .ok (.iload_n 1, 1) := by decide +kernel
theorem dX11_energy_5 : decode cX11_energy 5 = .ok (.invokevirtual 129, 3) := by decide +kernel
theorem dX11_energy_8 : decode cX11_energy 8 = .ok (.ifCond .ne 6, 3) := by decide +kernel
theorem dX11_energy_11 : decode cX11_energy 11 = .ok (.bipush (-2), 2) := by decide +kernel
theorem dX11_energy_13 : decode cX11_energy 13 = .ok (.ireturn, 1) := by decide +kernel
theorem dX11_energy_14 : decode cX11_energy 14 = .ok (.aload_n 0, 1) := by decide +kernel
theorem dX11_energy_15 : decode cX11_energy 15 = .ok (.getfield 72, 3) := by decide +kernel
theorem dX11_energy_18 : decode cX11_energy 18 = .ok (.aload_n 0, 1) := by decide +kernel
theorem dX11_energy_19 : decode cX11_energy 19 = .ok (.getfield 27, 3) := by decide +kernel
theorem dX11_energy_22 : decode cX11_energy 22 = .ok (.aload_n 0, 1) := by decide +kernel
theorem dX11_energy_23 : decode cX11_energy 23 = .ok (.getfield 34, 3) := by decide +kernel
theorem dX11_energy_26 : decode cX11_energy 26 = .ok (.getfield 140, 3) := by decide +kernel
theorem dX11_energy_29 : decode cX11_energy 29 = .ok (.invokevirtual 311, 3) := by decide +kernel
theorem dX11_energy_32 : decode cX11_energy 32 = .ok (.aload_n 0, 1) := by decide +kernel
theorem dX11_energy_33 : decode cX11_energy 33 = .ok (.getfield 72, 3) := by decide +kernel
theorem dX11_energy_36 : decode cX11_energy 36 = .ok (.iload_n 1, 1) := by decide +kernel
theorem dX11_energy_37 : decode cX11_energy 37 = .ok (.invokevirtual 314, 3) := by decide +kernel
theorem dX11_energy_40 : decode cX11_energy 40 = .ok (.ireturn, 1) := by decide +kernel
theorem ml_X11_311 : Cond.methodLink RX11 311 yX0_raiseNeeds ∈ Wd := mW 1127 (by decide +kernel) rfl
theorem mk_X0_raiseNeeds : MokV yX0_raiseNeeds cX0_raiseNeeds 7 none 2 := ⟨⟨mW 10 (by decide +kernel) rfl, mW 1130 (by decide +kernel) rfl, ⟨by decide, by decide, by decide +kernel⟩, by decide⟩, mW 1128 (by decide +kernel) rfl, mW 1129 (by decide +kernel) rfl⟩
theorem ml_X11_314 : Cond.methodLink RX11 314 yX0_needAt ∈ Wd := mW 1142 (by decide +kernel) rfl
theorem mk_X0_needAt : MokV yX0_needAt cX0_needAt 2 (some .int) 1 := ⟨⟨mW 10 (by decide +kernel) rfl, mW 1145 (by decide +kernel) rfl, ⟨by decide, by decide, by decide +kernel⟩, by decide⟩, mW 1143 (by decide +kernel) rfl, mW 1144 (by decide +kernel) rfl⟩
def C_energy (x1 : Int32) (h : Hp) (Q : Int32 → Hp → Prop) : Prop := Land_hasPlace x1 h (fun r1 h2 => (¬ r1 = 0 → Game_raiseNeeds (gI h2 20 3) h2 (fun h3 => Game_needAt x1 h3 (fun r4 h5 => Q r4 h5))) ∧ (r1 = 0 → Q (-2) h2))
set_option maxHeartbeats 4000000 in
set_option maxRecDepth 20000 in
theorem c_C_energy {G : Gx}  {x1 : Int32} {h : Hp} {Q : Int32 → Hp → Prop} (hw : C_energy x1 h Q) : Ct yX11_energy cX11_energy 2 (some .int) 6 G [.ref (gAd G 0), .int x1] h (QI G Q) := by
  refine ct_go [(0, .ref (gAd G 0)), (1, .int x1)] (plainFor_of_name (by decide)) rfl (Nat.le_of_ble_eq_true rfl) rfl ?_
  refine g_aload_n dX11_energy_0 rfl rfl ?_
  refine g_getO dX11_energy_1 fl_X11_27 sh0 rfl ?_
  refine g_iload_n dX11_energy_4 rfl rfl ?_
  refine g_callVI [.int x1] (ci := 2) dX11_energy_5 ml_X11_129 mk_X2_hasPlace rfl rfl sh14 (Nat.le_of_ble_eq_true rfl) (Nat.le_of_ble_eq_true rfl) rfl (c_Land_hasPlace hw) (fun r1 h2 hw => ?_)
  refine g_if_ne 14 dX11_energy_8 rfl (fun hc => ?_) (fun hc => ?_)
  · have hw := hw.1 hc
    refine g_aload_n dX11_energy_14 rfl rfl ?_
    refine g_getO dX11_energy_15 fl_X11_72 sh0 rfl ?_
    refine g_aload_n dX11_energy_18 rfl rfl ?_
    refine g_getO dX11_energy_19 fl_X11_27 sh0 rfl ?_
    refine g_aload_n dX11_energy_22 rfl rfl ?_
    refine g_getO dX11_energy_23 fl_X11_34 sh0 rfl ?_
    refine g_getI dX11_energy_26 fl_X11_140 sh20 rfl ?_
    refine g_callVV [.ref (gAd G 14), .int (gI h2 20 3)] (ci := 0) dX11_energy_29 ml_X11_311 mk_X0_raiseNeeds rfl rfl sh80 (Nat.le_of_ble_eq_true rfl) (Nat.le_of_ble_eq_true rfl) rfl (c_Game_raiseNeeds hw) (fun h3 hw => ?_)
    refine g_aload_n dX11_energy_32 rfl rfl ?_
    refine g_getO dX11_energy_33 fl_X11_72 sh0 rfl ?_
    refine g_iload_n dX11_energy_36 rfl rfl ?_
    refine g_callVI [.int x1] (ci := 0) dX11_energy_37 ml_X11_314 mk_X0_needAt rfl rfl sh80 (Nat.le_of_ble_eq_true rfl) (Nat.le_of_ble_eq_true rfl) rfl (c_Game_needAt hw) (fun r4 h5 hw => ?_)
    exact g_iret dX11_energy_40 hw
  · have hw := hw.2 hc
    refine g_bipush (v := (-2)) dX11_energy_11 (by decide) ?_
    exact g_iret dX11_energy_13 hw
theorem dX1_follow_0 : decode cX1_follow 0 = .ok (.aload_n 0, 1) := by decide +kernel
theorem dX1_follow_1 : decode cX1_follow 1 = .ok (.getfield 21, 3) := by decide +kernel
theorem dX1_follow_4 : decode cX1_follow 4 = .ok (.iconst (-1), 1) := by decide +kernel
theorem dX1_follow_5 : decode cX1_follow 5 = .ok (.invokestatic 31, 3) := by decide +kernel
theorem dX1_follow_8 : decode cX1_follow 8 = .ok (.aload_n 2, 1) := by decide +kernel
theorem dX1_follow_9 : decode cX1_follow 9 = .ok (.getfield 37, 3) := by decide +kernel
theorem dX1_follow_12 : decode cX1_follow 12 = .ok (.istore_n 3, 1) := by decide +kernel
theorem dX1_follow_13 : decode cX1_follow 13 = .ok (.aload_n 0, 1) := by decide +kernel
theorem dX1_follow_14 : decode cX1_follow 14 = .ok (.iconst 0, 1) := by decide +kernel
theorem dX1_follow_15 : decode cX1_follow 15 = .ok (.putfield 24, 3) := by decide +kernel
theorem dX1_follow_18 : decode cX1_follow 18 = .ok (.aload_n 0, 1) := by decide +kernel
theorem dX1_follow_19 : decode cX1_follow 19 = .ok (.iconst 1, 1) := by decide +kernel
theorem dX1_follow_20 : decode cX1_follow 20 = .ok (.putfield 28, 3) := by decide +kernel
theorem dX1_follow_23 : decode cX1_follow 23 = .ok (.iconst 0, 1) := by decide +kernel
theorem dX1_follow_24 : decode cX1_follow 24 = .ok (.istore 4, 2) := by decide +kernel
theorem dX1_follow_26 : decode cX1_follow 26 = .ok (.iload 4, 2) := by decide +kernel
theorem dX1_follow_28 : decode cX1_follow 28 = .ok (.bipush 8, 2) := by decide +kernel
theorem dX1_follow_30 : decode cX1_follow 30 = .ok (.if_icmp .gt 128, 3) := by decide +kernel
theorem dX1_follow_33 : decode cX1_follow 33 = .ok (.iload_n 3, 1) := by decide +kernel
theorem dX1_follow_34 : decode cX1_follow 34 = .ok (.ifCond .lt 124, 3) := by decide +kernel
theorem dX1_follow_37 : decode cX1_follow 37 = .ok (.iload_n 3, 1) := by decide +kernel
theorem dX1_follow_38 : decode cX1_follow 38 = .ok (.aload_n 0, 1) := by decide +kernel
theorem dX1_follow_39 : decode cX1_follow 39 = .ok (.getfield 21, 3) := by decide +kernel
theorem dX1_follow_42 : decode cX1_follow 42 = .ok (.arraylength, 1) := by decide +kernel
theorem dX1_follow_43 : decode cX1_follow 43 = .ok (.if_icmp .ge 115, 3) := by decide +kernel
theorem dX1_follow_46 : decode cX1_follow 46 = .ok (.aload_n 0, 1) := by decide +kernel
theorem dX1_follow_47 : decode cX1_follow 47 = .ok (.getfield 21, 3) := by decide +kernel
theorem dX1_follow_50 : decode cX1_follow 50 = .ok (.iload_n 3, 1) := by decide +kernel
theorem dX1_follow_51 : decode cX1_follow 51 = .ok (.iaload, 1) := by decide +kernel
theorem dX1_follow_52 : decode cX1_follow 52 = .ok (.iconst (-1), 1) := by decide +kernel
theorem dX1_follow_53 : decode cX1_follow 53 = .ok (.if_icmp .eq 25, 3) := by decide +kernel
theorem dX1_follow_56 : decode cX1_follow 56 = .ok (.aload_n 0, 1) := by decide +kernel
theorem dX1_follow_57 : decode cX1_follow 57 = .ok (.aload_n 0, 1) := by decide +kernel
theorem dX1_follow_58 : decode cX1_follow 58 = .ok (.getfield 21, 3) := by decide +kernel
theorem dX1_follow_61 : decode cX1_follow 61 = .ok (.iload_n 3, 1) := by decide +kernel
theorem dX1_follow_62 : decode cX1_follow 62 = .ok (.iaload, 1) := by decide +kernel
theorem dX1_follow_63 : decode cX1_follow 63 = .ok (.putfield 24, 3) := by decide +kernel
theorem dX1_follow_66 : decode cX1_follow 66 = .ok (.aload_n 0, 1) := by decide +kernel
theorem dX1_follow_67 : decode cX1_follow 67 = .ok (.iload 4, 2) := by decide +kernel
theorem dX1_follow_69 : decode cX1_follow 69 = .ok (.aload_n 0, 1) := by decide +kernel
theorem dX1_follow_70 : decode cX1_follow 70 = .ok (.getfield 24, 3) := by decide +kernel
theorem dX1_follow_73 : decode cX1_follow 73 = .ok (.isub, 1) := by decide +kernel
theorem dX1_follow_74 : decode cX1_follow 74 = .ok (.putfield 28, 3) := by decide +kernel
theorem dX1_follow_77 : decode cX1_follow 77 = .ok (.return_, 1) := by decide +kernel
theorem dX1_follow_78 : decode cX1_follow 78 = .ok (.aload_n 0, 1) := by decide +kernel
theorem dX1_follow_79 : decode cX1_follow 79 = .ok (.getfield 21, 3) := by decide +kernel
theorem dX1_follow_82 : decode cX1_follow 82 = .ok (.iload_n 3, 1) := by decide +kernel
theorem dX1_follow_83 : decode cX1_follow 83 = .ok (.iload 4, 2) := by decide +kernel
theorem dX1_follow_85 : decode cX1_follow 85 = .ok (.iastore, 1) := by decide +kernel
theorem dX1_follow_86 : decode cX1_follow 86 = .ok (.aload_n 0, 1) := by decide +kernel
theorem dX1_follow_87 : decode cX1_follow 87 = .ok (.getfield 9, 3) := by decide +kernel
theorem dX1_follow_90 : decode cX1_follow 90 = .ok (.iload 4, 2) := by decide +kernel
theorem dX1_follow_92 : decode cX1_follow 92 = .ok (.iload_n 3, 1) := by decide +kernel
theorem dX1_follow_93 : decode cX1_follow 93 = .ok (.iastore, 1) := by decide +kernel
theorem dX1_follow_94 : decode cX1_follow 94 = .ok (.aload_n 0, 1) := by decide +kernel
theorem dX1_follow_95 : decode cX1_follow 95 = .ok (.getfield 15, 3) := by decide +kernel
theorem dX1_follow_98 : decode cX1_follow 98 = .ok (.iload 4, 2) := by decide +kernel
theorem dX1_follow_100 : decode cX1_follow 100 = .ok (.aload_n 2, 1) := by decide +kernel
theorem dX1_follow_101 : decode cX1_follow 101 = .ok (.aload_n 1, 1) := by decide +kernel
theorem dX1_follow_102 : decode cX1_follow 102 = .ok (.iload_n 3, 1) := by decide +kernel
theorem dX1_follow_103 : decode cX1_follow 103 = .ok (.invokevirtual 42, 3) := by decide +kernel
theorem dX1_follow_106 : decode cX1_follow 106 = .ok (.iastore, 1) := by decide +kernel
theorem dX1_follow_107 : decode cX1_follow 107 = .ok (.aload_n 0, 1) := by decide +kernel
theorem dX1_follow_108 : decode cX1_follow 108 = .ok (.getfield 18, 3) := by decide +kernel
theorem dX1_follow_111 : decode cX1_follow 111 = .ok (.iload 4, 2) := by decide +kernel
theorem dX1_follow_113 : decode cX1_follow 113 = .ok (.iconst 1, 1) := by decide +kernel
theorem dX1_follow_114 : decode cX1_follow 114 = .ok (.iadd, 1) := by decide +kernel
theorem dX1_follow_115 : decode cX1_follow 115 = .ok (.aload_n 0, 1) := by decide +kernel
theorem dX1_follow_116 : decode cX1_follow 116 = .ok (.getfield 18, 3) := by decide +kernel
theorem dX1_follow_119 : decode cX1_follow 119 = .ok (.iload 4, 2) := by decide +kernel
theorem dX1_follow_121 : decode cX1_follow 121 = .ok (.iaload, 1) := by decide +kernel
theorem dX1_follow_122 : decode cX1_follow 122 = .ok (.aload_n 1, 1) := by decide +kernel
theorem dX1_follow_123 : decode cX1_follow 123 = .ok (.aload_n 2, 1) := by decide +kernel
theorem dX1_follow_124 : decode cX1_follow 124 = .ok (.getfield 46, 3) := by decide +kernel
theorem dX1_follow_127 : decode cX1_follow 127 = .ok (.aload_n 0, 1) := by decide +kernel
theorem dX1_follow_128 : decode cX1_follow 128 = .ok (.getfield 15, 3) := by decide +kernel
theorem dX1_follow_131 : decode cX1_follow 131 = .ok (.iload 4, 2) := by decide +kernel
theorem dX1_follow_133 : decode cX1_follow 133 = .ok (.iaload, 1) := by decide +kernel
theorem dX1_follow_134 : decode cX1_follow 134 = .ok (.invokevirtual 49, 3) := by decide +kernel
theorem dX1_follow_137 : decode cX1_follow 137 = .ok (.iadd, 1) := by decide +kernel
theorem dX1_follow_138 : decode cX1_follow 138 = .ok (.iastore, 1) := by decide +kernel
theorem dX1_follow_139 : decode cX1_follow 139 = .ok (.aload_n 1, 1) := by decide +kernel
theorem dX1_follow_140 : decode cX1_follow 140 = .ok (.iload_n 3, 1) := by decide +kernel
theorem dX1_follow_141 : decode cX1_follow 141 = .ok (.aload_n 0, 1) := by decide +kernel
theorem dX1_follow_142 : decode cX1_follow 142 = .ok (.getfield 15, 3) := by decide +kernel
theorem dX1_follow_145 : decode cX1_follow 145 = .ok (.iload 4, 2) := by decide +kernel
theorem dX1_follow_147 : decode cX1_follow 147 = .ok (.iaload, 1) := by decide +kernel
theorem dX1_follow_148 : decode cX1_follow 148 = .ok (.invokevirtual 55, 3) := by decide +kernel
theorem dX1_follow_151 : decode cX1_follow 151 = .ok (.istore_n 3, 1) := by decide +kernel
theorem dX1_follow_152 : decode cX1_follow 152 = .ok (.iinc 4 1, 3) := by decide +kernel
theorem dX1_follow_155 : decode cX1_follow 155 = .ok (.goto (-129), 3) := by decide +kernel
theorem dX1_follow_158 : decode cX1_follow 158 = .ok (.return_, 1) := by decide +kernel
theorem fl_X1_21 : FLk RX1 21 1 3 := ⟨_, rfl, by decide, mW 321 (by decide +kernel) rfl⟩
theorem ml_X1_31 : Cond.methodLink RX1 31 yJ7_fill_53178 ∈ Wd := mW 1155 (by decide +kernel) rfl
theorem fl_X1_37 : FLk RX1 37 6 0 := ⟨_, rfl, by decide, mW 198 (by decide +kernel) rfl⟩
theorem fl_X1_24 : FLk RX1 24 1 4 := ⟨_, rfl, by decide, mW 322 (by decide +kernel) rfl⟩
theorem pf_1_4 : parseFieldDescriptor (uD 1 4) = some .int := by decide +kernel
theorem fl_X1_28 : FLk RX1 28 1 5 := ⟨_, rfl, by decide, mW 324 (by decide +kernel) rfl⟩
theorem pf_1_5 : parseFieldDescriptor (uD 1 5) = some .int := by decide +kernel
theorem fl_X1_9 : FLk RX1 9 1 0 := ⟨_, rfl, by decide, mW 318 (by decide +kernel) rfl⟩
theorem fl_X1_15 : FLk RX1 15 1 1 := ⟨_, rfl, by decide, mW 319 (by decide +kernel) rfl⟩
theorem ml_X1_42 : Cond.methodLink RX1 42 yX6_wayByPlan ∈ Wd := mW 1156 (by decide +kernel) rfl
theorem fl_X1_18 : FLk RX1 18 1 2 := ⟨_, rfl, by decide, mW 320 (by decide +kernel) rfl⟩
theorem fl_X1_46 : FLk RX1 46 6 3 := ⟨_, rfl, by decide, mW 205 (by decide +kernel) rfl⟩
theorem ml_X1_49 : Cond.methodLink RX1 49 yX2_payOf ∈ Wd := mW 1157 (by decide +kernel) rfl
theorem ml_X1_55 : Cond.methodLink RX1 55 yX2_target ∈ Wd := mW 1158 (by decide +kernel) rfl
def Going_follow_L26 (o2 : Nat) (Q : Hp → Prop) : Nat → Int32 → Int32 → Hp → Prop
  | 0, _, _, _ => False
  | n + 1, x3, x4, h => (8 < x4 → Q h) ∧ (¬ 8 < x4 → (x3 < 0 → Q h) ∧ (¬ x3 < 0 → (8 ≤ x3 → Q h) ∧ (¬ 8 ≤ x3 → vp_in x3 8 ∧ ((gI h 91 (x3).toNatClampNeg) = (-1) → vp_in x3 8 ∧ ∀ h5 : Hp, h5 = sI h 91 (x3).toNatClampNeg x4 → vp_in x4 9 ∧ ∀ h6 : Hp, h6 = sI h5 88 (x4).toNatClampNeg x3 → Stand_wayByPlan o2 x3 h6 (fun r7 h8 => vp_in x4 9 ∧ ∀ h9 : Hp, h9 = sI h8 89 (x4).toNatClampNeg r7 → vp_in x4 10 ∧ vp_in x4 9 ∧ Land_payOf (gI h9 o2 3) (gI h9 89 (x4).toNatClampNeg) h9 (fun r10 h11 => vp_in (x4 + 1) 10 ∧ ∀ h12 : Hp, h12 = sI h11 90 ((x4 + 1)).toNatClampNeg ((gI h9 90 (x4).toNatClampNeg) + r10) → vp_in x4 9 ∧ Land_target x3 (gI h12 89 (x4).toNatClampNeg) h12 (fun r13 h14 => ∀ v15 : Int32, v15 = (x4 + 1) → Going_follow_L26 o2 Q n r13 v15 h14)))) ∧ (¬ (gI h 91 (x3).toNatClampNeg) = (-1) → vp_in x3 8 ∧ ∀ h16 : Hp, h16 = sI h 87 4 (gI h 91 (x3).toNatClampNeg) → ∀ h17 : Hp, h17 = sI h16 87 5 (x4 - (gI h16 87 4)) → Q h17))))
set_option maxHeartbeats 4000000 in
set_option maxRecDepth 20000 in
theorem gl_Going_follow_L26 {G : Gx} {o2 : Nat} (ho2 : SH o2 = .inl 6) {Q : Hp → Prop} : ∀ (n : Nat) (x3 : Int32) (x4 : Int32) (h : Hp), Going_follow_L26 o2 Q n x3 x4 h → Go cX1_follow 5 RX1 none 5 G (QV G Q) 26 [(0, .ref (gAd G 87)), (1, .ref (gAd G 14)), (2, .ref (gAd G o2)), (3, .int x3), (4, .int x4)] [] h := by
  intro n
  induction n with
  | zero => intro _ _ h hw; exact False.elim hw
  | succ n ih =>
    intro x3 x4 h hw
    refine g_iload dX1_follow_26 rfl ?_
    refine g_bipush (v := 8) dX1_follow_28 (by decide) ?_
    refine g_icmp_gt 158 dX1_follow_30 rfl (fun hc => ?_) (fun hc => ?_)
    · have hw := hw.1 hc
      exact g_vret dX1_follow_158 hw
    · have hw := hw.2 hc
      refine g_iload_n dX1_follow_33 rfl rfl ?_
      refine g_if_lt 158 dX1_follow_34 rfl (fun hc => ?_) (fun hc => ?_)
      · have hw := hw.1 hc
        exact g_vret dX1_follow_158 hw
      · have hw := hw.2 hc
        refine g_iload_n dX1_follow_37 rfl rfl ?_
        refine g_aload_n dX1_follow_38 rfl rfl ?_
        refine g_getA dX1_follow_39 fl_X1_21 sh87 rfl ?_
        refine g_alen dX1_follow_42 ia91 (by decide) al91 (v := 8) (by decide) ?_
        refine g_icmp_ge 158 dX1_follow_43 rfl (fun hc => ?_) (fun hc => ?_)
        · have hw := hw.1 hc
          exact g_vret dX1_follow_158 hw
        · have hw := hw.2 hc
          refine g_aload_n dX1_follow_46 rfl rfl ?_
          refine g_getA dX1_follow_47 fl_X1_21 sh87 rfl ?_
          refine g_iload_n dX1_follow_50 rfl rfl ?_
          refine g_iald dX1_follow_51 ia91 al91 hw.1 ?_
          have hw := hw.2
          refine g_iconst (v := (-1)) dX1_follow_52 (by decide) ?_
          refine g_icmp_eq 78 dX1_follow_53 rfl (fun hc => ?_) (fun hc => ?_)
          · have hw := hw.1 hc
            refine g_aload_n dX1_follow_78 rfl rfl ?_
            refine g_getA dX1_follow_79 fl_X1_21 sh87 rfl ?_
            refine g_iload_n dX1_follow_82 rfl rfl ?_
            refine g_iload dX1_follow_83 rfl ?_
            refine g_iast dX1_follow_85 ia91 al91 hw.1 ?_
            have hw := hw.2
            refine g_heap (fun h5 eh5 => ?_)
            have hw := hw h5 eh5
            refine g_aload_n dX1_follow_86 rfl rfl ?_
            refine g_getA dX1_follow_87 fl_X1_9 sh87 rfl ?_
            refine g_iload dX1_follow_90 rfl ?_
            refine g_iload_n dX1_follow_92 rfl rfl ?_
            refine g_iast dX1_follow_93 ia88 al88 hw.1 ?_
            have hw := hw.2
            refine g_heap (fun h6 eh6 => ?_)
            have hw := hw h6 eh6
            refine g_aload_n dX1_follow_94 rfl rfl ?_
            refine g_getA dX1_follow_95 fl_X1_15 sh87 rfl ?_
            refine g_iload dX1_follow_98 rfl ?_
            refine g_aload_n dX1_follow_100 rfl rfl ?_
            refine g_aload_n dX1_follow_101 rfl rfl ?_
            refine g_iload_n dX1_follow_102 rfl rfl ?_
            refine g_callVI [.ref (gAd G 14), .int x3] (ci := 6) dX1_follow_103 ml_X1_42 mk_X6_wayByPlan rfl rfl ho2 (Nat.le_of_ble_eq_true rfl) (Nat.le_of_ble_eq_true rfl) rfl (c_Stand_wayByPlan ho2 hw) (fun r7 h8 hw => ?_)
            refine g_iast dX1_follow_106 ia89 al89 hw.1 ?_
            have hw := hw.2
            refine g_heap (fun h9 eh9 => ?_)
            have hw := hw h9 eh9
            refine g_aload_n dX1_follow_107 rfl rfl ?_
            refine g_getA dX1_follow_108 fl_X1_18 sh87 rfl ?_
            refine g_iload dX1_follow_111 rfl ?_
            refine g_iconst (v := 1) dX1_follow_113 (by decide) ?_
            refine g_iadd dX1_follow_114 ?_
            refine g_aload_n dX1_follow_115 rfl rfl ?_
            refine g_getA dX1_follow_116 fl_X1_18 sh87 rfl ?_
            refine g_iload dX1_follow_119 rfl ?_
            refine g_iald dX1_follow_121 ia90 al90 hw.1 ?_
            have hw := hw.2
            refine g_aload_n dX1_follow_122 rfl rfl ?_
            refine g_aload_n dX1_follow_123 rfl rfl ?_
            refine g_getI dX1_follow_124 fl_X1_46 ho2 rfl ?_
            refine g_aload_n dX1_follow_127 rfl rfl ?_
            refine g_getA dX1_follow_128 fl_X1_15 sh87 rfl ?_
            refine g_iload dX1_follow_131 rfl ?_
            refine g_iald dX1_follow_133 ia89 al89 hw.1 ?_
            have hw := hw.2
            refine g_callVI [.int (gI h9 o2 3), .int (gI h9 89 (x4).toNatClampNeg)] (ci := 2) dX1_follow_134 ml_X1_49 mk_X2_payOf rfl rfl sh14 (Nat.le_of_ble_eq_true rfl) (Nat.le_of_ble_eq_true rfl) rfl (c_Land_payOf hw) (fun r10 h11 hw => ?_)
            refine g_iadd dX1_follow_137 ?_
            refine g_iast dX1_follow_138 ia90 al90 hw.1 ?_
            have hw := hw.2
            refine g_heap (fun h12 eh12 => ?_)
            have hw := hw h12 eh12
            refine g_aload_n dX1_follow_139 rfl rfl ?_
            refine g_iload_n dX1_follow_140 rfl rfl ?_
            refine g_aload_n dX1_follow_141 rfl rfl ?_
            refine g_getA dX1_follow_142 fl_X1_15 sh87 rfl ?_
            refine g_iload dX1_follow_145 rfl ?_
            refine g_iald dX1_follow_147 ia89 al89 hw.1 ?_
            have hw := hw.2
            refine g_callVI [.int x3, .int (gI h12 89 (x4).toNatClampNeg)] (ci := 2) dX1_follow_148 ml_X1_55 mk_X2_target rfl rfl sh14 (Nat.le_of_ble_eq_true rfl) (Nat.le_of_ble_eq_true rfl) rfl (c_Land_target hw) (fun r13 h14 hw => ?_)
            refine g_istore_n dX1_follow_151 rfl (by decide) (lv1 := [(0, .ref (gAd G 87)), (1, .ref (gAd G 14)), (2, .ref (gAd G o2)), (3, .int r13), (4, .int x4)]) rfl ?_
            obtain ⟨v15, ev15⟩ : ∃ y : Int32, y = (x4 + 1) := ⟨_, rfl⟩
            have hw := hw v15 ev15
            refine g_iinc dX1_follow_152 rfl (by rw [ev15]; rfl) (by decide) (lv1 := [(0, .ref (gAd G 87)), (1, .ref (gAd G 14)), (2, .ref (gAd G o2)), (3, .int r13), (4, .int v15)]) rfl ?_
            refine g_goto 26 dX1_follow_155 rfl ?_
            exact ih _ _ _ hw
          · have hw := hw.2 hc
            refine g_aload_n dX1_follow_56 rfl rfl ?_
            refine g_aload_n dX1_follow_57 rfl rfl ?_
            refine g_getA dX1_follow_58 fl_X1_21 sh87 rfl ?_
            refine g_iload_n dX1_follow_61 rfl rfl ?_
            refine g_iald dX1_follow_62 ia91 al91 hw.1 ?_
            have hw := hw.2
            refine g_putI dX1_follow_63 fl_X1_24 sh87 rfl rfl pf_1_4 ?_
            refine g_heap (fun h16 eh16 => ?_)
            have hw := hw h16 eh16
            refine g_aload_n dX1_follow_66 rfl rfl ?_
            refine g_iload dX1_follow_67 rfl ?_
            refine g_aload_n dX1_follow_69 rfl rfl ?_
            refine g_getI dX1_follow_70 fl_X1_24 sh87 rfl ?_
            refine g_isub dX1_follow_73 ?_
            refine g_putI dX1_follow_74 fl_X1_28 sh87 rfl rfl pf_1_5 ?_
            refine g_heap (fun h17 eh17 => ?_)
            have hw := hw h17 eh17
            exact g_vret dX1_follow_77 hw
def Going_follow (o2 : Nat) (h : Hp) (Q : Hp → Prop) : Prop := J7_fill_53178 91 (-1) h (fun h1 => ∀ v2 : Int32, v2 = (gI h1 o2 0) → ∀ h3 : Hp, h3 = sI h1 87 4 0 → ∀ h4 : Hp, h4 = sI h3 87 5 1 → ∃ n18, Going_follow_L26 o2 Q n18 v2 0 h4)
set_option maxHeartbeats 4000000 in
set_option maxRecDepth 20000 in
theorem c_Going_follow {G : Gx} {o2 : Nat} (ho2 : SH o2 = .inl 6)  {h : Hp} {Q : Hp → Prop} (hw : Going_follow o2 h Q) : Ct yX1_follow cX1_follow 5 none 5 G [.ref (gAd G 87), .ref (gAd G 14), .ref (gAd G o2)] h (QV G Q) := by
  refine ct_go [(0, .ref (gAd G 87)), (1, .ref (gAd G 14)), (2, .ref (gAd G o2))] (plainFor_of_name (by decide)) rfl (Nat.le_of_ble_eq_true rfl) rfl ?_
  refine g_aload_n dX1_follow_0 rfl rfl ?_
  refine g_getA dX1_follow_1 fl_X1_21 sh87 rfl ?_
  refine g_iconst (v := (-1)) dX1_follow_4 (by decide) ?_
  refine g_callSV [.ref (gAd G 91), .int (-1)] dX1_follow_5 ml_X1_31 mk_J7_fill_53178 rfl (Nat.le_of_ble_eq_true rfl) (Nat.le_of_ble_eq_true rfl) rfl (c_J7_fill_53178 ia91 hw) (fun h1 hw => ?_)
  refine g_aload_n dX1_follow_8 rfl rfl ?_
  refine g_getI dX1_follow_9 fl_X1_37 ho2 rfl ?_
  refine g_topi (fun v2 ev2 => ?_)
  have hw := hw v2 ev2
  refine g_istore_n dX1_follow_12 rfl (by decide) (lv1 := [(0, .ref (gAd G 87)), (1, .ref (gAd G 14)), (2, .ref (gAd G o2)), (3, .int v2)]) rfl ?_
  refine g_aload_n dX1_follow_13 rfl rfl ?_
  refine g_iconst (v := 0) dX1_follow_14 (by decide) ?_
  refine g_putI dX1_follow_15 fl_X1_24 sh87 rfl rfl pf_1_4 ?_
  refine g_heap (fun h3 eh3 => ?_)
  have hw := hw h3 eh3
  refine g_aload_n dX1_follow_18 rfl rfl ?_
  refine g_iconst (v := 1) dX1_follow_19 (by decide) ?_
  refine g_putI dX1_follow_20 fl_X1_28 sh87 rfl rfl pf_1_5 ?_
  refine g_heap (fun h4 eh4 => ?_)
  have hw := hw h4 eh4
  refine g_iconst (v := 0) dX1_follow_23 (by decide) ?_
  refine g_istore dX1_follow_24 (by decide) (lv1 := [(0, .ref (gAd G 87)), (1, .ref (gAd G 14)), (2, .ref (gAd G o2)), (3, .int v2), (4, .int 0)]) rfl ?_
  obtain ⟨n18, hw⟩ := hw
  refine gl_Going_follow_L26 ho2  _ _ _ _ hw
theorem dX1_index_0 : decode cX1_index 0 = .ok (.lload_n 1, 1) := by decide +kernel
theorem dX1_index_1 : decode cX1_index 1 = .ok (.aload_n 0, 1) := by decide +kernel
theorem dX1_index_2 : decode cX1_index 2 = .ok (.getfield 24, 3) := by decide +kernel
theorem dX1_index_5 : decode cX1_index 5 = .ok (.i2l, 1) := by decide +kernel
theorem dX1_index_6 : decode cX1_index 6 = .ok (.lcmp, 1) := by decide +kernel
theorem dX1_index_7 : decode cX1_index 7 = .ok (.ifCond .lt 11, 3) := by decide +kernel
theorem dX1_index_10 : decode cX1_index 10 = .ok (.aload_n 0, 1) := by decide +kernel
theorem dX1_index_11 : decode cX1_index 11 = .ok (.getfield 28, 3) := by decide +kernel
theorem dX1_index_14 : decode cX1_index 14 = .ok (.iconst 1, 1) := by decide +kernel
theorem dX1_index_15 : decode cX1_index 15 = .ok (.if_icmp .ge 18, 3) := by decide +kernel
theorem dX1_index_18 : decode cX1_index 18 = .ok (.lconst 0, 1) := by decide +kernel
theorem dX1_index_19 : decode cX1_index 19 = .ok (.lload_n 1, 1) := by decide +kernel
theorem dX1_index_20 : decode cX1_index 20 = .ok (.aload_n 0, 1) := by decide +kernel
theorem dX1_index_21 : decode cX1_index 21 = .ok (.getfield 24, 3) := by decide +kernel
theorem dX1_index_24 : decode cX1_index 24 = .ok (.i2l, 1) := by decide +kernel
theorem dX1_index_25 : decode cX1_index 25 = .ok (.invokestatic 58, 3) := by decide +kernel
theorem dX1_index_28 : decode cX1_index 28 = .ok (.invokestatic 64, 3) := by decide +kernel
theorem dX1_index_31 : decode cX1_index 31 = .ok (.l2i, 1) := by decide +kernel
theorem dX1_index_32 : decode cX1_index 32 = .ok (.ireturn, 1) := by decide +kernel
theorem dX1_index_33 : decode cX1_index 33 = .ok (.aload_n 0, 1) := by decide +kernel
theorem dX1_index_34 : decode cX1_index 34 = .ok (.getfield 24, 3) := by decide +kernel
theorem dX1_index_37 : decode cX1_index 37 = .ok (.lload_n 1, 1) := by decide +kernel
theorem dX1_index_38 : decode cX1_index 38 = .ok (.aload_n 0, 1) := by decide +kernel
theorem dX1_index_39 : decode cX1_index 39 = .ok (.getfield 24, 3) := by decide +kernel
theorem dX1_index_42 : decode cX1_index 42 = .ok (.i2l, 1) := by decide +kernel
theorem dX1_index_43 : decode cX1_index 43 = .ok (.lsub, 1) := by decide +kernel
theorem dX1_index_44 : decode cX1_index 44 = .ok (.aload_n 0, 1) := by decide +kernel
theorem dX1_index_45 : decode cX1_index 45 = .ok (.getfield 28, 3) := by decide +kernel
theorem dX1_index_48 : decode cX1_index 48 = .ok (.i2l, 1) := by decide +kernel
theorem dX1_index_49 : decode cX1_index 49 = .ok (.lrem, 1) := by decide +kernel
theorem dX1_index_50 : decode cX1_index 50 = .ok (.l2i, 1) := by decide +kernel
theorem dX1_index_51 : decode cX1_index 51 = .ok (.iadd, 1) := by decide +kernel
theorem dX1_index_52 : decode cX1_index 52 = .ok (.ireturn, 1) := by decide +kernel
theorem ml_X1_58 : Cond.methodLink RX1 58 yJ9_min_f86c9 ∈ Wd := mW 1167 (by decide +kernel) rfl
theorem ml_X1_64 : Cond.methodLink RX1 64 yJ9_max_f86c9 ∈ Wd := mW 1168 (by decide +kernel) rfl
def Going_index (x1 : Int64) (h : Hp) (Q : Int32 → Hp → Prop) : Prop := ∀ J18 : Hp → Prop, J18 = (fun h1 => J9_min_f86c9 x1 (((gI h1 87 4)).toInt64) h1 (fun r2 h3 => J9_max_f86c9 (0 : Int64) r2 h3 (fun r4 h5 => Q ((r4).toInt32) h5))) → (x1 < (((gI h 87 4)).toInt64) → J18 h) ∧ (¬ x1 < (((gI h 87 4)).toInt64) → (1 ≤ (gI h 87 5) → ¬ (((gI h 87 5)).toInt64) = 0 ∧ Q ((gI h 87 4) + ((((x1 - (((gI h 87 4)).toInt64)) - (x1 - (((gI h 87 4)).toInt64)) / (((gI h 87 5)).toInt64) * (((gI h 87 5)).toInt64))).toInt32)) h) ∧ (¬ 1 ≤ (gI h 87 5) → J18 h))
set_option maxHeartbeats 4000000 in
set_option maxRecDepth 20000 in
theorem c_Going_index {G : Gx}  {x1 : Int64} {h : Hp} {Q : Int32 → Hp → Prop} (hw : Going_index x1 h Q) : Ct yX1_index cX1_index 3 (some .int) 2 G [.ref (gAd G 87), .long x1] h (QI G Q) := by
  refine ct_go [(0, .ref (gAd G 87)), (1, .long x1)] (plainFor_of_name (by decide)) rfl (Nat.le_of_ble_eq_true rfl) rfl ?_
  refine g_lload_n dX1_index_0 rfl rfl ?_
  refine g_aload_n dX1_index_1 rfl rfl ?_
  refine g_getI dX1_index_2 fl_X1_24 sh87 rfl ?_
  refine g_i2l dX1_index_5 ?_
  refine jn_el hw (fun J18 eJ18 hw => ?_)
  have hJ18 : ∀ (h1 : Hp), J18 h1 → Go cX1_index 3 RX1 (some .int) 2 G (QI G Q) 18 [(0, .ref (gAd G 87)), (1, .long x1)] [] h1 := by
    intro h1 hw
    subst eJ18
    refine g_lconst (v := (0 : Int64)) dX1_index_18 (by decide) ?_
    refine g_lload_n dX1_index_19 rfl rfl ?_
    refine g_aload_n dX1_index_20 rfl rfl ?_
    refine g_getI dX1_index_21 fl_X1_24 sh87 rfl ?_
    refine g_i2l dX1_index_24 ?_
    refine g_callSJ [.long x1, .long (((gI h1 87 4)).toInt64)] dX1_index_25 ml_X1_58 mk_J9_min_f86c9 rfl (Nat.le_of_ble_eq_true rfl) (Nat.le_of_ble_eq_true rfl) rfl (c_J9_min_f86c9 hw) (fun r2 h3 hw => ?_)
    refine g_callSJ [.long (0 : Int64), .long r2] dX1_index_28 ml_X1_64 mk_J9_max_f86c9 rfl (Nat.le_of_ble_eq_true rfl) (Nat.le_of_ble_eq_true rfl) rfl (c_J9_max_f86c9 hw) (fun r4 h5 hw => ?_)
    refine g_l2i dX1_index_31 ?_
    exact g_iret dX1_index_32 hw
  refine g_lc_lt 18 dX1_index_6 dX1_index_7 rfl (fun hc => ?_) (fun hc => ?_)
  · have hw := hw.1 hc
    exact hJ18 _ hw
  · have hw := hw.2 hc
    refine g_aload_n dX1_index_10 rfl rfl ?_
    refine g_getI dX1_index_11 fl_X1_28 sh87 rfl ?_
    refine g_iconst (v := 1) dX1_index_14 (by decide) ?_
    refine g_icmp_ge 33 dX1_index_15 rfl (fun hc => ?_) (fun hc => ?_)
    · have hw := hw.1 hc
      refine g_aload_n dX1_index_33 rfl rfl ?_
      refine g_getI dX1_index_34 fl_X1_24 sh87 rfl ?_
      refine g_lload_n dX1_index_37 rfl rfl ?_
      refine g_aload_n dX1_index_38 rfl rfl ?_
      refine g_getI dX1_index_39 fl_X1_24 sh87 rfl ?_
      refine g_i2l dX1_index_42 ?_
      refine g_lsub dX1_index_43 ?_
      refine g_aload_n dX1_index_44 rfl rfl ?_
      refine g_getI dX1_index_45 fl_X1_28 sh87 rfl ?_
      refine g_i2l dX1_index_48 ?_
      refine g_lrem dX1_index_49 hw.1 ?_
      have hw := hw.2
      refine g_l2i dX1_index_50 ?_
      refine g_iadd dX1_index_51 ?_
      exact g_iret dX1_index_52 hw
    · have hw := hw.2 hc
      exact hJ18 _ hw
theorem dX1_placeBehind_0 : decode cX1_placeBehind 0 = .ok (.aload_n 0, 1) := by decide +kernel
theorem dX1_placeBehind_1 : decode cX1_placeBehind 1 = .ok (.lload_n 1, 1) := by decide +kernel
theorem dX1_placeBehind_2 : decode cX1_placeBehind 2 = .ok (.invokevirtual 67, 3) := by decide +kernel
theorem dX1_placeBehind_5 : decode cX1_placeBehind 5 = .ok (.istore_n 3, 1) := by decide +kernel
theorem dX1_placeBehind_6 : decode cX1_placeBehind 6 = .ok (.iload_n 3, 1) := by decide +kernel
theorem dX1_placeBehind_7 : decode cX1_placeBehind 7 = .ok (.ifCond .lt 21, 3) := by decide +kernel
theorem dX1_placeBehind_10 : decode cX1_placeBehind 10 = .ok (.iload_n 3, 1) := by decide +kernel
theorem dX1_placeBehind_11 : decode cX1_placeBehind 11 = .ok (.aload_n 0, 1) := by decide +kernel
theorem dX1_placeBehind_12 : decode cX1_placeBehind 12 = .ok (.getfield 9, 3) := by decide +kernel
theorem dX1_placeBehind_15 : decode cX1_placeBehind 15 = .ok (.arraylength, 1) := by decide +kernel
theorem dX1_placeBehind_16 : decode cX1_placeBehind 16 = .ok (.if_icmp .ge 12, 3) := by decide +kernel
theorem dX1_placeBehind_19 : decode cX1_placeBehind 19 = .ok (.aload_n 0, 1) := by decide +kernel
theorem dX1_placeBehind_20 : decode cX1_placeBehind 20 = .ok (.getfield 9, 3) := by decide +kernel
theorem dX1_placeBehind_23 : decode cX1_placeBehind 23 = .ok (.iload_n 3, 1) := by decide +kernel
theorem dX1_placeBehind_24 : decode cX1_placeBehind 24 = .ok (.iaload, 1) := by decide +kernel
theorem dX1_placeBehind_25 : decode cX1_placeBehind 25 = .ok (.goto 4, 3) := by decide +kernel
theorem dX1_placeBehind_28 : decode cX1_placeBehind 28 = .ok (.iconst 0, 1) := by decide +kernel
theorem dX1_placeBehind_29 : decode cX1_placeBehind 29 = .ok (.ireturn, 1) := by decide +kernel
theorem ml_X1_67 : Cond.methodLink RX1 67 yX1_index ∈ Wd := mW 1163 (by decide +kernel) rfl
theorem mk_X1_index : MokV yX1_index cX1_index 3 (some .int) 1 := ⟨⟨mW 11 (by decide +kernel) rfl, mW 1166 (by decide +kernel) rfl, ⟨by decide, by decide, by decide +kernel⟩, by decide⟩, mW 1165 (by decide +kernel) rfl, mS (q := (yX1_index, 6)) 40 (by decide +kernel)⟩
def Going_placeBehind (x1 : Int64) (h : Hp) (Q : Int32 → Hp → Prop) : Prop := Going_index x1 h (fun r1 h2 => (r1 < 0 → Q 0 h2) ∧ (¬ r1 < 0 → (9 ≤ r1 → Q 0 h2) ∧ (¬ 9 ≤ r1 → vp_in r1 9 ∧ Q (gI h2 88 (r1).toNatClampNeg) h2)))
set_option maxHeartbeats 4000000 in
set_option maxRecDepth 20000 in
theorem c_Going_placeBehind {G : Gx}  {x1 : Int64} {h : Hp} {Q : Int32 → Hp → Prop} (hw : Going_placeBehind x1 h Q) : Ct yX1_placeBehind cX1_placeBehind 4 (some .int) 3 G [.ref (gAd G 87), .long x1] h (QI G Q) := by
  refine ct_go [(0, .ref (gAd G 87)), (1, .long x1)] (plainFor_of_name (by decide)) rfl (Nat.le_of_ble_eq_true rfl) rfl ?_
  refine g_aload_n dX1_placeBehind_0 rfl rfl ?_
  refine g_lload_n dX1_placeBehind_1 rfl rfl ?_
  refine g_callVI [.long x1] (ci := 1) dX1_placeBehind_2 ml_X1_67 mk_X1_index rfl rfl sh87 (Nat.le_of_ble_eq_true rfl) (Nat.le_of_ble_eq_true rfl) rfl (c_Going_index hw) (fun r1 h2 hw => ?_)
  refine g_istore_n dX1_placeBehind_5 rfl (by decide) (lv1 := [(0, .ref (gAd G 87)), (1, .long x1), (3, .int r1)]) rfl ?_
  refine g_iload_n dX1_placeBehind_6 rfl rfl ?_
  refine g_if_lt 28 dX1_placeBehind_7 rfl (fun hc => ?_) (fun hc => ?_)
  · have hw := hw.1 hc
    refine g_iconst (v := 0) dX1_placeBehind_28 (by decide) ?_
    exact g_iret dX1_placeBehind_29 hw
  · have hw := hw.2 hc
    refine g_iload_n dX1_placeBehind_10 rfl rfl ?_
    refine g_aload_n dX1_placeBehind_11 rfl rfl ?_
    refine g_getA dX1_placeBehind_12 fl_X1_9 sh87 rfl ?_
    refine g_alen dX1_placeBehind_15 ia88 (by decide) al88 (v := 9) (by decide) ?_
    refine g_icmp_ge 28 dX1_placeBehind_16 rfl (fun hc => ?_) (fun hc => ?_)
    · have hw := hw.1 hc
      refine g_iconst (v := 0) dX1_placeBehind_28 (by decide) ?_
      exact g_iret dX1_placeBehind_29 hw
    · have hw := hw.2 hc
      refine g_aload_n dX1_placeBehind_19 rfl rfl ?_
      refine g_getA dX1_placeBehind_20 fl_X1_9 sh87 rfl ?_
      refine g_iload_n dX1_placeBehind_23 rfl rfl ?_
      refine g_iald dX1_placeBehind_24 ia88 al88 hw.1 ?_
      have hw := hw.2
      refine g_goto 29 dX1_placeBehind_25 rfl ?_
      exact g_iret dX1_placeBehind_29 hw
theorem dX11_at_0 : decode cX11_at 0 = .ok (.lload_n 1, 1) := by decide +kernel
theorem dX11_at_1 : decode cX11_at 1 = .ok (.lconst 0, 1) := by decide +kernel
theorem dX11_at_2 : decode cX11_at 2 = .ok (.lcmp, 1) := by decide +kernel
theorem dX11_at_3 : decode cX11_at 3 = .ok (.ifCond .lt 11, 3) := by decide +kernel
theorem dX11_at_6 : decode cX11_at 6 = .ok (.lload_n 1, 1) := by decide +kernel
theorem dX11_at_7 : decode cX11_at 7 = .ok (.ldc2_w 317, 3) := by decide +kernel
theorem dX11_at_10 : decode cX11_at 10 = .ok (.lcmp, 1) := by decide +kernel
theorem dX11_at_11 : decode cX11_at 11 = .ok (.ifCond .le 6, 3) := by decide +kernel
theorem dX11_at_14 : decode cX11_at 14 = .ok (.bipush (-3), 2) := by decide +kernel
theorem dX11_at_16 : decode cX11_at 16 = .ok (.ireturn, 1) := by decide +kernel
theorem dX11_at_17 : decode cX11_at 17 = .ok (.aload_n 0, 1) := by decide +kernel
theorem dX11_at_18 : decode cX11_at 18 = .ok (.getfield 79, 3) := by decide +kernel
theorem dX11_at_21 : decode cX11_at 21 = .ok (.aload_n 0, 1) := by decide +kernel
theorem dX11_at_22 : decode cX11_at 22 = .ok (.getfield 27, 3) := by decide +kernel
theorem dX11_at_25 : decode cX11_at 25 = .ok (.aload_n 0, 1) := by decide +kernel
theorem dX11_at_26 : decode cX11_at 26 = .ok (.getfield 34, 3) := by decide +kernel
theorem dX11_at_29 : decode cX11_at 29 = .ok (.invokevirtual 319, 3) := by decide +kernel
theorem dX11_at_32 : decode cX11_at 32 = .ok (.aload_n 0, 1) := by decide +kernel
theorem dX11_at_33 : decode cX11_at 33 = .ok (.getfield 79, 3) := by decide +kernel
theorem dX11_at_36 : decode cX11_at 36 = .ok (.lload_n 1, 1) := by decide +kernel
theorem dX11_at_37 : decode cX11_at 37 = .ok (.invokevirtual 323, 3) := by decide +kernel
theorem dX11_at_40 : decode cX11_at 40 = .ok (.ireturn, 1) := by decide +kernel
theorem kl_X11_317 : Cond.constantLong RX11 317 (1000000000000000) ∈ Wd := mW 1150 (by decide +kernel) rfl
theorem fl_X11_79 : FLk RX11 79 11 12 := ⟨_, rfl, by decide, mW 391 (by decide +kernel) rfl⟩
theorem ml_X11_319 : Cond.methodLink RX11 319 yX1_follow ∈ Wd := mW 1151 (by decide +kernel) rfl
theorem mk_X1_follow : MokV yX1_follow cX1_follow 5 none 2 := ⟨⟨mW 11 (by decide +kernel) rfl, mW 1154 (by decide +kernel) rfl, ⟨by decide, by decide, by decide +kernel⟩, by decide⟩, mW 1152 (by decide +kernel) rfl, mW 1153 (by decide +kernel) rfl⟩
theorem ml_X11_323 : Cond.methodLink RX11 323 yX1_placeBehind ∈ Wd := mW 1159 (by decide +kernel) rfl
theorem mk_X1_placeBehind : MokV yX1_placeBehind cX1_placeBehind 4 (some .int) 1 := ⟨⟨mW 11 (by decide +kernel) rfl, mW 1162 (by decide +kernel) rfl, ⟨by decide, by decide, by decide +kernel⟩, by decide⟩, mW 1160 (by decide +kernel) rfl, mW 1161 (by decide +kernel) rfl⟩
def C_at (x1 : Int64) (h : Hp) (Q : Int32 → Hp → Prop) : Prop := (x1 < (0 : Int64) → Q (-3) h) ∧ (¬ x1 < (0 : Int64) → (x1 ≤ (1000000000000000 : Int64) → Going_follow 20 h (fun h1 => Going_placeBehind x1 h1 (fun r2 h3 => Q r2 h3))) ∧ (¬ x1 ≤ (1000000000000000 : Int64) → Q (-3) h))
set_option maxHeartbeats 4000000 in
set_option maxRecDepth 20000 in
theorem c_C_at {G : Gx}  {x1 : Int64} {h : Hp} {Q : Int32 → Hp → Prop} (hw : C_at x1 h Q) : Ct yX11_at cX11_at 3 (some .int) 6 G [.ref (gAd G 0), .long x1] h (QI G Q) := by
  refine ct_go [(0, .ref (gAd G 0)), (1, .long x1)] (plainFor_of_name (by decide)) rfl (Nat.le_of_ble_eq_true rfl) rfl ?_
  refine g_lload_n dX11_at_0 rfl rfl ?_
  refine g_lconst (v := (0 : Int64)) dX11_at_1 (by decide) ?_
  refine g_lc_lt 14 dX11_at_2 dX11_at_3 rfl (fun hc => ?_) (fun hc => ?_)
  · have hw := hw.1 hc
    refine g_bipush (v := (-3)) dX11_at_14 (by decide) ?_
    exact g_iret dX11_at_16 hw
  · have hw := hw.2 hc
    refine g_lload_n dX11_at_6 rfl rfl ?_
    refine g_ldc2 dX11_at_7 kl_X11_317 ?_
    refine g_lc_le 17 dX11_at_10 dX11_at_11 rfl (fun hc => ?_) (fun hc => ?_)
    · have hw := hw.1 hc
      refine g_aload_n dX11_at_17 rfl rfl ?_
      refine g_getO dX11_at_18 fl_X11_79 sh0 rfl ?_
      refine g_aload_n dX11_at_21 rfl rfl ?_
      refine g_getO dX11_at_22 fl_X11_27 sh0 rfl ?_
      refine g_aload_n dX11_at_25 rfl rfl ?_
      refine g_getO dX11_at_26 fl_X11_34 sh0 rfl ?_
      refine g_callVV [.ref (gAd G 14), .ref (gAd G 20)] (ci := 1) dX11_at_29 ml_X11_319 mk_X1_follow rfl rfl sh87 (Nat.le_of_ble_eq_true rfl) (Nat.le_of_ble_eq_true rfl) rfl (c_Going_follow sh20 hw) (fun h1 hw => ?_)
      refine g_aload_n dX11_at_32 rfl rfl ?_
      refine g_getO dX11_at_33 fl_X11_79 sh0 rfl ?_
      refine g_lload_n dX11_at_36 rfl rfl ?_
      refine g_callVI [.long x1] (ci := 1) dX11_at_37 ml_X11_323 mk_X1_placeBehind rfl rfl sh87 (Nat.le_of_ble_eq_true rfl) (Nat.le_of_ble_eq_true rfl) rfl (c_Going_placeBehind hw) (fun r2 h3 hw => ?_)
      exact g_iret dX11_at_40 hw
    · have hw := hw.2 hc
      refine g_bipush (v := (-3)) dX11_at_14 (by decide) ?_
      exact g_iret dX11_at_16 hw
theorem dX1_paidIn_0 : decode cX1_paidIn 0 = .ok (.iload_n 1, 1) := by decide +kernel
theorem dX1_paidIn_1 : decode cX1_paidIn 1 = .ok (.ifCond .lt 21, 3) := by decide +kernel
theorem dX1_paidIn_4 : decode cX1_paidIn 4 = .ok (.iload_n 1, 1) := by decide +kernel
theorem dX1_paidIn_5 : decode cX1_paidIn 5 = .ok (.aload_n 0, 1) := by decide +kernel
theorem dX1_paidIn_6 : decode cX1_paidIn 6 = .ok (.getfield 18, 3) := by decide +kernel
theorem dX1_paidIn_9 : decode cX1_paidIn 9 = .ok (.arraylength, 1) := by decide +kernel
theorem dX1_paidIn_10 : decode cX1_paidIn 10 = .ok (.if_icmp .ge 12, 3) := by decide +kernel
theorem dX1_paidIn_13 : decode cX1_paidIn 13 = .ok (.aload_n 0, 1) := by decide +kernel
theorem dX1_paidIn_14 : decode cX1_paidIn 14 = .ok (.getfield 18, 3) := by decide +kernel
theorem dX1_paidIn_17 : decode cX1_paidIn 17 = .ok (.iload_n 1, 1) := by decide +kernel
theorem dX1_paidIn_18 : decode cX1_paidIn 18 = .ok (.iaload, 1) := by decide +kernel
theorem dX1_paidIn_19 : decode cX1_paidIn 19 = .ok (.goto 4, 3) := by decide +kernel
theorem dX1_paidIn_22 : decode cX1_paidIn 22 = .ok (.iconst 0, 1) := by decide +kernel
theorem dX1_paidIn_23 : decode cX1_paidIn 23 = .ok (.ireturn, 1) := by decide +kernel
def Going_paidIn (x1 : Int32) (h : Hp) (Q : Int32 → Hp → Prop) : Prop := (x1 < 0 → Q 0 h) ∧ (¬ x1 < 0 → (10 ≤ x1 → Q 0 h) ∧ (¬ 10 ≤ x1 → vp_in x1 10 ∧ Q (gI h 90 (x1).toNatClampNeg) h))
set_option maxHeartbeats 4000000 in
set_option maxRecDepth 20000 in
theorem c_Going_paidIn {G : Gx}  {x1 : Int32} {h : Hp} {Q : Int32 → Hp → Prop} (hw : Going_paidIn x1 h Q) : Ct yX1_paidIn cX1_paidIn 2 (some .int) 1 G [.ref (gAd G 87), .int x1] h (QI G Q) := by
  refine ct_go [(0, .ref (gAd G 87)), (1, .int x1)] (plainFor_of_name (by decide)) rfl (Nat.le_of_ble_eq_true rfl) rfl ?_
  refine g_iload_n dX1_paidIn_0 rfl rfl ?_
  refine g_if_lt 22 dX1_paidIn_1 rfl (fun hc => ?_) (fun hc => ?_)
  · have hw := hw.1 hc
    refine g_iconst (v := 0) dX1_paidIn_22 (by decide) ?_
    exact g_iret dX1_paidIn_23 hw
  · have hw := hw.2 hc
    refine g_iload_n dX1_paidIn_4 rfl rfl ?_
    refine g_aload_n dX1_paidIn_5 rfl rfl ?_
    refine g_getA dX1_paidIn_6 fl_X1_18 sh87 rfl ?_
    refine g_alen dX1_paidIn_9 ia90 (by decide) al90 (v := 10) (by decide) ?_
    refine g_icmp_ge 22 dX1_paidIn_10 rfl (fun hc => ?_) (fun hc => ?_)
    · have hw := hw.1 hc
      refine g_iconst (v := 0) dX1_paidIn_22 (by decide) ?_
      exact g_iret dX1_paidIn_23 hw
    · have hw := hw.2 hc
      refine g_aload_n dX1_paidIn_13 rfl rfl ?_
      refine g_getA dX1_paidIn_14 fl_X1_18 sh87 rfl ?_
      refine g_iload_n dX1_paidIn_17 rfl rfl ?_
      refine g_iald dX1_paidIn_18 ia90 al90 hw.1 ?_
      have hw := hw.2
      refine g_goto 23 dX1_paidIn_19 rfl ?_
      exact g_iret dX1_paidIn_23 hw
theorem dX1_paidBehind_0 : decode cX1_paidBehind 0 = .ok (.lload_n 1, 1) := by decide +kernel
theorem dX1_paidBehind_1 : decode cX1_paidBehind 1 = .ok (.aload_n 0, 1) := by decide +kernel
theorem dX1_paidBehind_2 : decode cX1_paidBehind 2 = .ok (.getfield 24, 3) := by decide +kernel
theorem dX1_paidBehind_5 : decode cX1_paidBehind 5 = .ok (.i2l, 1) := by decide +kernel
theorem dX1_paidBehind_6 : decode cX1_paidBehind 6 = .ok (.lcmp, 1) := by decide +kernel
theorem dX1_paidBehind_7 : decode cX1_paidBehind 7 = .ok (.ifCond .lt 11, 3) := by decide +kernel
theorem dX1_paidBehind_10 : decode cX1_paidBehind 10 = .ok (.aload_n 0, 1) := by decide +kernel
theorem dX1_paidBehind_11 : decode cX1_paidBehind 11 = .ok (.getfield 28, 3) := by decide +kernel
theorem dX1_paidBehind_14 : decode cX1_paidBehind 14 = .ok (.iconst 1, 1) := by decide +kernel
theorem dX1_paidBehind_15 : decode cX1_paidBehind 15 = .ok (.if_icmp .ge 7, 3) := by decide +kernel
theorem dX1_paidBehind_18 : decode cX1_paidBehind 18 = .ok (.lconst 0, 1) := by decide +kernel
theorem dX1_paidBehind_19 : decode cX1_paidBehind 19 = .ok (.goto 16, 3) := by decide +kernel
theorem dX1_paidBehind_22 : decode cX1_paidBehind 22 = .ok (.lload_n 1, 1) := by decide +kernel
theorem dX1_paidBehind_23 : decode cX1_paidBehind 23 = .ok (.aload_n 0, 1) := by decide +kernel
theorem dX1_paidBehind_24 : decode cX1_paidBehind 24 = .ok (.getfield 24, 3) := by decide +kernel
theorem dX1_paidBehind_27 : decode cX1_paidBehind 27 = .ok (.i2l, 1) := by decide +kernel
theorem dX1_paidBehind_28 : decode cX1_paidBehind 28 = .ok (.lsub, 1) := by decide +kernel
theorem dX1_paidBehind_29 : decode cX1_paidBehind 29 = .ok (.aload_n 0, 1) := by decide +kernel
theorem dX1_paidBehind_30 : decode cX1_paidBehind 30 = .ok (.getfield 28, 3) := by decide +kernel
theorem dX1_paidBehind_33 : decode cX1_paidBehind 33 = .ok (.i2l, 1) := by decide +kernel
theorem dX1_paidBehind_34 : decode cX1_paidBehind 34 = .ok (.ldiv, 1) := by decide +kernel
theorem dX1_paidBehind_35 : decode cX1_paidBehind 35 = .ok (.lstore_n 3, 1) := by decide +kernel
theorem dX1_paidBehind_36 : decode cX1_paidBehind 36 = .ok (.aload_n 0, 1) := by decide +kernel
theorem dX1_paidBehind_37 : decode cX1_paidBehind 37 = .ok (.aload_n 0, 1) := by decide +kernel
theorem dX1_paidBehind_38 : decode cX1_paidBehind 38 = .ok (.lload_n 1, 1) := by decide +kernel
theorem dX1_paidBehind_39 : decode cX1_paidBehind 39 = .ok (.invokevirtual 67, 3) := by decide +kernel
theorem dX1_paidBehind_42 : decode cX1_paidBehind 42 = .ok (.invokevirtual 71, 3) := by decide +kernel
theorem dX1_paidBehind_45 : decode cX1_paidBehind 45 = .ok (.i2l, 1) := by decide +kernel
theorem dX1_paidBehind_46 : decode cX1_paidBehind 46 = .ok (.lload_n 3, 1) := by decide +kernel
theorem dX1_paidBehind_47 : decode cX1_paidBehind 47 = .ok (.aload_n 0, 1) := by decide +kernel
theorem dX1_paidBehind_48 : decode cX1_paidBehind 48 = .ok (.aload_n 0, 1) := by decide +kernel
theorem dX1_paidBehind_49 : decode cX1_paidBehind 49 = .ok (.getfield 24, 3) := by decide +kernel
theorem dX1_paidBehind_52 : decode cX1_paidBehind 52 = .ok (.aload_n 0, 1) := by decide +kernel
theorem dX1_paidBehind_53 : decode cX1_paidBehind 53 = .ok (.getfield 28, 3) := by decide +kernel
theorem dX1_paidBehind_56 : decode cX1_paidBehind 56 = .ok (.iadd, 1) := by decide +kernel
theorem dX1_paidBehind_57 : decode cX1_paidBehind 57 = .ok (.invokevirtual 71, 3) := by decide +kernel
theorem dX1_paidBehind_60 : decode cX1_paidBehind 60 = .ok (.aload_n 0, 1) := by decide +kernel
theorem dX1_paidBehind_61 : decode cX1_paidBehind 61 = .ok (.aload_n 0, 1) := by decide +kernel
theorem dX1_paidBehind_62 : decode cX1_paidBehind 62 = .ok (.getfield 24, 3) := by decide +kernel
theorem dX1_paidBehind_65 : decode cX1_paidBehind 65 = .ok (.invokevirtual 71, 3) := by decide +kernel
theorem dX1_paidBehind_68 : decode cX1_paidBehind 68 = .ok (.isub, 1) := by decide +kernel
theorem dX1_paidBehind_69 : decode cX1_paidBehind 69 = .ok (.i2l, 1) := by decide +kernel
theorem dX1_paidBehind_70 : decode cX1_paidBehind 70 = .ok (.lmul, 1) := by decide +kernel
theorem dX1_paidBehind_71 : decode cX1_paidBehind 71 = .ok (.ladd, 1) := by decide +kernel
theorem dX1_paidBehind_72 : decode cX1_paidBehind 72 = .ok (.lreturn, 1) := by decide +kernel
theorem ml_X1_71 : Cond.methodLink RX1 71 yX1_paidIn ∈ Wd := mW 1177 (by decide +kernel) rfl
theorem mk_X1_paidIn : MokV yX1_paidIn cX1_paidIn 2 (some .int) 1 := ⟨⟨mW 11 (by decide +kernel) rfl, mW 1180 (by decide +kernel) rfl, ⟨by decide, by decide, by decide +kernel⟩, by decide⟩, mW 1179 (by decide +kernel) rfl, mS (q := (yX1_paidIn, 6)) 41 (by decide +kernel)⟩
def Going_paidBehind (x1 : Int64) (h : Hp) (Q : Int64 → Hp → Prop) : Prop := ∀ J35 : Int64 → Hp → Prop, J35 = (fun s1 h2 => Going_index x1 h2 (fun r3 h4 => Going_paidIn r3 h4 (fun r5 h6 => Going_paidIn ((gI h6 87 4) + (gI h6 87 5)) h6 (fun r7 h8 => Going_paidIn (gI h8 87 4) h8 (fun r9 h10 => Q (((r5).toInt64) + (s1 * (((r7 - r9)).toInt64))) h10))))) → ∀ J18 : Hp → Prop, J18 = (fun h11 => J35 (0 : Int64) h11) → (x1 < (((gI h 87 4)).toInt64) → J18 h) ∧ (¬ x1 < (((gI h 87 4)).toInt64) → (1 ≤ (gI h 87 5) → ¬ (((gI h 87 5)).toInt64) = 0 ∧ J35 ((x1 - (((gI h 87 4)).toInt64)) / (((gI h 87 5)).toInt64)) h) ∧ (¬ 1 ≤ (gI h 87 5) → J18 h))
set_option maxHeartbeats 4000000 in
set_option maxRecDepth 20000 in
theorem c_Going_paidBehind {G : Gx}  {x1 : Int64} {h : Hp} {Q : Int64 → Hp → Prop} (hw : Going_paidBehind x1 h Q) : Ct yX1_paidBehind cX1_paidBehind 5 (some .long) 3 G [.ref (gAd G 87), .long x1] h (QJ G Q) := by
  refine ct_go [(0, .ref (gAd G 87)), (1, .long x1)] (plainFor_of_name (by decide)) rfl (Nat.le_of_ble_eq_true rfl) rfl ?_
  refine g_lload_n dX1_paidBehind_0 rfl rfl ?_
  refine g_aload_n dX1_paidBehind_1 rfl rfl ?_
  refine g_getI dX1_paidBehind_2 fl_X1_24 sh87 rfl ?_
  refine g_i2l dX1_paidBehind_5 ?_
  refine jn_el hw (fun J35 eJ35 hw => ?_)
  have hJ35 : ∀ (s1 : Int64) (h2 : Hp), J35 s1 h2 → Go cX1_paidBehind 5 RX1 (some .long) 3 G (QJ G Q) 35 [(0, .ref (gAd G 87)), (1, .long x1)] [.long s1] h2 := by
    intro s1 h2 hw
    subst eJ35
    refine g_lstore_n dX1_paidBehind_35 rfl (by decide) (lv1 := [(0, .ref (gAd G 87)), (1, .long x1), (3, .long s1)]) rfl ?_
    refine g_aload_n dX1_paidBehind_36 rfl rfl ?_
    refine g_aload_n dX1_paidBehind_37 rfl rfl ?_
    refine g_lload_n dX1_paidBehind_38 rfl rfl ?_
    refine g_callVI [.long x1] (ci := 1) dX1_paidBehind_39 ml_X1_67 mk_X1_index rfl rfl sh87 (Nat.le_of_ble_eq_true rfl) (Nat.le_of_ble_eq_true rfl) rfl (c_Going_index hw) (fun r3 h4 hw => ?_)
    refine g_callVI [.int r3] (ci := 1) dX1_paidBehind_42 ml_X1_71 mk_X1_paidIn rfl rfl sh87 (Nat.le_of_ble_eq_true rfl) (Nat.le_of_ble_eq_true rfl) rfl (c_Going_paidIn hw) (fun r5 h6 hw => ?_)
    refine g_i2l dX1_paidBehind_45 ?_
    refine g_lload_n dX1_paidBehind_46 rfl rfl ?_
    refine g_aload_n dX1_paidBehind_47 rfl rfl ?_
    refine g_aload_n dX1_paidBehind_48 rfl rfl ?_
    refine g_getI dX1_paidBehind_49 fl_X1_24 sh87 rfl ?_
    refine g_aload_n dX1_paidBehind_52 rfl rfl ?_
    refine g_getI dX1_paidBehind_53 fl_X1_28 sh87 rfl ?_
    refine g_iadd dX1_paidBehind_56 ?_
    refine g_callVI [.int ((gI h6 87 4) + (gI h6 87 5))] (ci := 1) dX1_paidBehind_57 ml_X1_71 mk_X1_paidIn rfl rfl sh87 (Nat.le_of_ble_eq_true rfl) (Nat.le_of_ble_eq_true rfl) rfl (c_Going_paidIn hw) (fun r7 h8 hw => ?_)
    refine g_aload_n dX1_paidBehind_60 rfl rfl ?_
    refine g_aload_n dX1_paidBehind_61 rfl rfl ?_
    refine g_getI dX1_paidBehind_62 fl_X1_24 sh87 rfl ?_
    refine g_callVI [.int (gI h8 87 4)] (ci := 1) dX1_paidBehind_65 ml_X1_71 mk_X1_paidIn rfl rfl sh87 (Nat.le_of_ble_eq_true rfl) (Nat.le_of_ble_eq_true rfl) rfl (c_Going_paidIn hw) (fun r9 h10 hw => ?_)
    refine g_isub dX1_paidBehind_68 ?_
    refine g_i2l dX1_paidBehind_69 ?_
    refine g_lmul dX1_paidBehind_70 ?_
    refine g_ladd dX1_paidBehind_71 ?_
    exact g_lret dX1_paidBehind_72 hw
  refine jn_el hw (fun J18 eJ18 hw => ?_)
  have hJ18 : ∀ (h11 : Hp), J18 h11 → Go cX1_paidBehind 5 RX1 (some .long) 3 G (QJ G Q) 18 [(0, .ref (gAd G 87)), (1, .long x1)] [] h11 := by
    intro h11 hw
    subst eJ18
    refine g_lconst (v := (0 : Int64)) dX1_paidBehind_18 (by decide) ?_
    refine g_goto 35 dX1_paidBehind_19 rfl ?_
    exact hJ35 _ _ hw
  refine g_lc_lt 18 dX1_paidBehind_6 dX1_paidBehind_7 rfl (fun hc => ?_) (fun hc => ?_)
  · have hw := hw.1 hc
    exact hJ18 _ hw
  · have hw := hw.2 hc
    refine g_aload_n dX1_paidBehind_10 rfl rfl ?_
    refine g_getI dX1_paidBehind_11 fl_X1_28 sh87 rfl ?_
    refine g_iconst (v := 1) dX1_paidBehind_14 (by decide) ?_
    refine g_icmp_ge 22 dX1_paidBehind_15 rfl (fun hc => ?_) (fun hc => ?_)
    · have hw := hw.1 hc
      refine g_lload_n dX1_paidBehind_22 rfl rfl ?_
      refine g_aload_n dX1_paidBehind_23 rfl rfl ?_
      refine g_getI dX1_paidBehind_24 fl_X1_24 sh87 rfl ?_
      refine g_i2l dX1_paidBehind_27 ?_
      refine g_lsub dX1_paidBehind_28 ?_
      refine g_aload_n dX1_paidBehind_29 rfl rfl ?_
      refine g_getI dX1_paidBehind_30 fl_X1_28 sh87 rfl ?_
      refine g_i2l dX1_paidBehind_33 ?_
      refine g_ldiv dX1_paidBehind_34 hw.1 ?_
      have hw := hw.2
      exact hJ35 _ _ hw
    · have hw := hw.2 hc
      exact hJ18 _ hw
theorem dX11_purse_0 : decode cX11_purse 0 = .ok (.lload_n 1, 1) := by decide +kernel
theorem dX11_purse_1 : decode cX11_purse 1 = .ok (.lconst 0, 1) := by decide +kernel
theorem dX11_purse_2 : decode cX11_purse 2 = .ok (.lcmp, 1) := by decide +kernel
theorem dX11_purse_3 : decode cX11_purse 3 = .ok (.ifCond .lt 11, 3) := by decide +kernel
theorem dX11_purse_6 : decode cX11_purse 6 = .ok (.lload_n 1, 1) := by decide +kernel
theorem dX11_purse_7 : decode cX11_purse 7 = .ok (.ldc2_w 317, 3) := by decide +kernel
theorem dX11_purse_10 : decode cX11_purse 10 = .ok (.lcmp, 1) := by decide +kernel
theorem dX11_purse_11 : decode cX11_purse 11 = .ok (.ifCond .le 7, 3) := by decide +kernel
theorem dX11_purse_14 : decode cX11_purse 14 = .ok (.ldc2_w 189, 3) := by decide +kernel
theorem dX11_purse_17 : decode cX11_purse 17 = .ok (.lreturn, 1) := by decide +kernel
theorem dX11_purse_18 : decode cX11_purse 18 = .ok (.aload_n 0, 1) := by decide +kernel
theorem dX11_purse_19 : decode cX11_purse 19 = .ok (.getfield 79, 3) := by decide +kernel
theorem dX11_purse_22 : decode cX11_purse 22 = .ok (.aload_n 0, 1) := by decide +kernel
theorem dX11_purse_23 : decode cX11_purse 23 = .ok (.getfield 27, 3) := by decide +kernel
theorem dX11_purse_26 : decode cX11_purse 26 = .ok (.aload_n 0, 1) := by decide +kernel
theorem dX11_purse_27 : decode cX11_purse 27 = .ok (.getfield 34, 3) := by decide +kernel
theorem dX11_purse_30 : decode cX11_purse 30 = .ok (.invokevirtual 319, 3) := by decide +kernel
theorem dX11_purse_33 : decode cX11_purse 33 = .ok (.aload_n 0, 1) := by decide +kernel
theorem dX11_purse_34 : decode cX11_purse 34 = .ok (.getfield 34, 3) := by decide +kernel
theorem dX11_purse_37 : decode cX11_purse 37 = .ok (.getfield 181, 3) := by decide +kernel
theorem dX11_purse_40 : decode cX11_purse 40 = .ok (.aload_n 0, 1) := by decide +kernel
theorem dX11_purse_41 : decode cX11_purse 41 = .ok (.getfield 79, 3) := by decide +kernel
theorem dX11_purse_44 : decode cX11_purse 44 = .ok (.lload_n 1, 1) := by decide +kernel
theorem dX11_purse_45 : decode cX11_purse 45 = .ok (.invokevirtual 327, 3) := by decide +kernel
theorem dX11_purse_48 : decode cX11_purse 48 = .ok (.ladd, 1) := by decide +kernel
theorem dX11_purse_49 : decode cX11_purse 49 = .ok (.lreturn, 1) := by decide +kernel
theorem ml_X11_327 : Cond.methodLink RX11 327 yX1_paidBehind ∈ Wd := mW 1173 (by decide +kernel) rfl
theorem mk_X1_paidBehind : MokV yX1_paidBehind cX1_paidBehind 5 (some .long) 1 := ⟨⟨mW 11 (by decide +kernel) rfl, mW 1176 (by decide +kernel) rfl, ⟨by decide, by decide, by decide +kernel⟩, by decide⟩, mW 1174 (by decide +kernel) rfl, mW 1175 (by decide +kernel) rfl⟩
def C_purse (x1 : Int64) (h : Hp) (Q : Int64 → Hp → Prop) : Prop := (x1 < (0 : Int64) → Q (-9000000000000000003 : Int64) h) ∧ (¬ x1 < (0 : Int64) → (x1 ≤ (1000000000000000 : Int64) → Going_follow 20 h (fun h1 => Going_paidBehind x1 h1 (fun r2 h3 => Q ((gJ h1 20 1) + r2) h3))) ∧ (¬ x1 ≤ (1000000000000000 : Int64) → Q (-9000000000000000003 : Int64) h))
set_option maxHeartbeats 4000000 in
set_option maxRecDepth 20000 in
theorem c_C_purse {G : Gx}  {x1 : Int64} {h : Hp} {Q : Int64 → Hp → Prop} (hw : C_purse x1 h Q) : Ct yX11_purse cX11_purse 3 (some .long) 6 G [.ref (gAd G 0), .long x1] h (QJ G Q) := by
  refine ct_go [(0, .ref (gAd G 0)), (1, .long x1)] (plainFor_of_name (by decide)) rfl (Nat.le_of_ble_eq_true rfl) rfl ?_
  refine g_lload_n dX11_purse_0 rfl rfl ?_
  refine g_lconst (v := (0 : Int64)) dX11_purse_1 (by decide) ?_
  refine g_lc_lt 14 dX11_purse_2 dX11_purse_3 rfl (fun hc => ?_) (fun hc => ?_)
  · have hw := hw.1 hc
    refine g_ldc2 dX11_purse_14 kl_X11_189 ?_
    exact g_lret dX11_purse_17 hw
  · have hw := hw.2 hc
    refine g_lload_n dX11_purse_6 rfl rfl ?_
    refine g_ldc2 dX11_purse_7 kl_X11_317 ?_
    refine g_lc_le 18 dX11_purse_10 dX11_purse_11 rfl (fun hc => ?_) (fun hc => ?_)
    · have hw := hw.1 hc
      refine g_aload_n dX11_purse_18 rfl rfl ?_
      refine g_getO dX11_purse_19 fl_X11_79 sh0 rfl ?_
      refine g_aload_n dX11_purse_22 rfl rfl ?_
      refine g_getO dX11_purse_23 fl_X11_27 sh0 rfl ?_
      refine g_aload_n dX11_purse_26 rfl rfl ?_
      refine g_getO dX11_purse_27 fl_X11_34 sh0 rfl ?_
      refine g_callVV [.ref (gAd G 14), .ref (gAd G 20)] (ci := 1) dX11_purse_30 ml_X11_319 mk_X1_follow rfl rfl sh87 (Nat.le_of_ble_eq_true rfl) (Nat.le_of_ble_eq_true rfl) rfl (c_Going_follow sh20 hw) (fun h1 hw => ?_)
      refine g_aload_n dX11_purse_33 rfl rfl ?_
      refine g_getO dX11_purse_34 fl_X11_34 sh0 rfl ?_
      refine g_getJ dX11_purse_37 fl_X11_181 sh20 rfl ?_
      refine g_aload_n dX11_purse_40 rfl rfl ?_
      refine g_getO dX11_purse_41 fl_X11_79 sh0 rfl ?_
      refine g_lload_n dX11_purse_44 rfl rfl ?_
      refine g_callVJ [.long x1] (ci := 1) dX11_purse_45 ml_X11_327 mk_X1_paidBehind rfl rfl sh87 (Nat.le_of_ble_eq_true rfl) (Nat.le_of_ble_eq_true rfl) rfl (c_Going_paidBehind hw) (fun r2 h3 hw => ?_)
      refine g_ladd dX11_purse_48 ?_
      exact g_lret dX11_purse_49 hw
    · have hw := hw.2 hc
      refine g_ldc2 dX11_purse_14 kl_X11_189 ?_
      exact g_lret dX11_purse_17 hw
theorem dX11_round_0 : decode cX11_round 0 = .ok (.iload_n 1, 1) := by decide +kernel
theorem dX11_round_1 : decode cX11_round 1 = .ok (.invokestatic 262, 3) := by decide +kernel
theorem dX11_round_4 : decode cX11_round 4 = .ok (.ifCond .ne 6, 3) := by decide +kernel
theorem dX11_round_7 : decode cX11_round 7 = .ok (.bipush (-2), 2) := by decide +kernel
theorem dX11_round_9 : decode cX11_round 9 = .ok (.ireturn, 1) := by decide +kernel
theorem dX11_round_10 : decode cX11_round 10 = .ok (.aload_n 0, 1) := by decide +kernel
theorem dX11_round_11 : decode cX11_round 11 = .ok (.getfield 79, 3) := by decide +kernel
theorem dX11_round_14 : decode cX11_round 14 = .ok (.aload_n 0, 1) := by decide +kernel
theorem dX11_round_15 : decode cX11_round 15 = .ok (.getfield 27, 3) := by decide +kernel
theorem dX11_round_18 : decode cX11_round 18 = .ok (.aload_n 0, 1) := by decide +kernel
theorem dX11_round_19 : decode cX11_round 19 = .ok (.getfield 34, 3) := by decide +kernel
theorem dX11_round_22 : decode cX11_round 22 = .ok (.invokevirtual 319, 3) := by decide +kernel
theorem dX11_round_25 : decode cX11_round 25 = .ok (.iload_n 1, 1) := by decide +kernel
theorem dX11_round_26 : decode cX11_round 26 = .ok (.ifCond .ne 13, 3) := by decide +kernel
theorem dX11_round_29 : decode cX11_round 29 = .ok (.aload_n 0, 1) := by decide +kernel
theorem dX11_round_30 : decode cX11_round 30 = .ok (.getfield 79, 3) := by decide +kernel
theorem dX11_round_33 : decode cX11_round 33 = .ok (.getfield 331, 3) := by decide +kernel
theorem dX11_round_36 : decode cX11_round 36 = .ok (.goto 10, 3) := by decide +kernel
theorem dX11_round_39 : decode cX11_round 39 = .ok (.aload_n 0, 1) := by decide +kernel
theorem dX11_round_40 : decode cX11_round 40 = .ok (.getfield 79, 3) := by decide +kernel
theorem dX11_round_43 : decode cX11_round 43 = .ok (.getfield 334, 3) := by decide +kernel
theorem dX11_round_46 : decode cX11_round 46 = .ok (.ireturn, 1) := by decide +kernel
theorem fl_X11_334 : FLk RX11 334 1 5 := ⟨_, rfl, by decide, mW 325 (by decide +kernel) rfl⟩
theorem fl_X11_331 : FLk RX11 331 1 4 := ⟨_, rfl, by decide, mW 323 (by decide +kernel) rfl⟩
def C_round (x1 : Int32) (h : Hp) (Q : Int32 → Hp → Prop) : Prop := C_isEither x1 h (fun r1 h2 => (¬ r1 = 0 → Going_follow 20 h2 (fun h3 => (¬ x1 = 0 → Q (gI h3 87 5) h3) ∧ (x1 = 0 → Q (gI h3 87 4) h3))) ∧ (r1 = 0 → Q (-2) h2))
set_option maxHeartbeats 4000000 in
set_option maxRecDepth 20000 in
theorem c_C_round {G : Gx}  {x1 : Int32} {h : Hp} {Q : Int32 → Hp → Prop} (hw : C_round x1 h Q) : Ct yX11_round cX11_round 2 (some .int) 6 G [.ref (gAd G 0), .int x1] h (QI G Q) := by
  refine ct_go [(0, .ref (gAd G 0)), (1, .int x1)] (plainFor_of_name (by decide)) rfl (Nat.le_of_ble_eq_true rfl) rfl ?_
  refine g_iload_n dX11_round_0 rfl rfl ?_
  refine g_callSI [.int x1] dX11_round_1 ml_X11_262 mk_X11_isEither rfl (Nat.le_of_ble_eq_true rfl) (Nat.le_of_ble_eq_true rfl) rfl (c_C_isEither hw) (fun r1 h2 hw => ?_)
  refine g_if_ne 10 dX11_round_4 rfl (fun hc => ?_) (fun hc => ?_)
  · have hw := hw.1 hc
    refine g_aload_n dX11_round_10 rfl rfl ?_
    refine g_getO dX11_round_11 fl_X11_79 sh0 rfl ?_
    refine g_aload_n dX11_round_14 rfl rfl ?_
    refine g_getO dX11_round_15 fl_X11_27 sh0 rfl ?_
    refine g_aload_n dX11_round_18 rfl rfl ?_
    refine g_getO dX11_round_19 fl_X11_34 sh0 rfl ?_
    refine g_callVV [.ref (gAd G 14), .ref (gAd G 20)] (ci := 1) dX11_round_22 ml_X11_319 mk_X1_follow rfl rfl sh87 (Nat.le_of_ble_eq_true rfl) (Nat.le_of_ble_eq_true rfl) rfl (c_Going_follow sh20 hw) (fun h3 hw => ?_)
    refine g_iload_n dX11_round_25 rfl rfl ?_
    refine g_if_ne 39 dX11_round_26 rfl (fun hc => ?_) (fun hc => ?_)
    · have hw := hw.1 hc
      refine g_aload_n dX11_round_39 rfl rfl ?_
      refine g_getO dX11_round_40 fl_X11_79 sh0 rfl ?_
      refine g_getI dX11_round_43 fl_X11_334 sh87 rfl ?_
      exact g_iret dX11_round_46 hw
    · have hw := hw.2 hc
      refine g_aload_n dX11_round_29 rfl rfl ?_
      refine g_getO dX11_round_30 fl_X11_79 sh0 rfl ?_
      refine g_getI dX11_round_33 fl_X11_331 sh87 rfl ?_
      refine g_goto 46 dX11_round_36 rfl ?_
      exact g_iret dX11_round_46 hw
  · have hw := hw.2 hc
    refine g_bipush (v := (-2)) dX11_round_7 (by decide) ?_
    exact g_iret dX11_round_9 hw
theorem dX1_leastPaid_0 : decode cX1_leastPaid 0 = .ok (.lconst 0, 1) := by decide +kernel
theorem dX1_leastPaid_1 : decode cX1_leastPaid 1 = .ok (.lstore_n 2, 1) := by decide +kernel
theorem dX1_leastPaid_2 : decode cX1_leastPaid 2 = .ok (.iconst 0, 1) := by decide +kernel
theorem dX1_leastPaid_3 : decode cX1_leastPaid 3 = .ok (.istore 4, 2) := by decide +kernel
theorem dX1_leastPaid_5 : decode cX1_leastPaid 5 = .ok (.iload 4, 2) := by decide +kernel
theorem dX1_leastPaid_7 : decode cX1_leastPaid 7 = .ok (.iload_n 1, 1) := by decide +kernel
theorem dX1_leastPaid_8 : decode cX1_leastPaid 8 = .ok (.if_icmp .gt 35, 3) := by decide +kernel
theorem dX1_leastPaid_11 : decode cX1_leastPaid 11 = .ok (.iload 4, 2) := by decide +kernel
theorem dX1_leastPaid_13 : decode cX1_leastPaid 13 = .ok (.aload_n 0, 1) := by decide +kernel
theorem dX1_leastPaid_14 : decode cX1_leastPaid 14 = .ok (.getfield 24, 3) := by decide +kernel
theorem dX1_leastPaid_17 : decode cX1_leastPaid 17 = .ok (.aload_n 0, 1) := by decide +kernel
theorem dX1_leastPaid_18 : decode cX1_leastPaid 18 = .ok (.getfield 28, 3) := by decide +kernel
theorem dX1_leastPaid_21 : decode cX1_leastPaid 21 = .ok (.iadd, 1) := by decide +kernel
theorem dX1_leastPaid_22 : decode cX1_leastPaid 22 = .ok (.if_icmp .gt 21, 3) := by decide +kernel
theorem dX1_leastPaid_25 : decode cX1_leastPaid 25 = .ok (.lload_n 2, 1) := by decide +kernel
theorem dX1_leastPaid_26 : decode cX1_leastPaid 26 = .ok (.aload_n 0, 1) := by decide +kernel
theorem dX1_leastPaid_27 : decode cX1_leastPaid 27 = .ok (.iload 4, 2) := by decide +kernel
theorem dX1_leastPaid_29 : decode cX1_leastPaid 29 = .ok (.i2l, 1) := by decide +kernel
theorem dX1_leastPaid_30 : decode cX1_leastPaid 30 = .ok (.invokevirtual 75, 3) := by decide +kernel
theorem dX1_leastPaid_33 : decode cX1_leastPaid 33 = .ok (.invokestatic 58, 3) := by decide +kernel
theorem dX1_leastPaid_36 : decode cX1_leastPaid 36 = .ok (.lstore_n 2, 1) := by decide +kernel
theorem dX1_leastPaid_37 : decode cX1_leastPaid 37 = .ok (.iinc 4 1, 3) := by decide +kernel
theorem dX1_leastPaid_40 : decode cX1_leastPaid 40 = .ok (.goto (-35), 3) := by decide +kernel
theorem dX1_leastPaid_43 : decode cX1_leastPaid 43 = .ok (.iconst 0, 1) := by decide +kernel
theorem dX1_leastPaid_44 : decode cX1_leastPaid 44 = .ok (.iload_n 1, 1) := by decide +kernel
theorem dX1_leastPaid_45 : decode cX1_leastPaid 45 = .ok (.aload_n 0, 1) := by decide +kernel
theorem dX1_leastPaid_46 : decode cX1_leastPaid 46 = .ok (.getfield 28, 3) := by decide +kernel
theorem dX1_leastPaid_49 : decode cX1_leastPaid 49 = .ok (.isub, 1) := by decide +kernel
theorem dX1_leastPaid_50 : decode cX1_leastPaid 50 = .ok (.invokestatic 79, 3) := by decide +kernel
theorem dX1_leastPaid_53 : decode cX1_leastPaid 53 = .ok (.istore 4, 2) := by decide +kernel
theorem dX1_leastPaid_55 : decode cX1_leastPaid 55 = .ok (.iload 4, 2) := by decide +kernel
theorem dX1_leastPaid_57 : decode cX1_leastPaid 57 = .ok (.iload_n 1, 1) := by decide +kernel
theorem dX1_leastPaid_58 : decode cX1_leastPaid 58 = .ok (.if_icmp .gt 21, 3) := by decide +kernel
theorem dX1_leastPaid_61 : decode cX1_leastPaid 61 = .ok (.lload_n 2, 1) := by decide +kernel
theorem dX1_leastPaid_62 : decode cX1_leastPaid 62 = .ok (.aload_n 0, 1) := by decide +kernel
theorem dX1_leastPaid_63 : decode cX1_leastPaid 63 = .ok (.iload 4, 2) := by decide +kernel
theorem dX1_leastPaid_65 : decode cX1_leastPaid 65 = .ok (.i2l, 1) := by decide +kernel
theorem dX1_leastPaid_66 : decode cX1_leastPaid 66 = .ok (.invokevirtual 75, 3) := by decide +kernel
theorem dX1_leastPaid_69 : decode cX1_leastPaid 69 = .ok (.invokestatic 58, 3) := by decide +kernel
theorem dX1_leastPaid_72 : decode cX1_leastPaid 72 = .ok (.lstore_n 2, 1) := by decide +kernel
theorem dX1_leastPaid_73 : decode cX1_leastPaid 73 = .ok (.iinc 4 1, 3) := by decide +kernel
theorem dX1_leastPaid_76 : decode cX1_leastPaid 76 = .ok (.goto (-21), 3) := by decide +kernel
theorem dX1_leastPaid_79 : decode cX1_leastPaid 79 = .ok (.lload_n 2, 1) := by decide +kernel
theorem dX1_leastPaid_80 : decode cX1_leastPaid 80 = .ok (.lreturn, 1) := by decide +kernel
theorem ml_X1_75 : Cond.methodLink RX1 75 yX1_paidBehind ∈ Wd := mW 1193 (by decide +kernel) rfl
theorem ml_X1_79 : Cond.methodLink RX1 79 yJ9_max_7cf53 ∈ Wd := mW 1194 (by decide +kernel) rfl
def Going_leastPaid_L5 (x1 : Int32) (K43 : Int64 → Hp → Prop) : Nat → Int64 → Int32 → Hp → Prop
  | 0, _, _, _ => False
  | n + 1, x2, x4, h => (x1 < x4 → K43 x2 h) ∧ (¬ x1 < x4 → (((gI h 87 4) + (gI h 87 5)) < x4 → K43 x2 h) ∧ (¬ ((gI h 87 4) + (gI h 87 5)) < x4 → Going_paidBehind ((x4).toInt64) h (fun r1 h2 => J9_min_f86c9 x2 r1 h2 (fun r3 h4 => ∀ v5 : Int32, v5 = (x4 + 1) → Going_leastPaid_L5 x1 K43 n r3 v5 h4))))
set_option maxHeartbeats 4000000 in
set_option maxRecDepth 20000 in
theorem gl_Going_leastPaid_L5 {G : Gx}  {x1 : Int32} {Q : Int64 → Hp → Prop} {K43 : Int64 → Hp → Prop} (hK43 : ∀ (y2 : Int64) (h1 : Hp), K43 y2 h1 → Go cX1_leastPaid 5 RX1 (some .long) 4 G (QJ G Q) 43 [(0, .ref (gAd G 87)), (1, .int x1), (2, .long y2)] [] h1) : ∀ (n : Nat) (x2 : Int64) (x4 : Int32) (h : Hp), Going_leastPaid_L5 x1 K43 n x2 x4 h → Go cX1_leastPaid 5 RX1 (some .long) 4 G (QJ G Q) 5 [(0, .ref (gAd G 87)), (1, .int x1), (2, .long x2), (4, .int x4)] [] h := by
  intro n
  induction n with
  | zero => intro _ _ h hw; exact False.elim hw
  | succ n ih =>
    intro x2 x4 h hw
    refine g_iload dX1_leastPaid_5 rfl ?_
    refine g_iload_n dX1_leastPaid_7 rfl rfl ?_
    refine g_icmp_gt 43 dX1_leastPaid_8 rfl (fun hc => ?_) (fun hc => ?_)
    · have hw := hw.1 hc
      refine g_lv [0, 1, 2] rfl ?_
      exact hK43 _ _ hw
    · have hw := hw.2 hc
      refine g_iload dX1_leastPaid_11 rfl ?_
      refine g_aload_n dX1_leastPaid_13 rfl rfl ?_
      refine g_getI dX1_leastPaid_14 fl_X1_24 sh87 rfl ?_
      refine g_aload_n dX1_leastPaid_17 rfl rfl ?_
      refine g_getI dX1_leastPaid_18 fl_X1_28 sh87 rfl ?_
      refine g_iadd dX1_leastPaid_21 ?_
      refine g_icmp_gt 43 dX1_leastPaid_22 rfl (fun hc => ?_) (fun hc => ?_)
      · have hw := hw.1 hc
        refine g_lv [0, 1, 2] rfl ?_
        exact hK43 _ _ hw
      · have hw := hw.2 hc
        refine g_lload_n dX1_leastPaid_25 rfl rfl ?_
        refine g_aload_n dX1_leastPaid_26 rfl rfl ?_
        refine g_iload dX1_leastPaid_27 rfl ?_
        refine g_i2l dX1_leastPaid_29 ?_
        refine g_callVJ [.long ((x4).toInt64)] (ci := 1) dX1_leastPaid_30 ml_X1_75 mk_X1_paidBehind rfl rfl sh87 (Nat.le_of_ble_eq_true rfl) (Nat.le_of_ble_eq_true rfl) rfl (c_Going_paidBehind hw) (fun r1 h2 hw => ?_)
        refine g_callSJ [.long x2, .long r1] dX1_leastPaid_33 ml_X1_58 mk_J9_min_f86c9 rfl (Nat.le_of_ble_eq_true rfl) (Nat.le_of_ble_eq_true rfl) rfl (c_J9_min_f86c9 hw) (fun r3 h4 hw => ?_)
        refine g_lstore_n dX1_leastPaid_36 rfl (by decide) (lv1 := [(0, .ref (gAd G 87)), (1, .int x1), (2, .long r3), (4, .int x4)]) rfl ?_
        obtain ⟨v5, ev5⟩ : ∃ y : Int32, y = (x4 + 1) := ⟨_, rfl⟩
        have hw := hw v5 ev5
        refine g_iinc dX1_leastPaid_37 rfl (by rw [ev5]; rfl) (by decide) (lv1 := [(0, .ref (gAd G 87)), (1, .int x1), (2, .long r3), (4, .int v5)]) rfl ?_
        refine g_goto 5 dX1_leastPaid_40 rfl ?_
        exact ih _ _ _ hw
def Going_leastPaid_L55 (x1 : Int32) (Q : Int64 → Hp → Prop) : Nat → Int64 → Int32 → Hp → Prop
  | 0, _, _, _ => False
  | n + 1, x2, x4, h => (x1 < x4 → Q x2 h) ∧ (¬ x1 < x4 → Going_paidBehind ((x4).toInt64) h (fun r11 h12 => J9_min_f86c9 x2 r11 h12 (fun r13 h14 => ∀ v15 : Int32, v15 = (x4 + 1) → Going_leastPaid_L55 x1 Q n r13 v15 h14)))
set_option maxHeartbeats 4000000 in
set_option maxRecDepth 20000 in
theorem gl_Going_leastPaid_L55 {G : Gx}  {x1 : Int32} {Q : Int64 → Hp → Prop} : ∀ (n : Nat) (x2 : Int64) (x4 : Int32) (h : Hp), Going_leastPaid_L55 x1 Q n x2 x4 h → Go cX1_leastPaid 5 RX1 (some .long) 4 G (QJ G Q) 55 [(0, .ref (gAd G 87)), (1, .int x1), (2, .long x2), (4, .int x4)] [] h := by
  intro n
  induction n with
  | zero => intro _ _ h hw; exact False.elim hw
  | succ n ih =>
    intro x2 x4 h hw
    refine g_iload dX1_leastPaid_55 rfl ?_
    refine g_iload_n dX1_leastPaid_57 rfl rfl ?_
    refine g_icmp_gt 79 dX1_leastPaid_58 rfl (fun hc => ?_) (fun hc => ?_)
    · have hw := hw.1 hc
      refine g_lload_n dX1_leastPaid_79 rfl rfl ?_
      exact g_lret dX1_leastPaid_80 hw
    · have hw := hw.2 hc
      refine g_lload_n dX1_leastPaid_61 rfl rfl ?_
      refine g_aload_n dX1_leastPaid_62 rfl rfl ?_
      refine g_iload dX1_leastPaid_63 rfl ?_
      refine g_i2l dX1_leastPaid_65 ?_
      refine g_callVJ [.long ((x4).toInt64)] (ci := 1) dX1_leastPaid_66 ml_X1_75 mk_X1_paidBehind rfl rfl sh87 (Nat.le_of_ble_eq_true rfl) (Nat.le_of_ble_eq_true rfl) rfl (c_Going_paidBehind hw) (fun r11 h12 hw => ?_)
      refine g_callSJ [.long x2, .long r11] dX1_leastPaid_69 ml_X1_58 mk_J9_min_f86c9 rfl (Nat.le_of_ble_eq_true rfl) (Nat.le_of_ble_eq_true rfl) rfl (c_J9_min_f86c9 hw) (fun r13 h14 hw => ?_)
      refine g_lstore_n dX1_leastPaid_72 rfl (by decide) (lv1 := [(0, .ref (gAd G 87)), (1, .int x1), (2, .long r13), (4, .int x4)]) rfl ?_
      obtain ⟨v15, ev15⟩ : ∃ y : Int32, y = (x4 + 1) := ⟨_, rfl⟩
      have hw := hw v15 ev15
      refine g_iinc dX1_leastPaid_73 rfl (by rw [ev15]; rfl) (by decide) (lv1 := [(0, .ref (gAd G 87)), (1, .int x1), (2, .long r13), (4, .int v15)]) rfl ?_
      refine g_goto 55 dX1_leastPaid_76 rfl ?_
      exact ih _ _ _ hw
def Going_leastPaid (x1 : Int32) (h : Hp) (Q : Int64 → Hp → Prop) : Prop := ∃ n6, Going_leastPaid_L5 x1 (fun x2_7 h8 => J9_max_7cf53 0 (x1 - (gI h8 87 5)) h8 (fun r9 h10 => ∃ n16, Going_leastPaid_L55 x1 Q n16 x2_7 r9 h10)) n6 (0 : Int64) 0 h
set_option maxHeartbeats 4000000 in
set_option maxRecDepth 20000 in
theorem c_Going_leastPaid {G : Gx}  {x1 : Int32} {h : Hp} {Q : Int64 → Hp → Prop} (hw : Going_leastPaid x1 h Q) : Ct yX1_leastPaid cX1_leastPaid 5 (some .long) 4 G [.ref (gAd G 87), .int x1] h (QJ G Q) := by
  refine ct_go [(0, .ref (gAd G 87)), (1, .int x1)] (plainFor_of_name (by decide)) rfl (Nat.le_of_ble_eq_true rfl) rfl ?_
  refine g_lconst (v := (0 : Int64)) dX1_leastPaid_0 (by decide) ?_
  refine g_lstore_n dX1_leastPaid_1 rfl (by decide) (lv1 := [(0, .ref (gAd G 87)), (1, .int x1), (2, .long (0 : Int64))]) rfl ?_
  refine g_iconst (v := 0) dX1_leastPaid_2 (by decide) ?_
  refine g_istore dX1_leastPaid_3 (by decide) (lv1 := [(0, .ref (gAd G 87)), (1, .int x1), (2, .long (0 : Int64)), (4, .int 0)]) rfl ?_
  obtain ⟨n6, hw⟩ := hw
  refine gl_Going_leastPaid_L5  ?_ _ _ _ _ hw
  · intro x2_7 h8 hw
    refine g_iconst (v := 0) dX1_leastPaid_43 (by decide) ?_
    refine g_iload_n dX1_leastPaid_44 rfl rfl ?_
    refine g_aload_n dX1_leastPaid_45 rfl rfl ?_
    refine g_getI dX1_leastPaid_46 fl_X1_28 sh87 rfl ?_
    refine g_isub dX1_leastPaid_49 ?_
    refine g_callSI [.int 0, .int (x1 - (gI h8 87 5))] dX1_leastPaid_50 ml_X1_79 mk_J9_max_7cf53 rfl (Nat.le_of_ble_eq_true rfl) (Nat.le_of_ble_eq_true rfl) rfl (c_J9_max_7cf53 hw) (fun r9 h10 hw => ?_)
    refine g_istore dX1_leastPaid_53 (by decide) (lv1 := [(0, .ref (gAd G 87)), (1, .int x1), (2, .long x2_7), (4, .int r9)]) rfl ?_
    obtain ⟨n16, hw⟩ := hw
    refine gl_Going_leastPaid_L55   _ _ _ _ hw
theorem dX11_paid_0 : decode cX11_paid 0 = .ok (.iload_n 1, 1) := by decide +kernel
theorem dX11_paid_1 : decode cX11_paid 1 = .ok (.ifCond .lt 10, 3) := by decide +kernel
theorem dX11_paid_4 : decode cX11_paid 4 = .ok (.iload_n 1, 1) := by decide +kernel
theorem dX11_paid_5 : decode cX11_paid 5 = .ok (.sipush 9999, 3) := by decide +kernel
theorem dX11_paid_8 : decode cX11_paid 8 = .ok (.if_icmp .le 7, 3) := by decide +kernel
theorem dX11_paid_11 : decode cX11_paid 11 = .ok (.ldc2_w 189, 3) := by decide +kernel
theorem dX11_paid_14 : decode cX11_paid 14 = .ok (.lreturn, 1) := by decide +kernel
theorem dX11_paid_15 : decode cX11_paid 15 = .ok (.aload_n 0, 1) := by decide +kernel
theorem dX11_paid_16 : decode cX11_paid 16 = .ok (.getfield 79, 3) := by decide +kernel
theorem dX11_paid_19 : decode cX11_paid 19 = .ok (.aload_n 0, 1) := by decide +kernel
theorem dX11_paid_20 : decode cX11_paid 20 = .ok (.getfield 27, 3) := by decide +kernel
theorem dX11_paid_23 : decode cX11_paid 23 = .ok (.aload_n 0, 1) := by decide +kernel
theorem dX11_paid_24 : decode cX11_paid 24 = .ok (.getfield 34, 3) := by decide +kernel
theorem dX11_paid_27 : decode cX11_paid 27 = .ok (.invokevirtual 319, 3) := by decide +kernel
theorem dX11_paid_30 : decode cX11_paid 30 = .ok (.aload_n 0, 1) := by decide +kernel
theorem dX11_paid_31 : decode cX11_paid 31 = .ok (.getfield 34, 3) := by decide +kernel
theorem dX11_paid_34 : decode cX11_paid 34 = .ok (.getfield 181, 3) := by decide +kernel
theorem dX11_paid_37 : decode cX11_paid 37 = .ok (.aload_n 0, 1) := by decide +kernel
theorem dX11_paid_38 : decode cX11_paid 38 = .ok (.getfield 79, 3) := by decide +kernel
theorem dX11_paid_41 : decode cX11_paid 41 = .ok (.iload_n 1, 1) := by decide +kernel
theorem dX11_paid_42 : decode cX11_paid 42 = .ok (.invokevirtual 337, 3) := by decide +kernel
theorem dX11_paid_45 : decode cX11_paid 45 = .ok (.ladd, 1) := by decide +kernel
theorem dX11_paid_46 : decode cX11_paid 46 = .ok (.lreturn, 1) := by decide +kernel
theorem ml_X11_337 : Cond.methodLink RX11 337 yX1_leastPaid ∈ Wd := mW 1189 (by decide +kernel) rfl
theorem mk_X1_leastPaid : MokV yX1_leastPaid cX1_leastPaid 5 (some .long) 1 := ⟨⟨mW 11 (by decide +kernel) rfl, mW 1192 (by decide +kernel) rfl, ⟨by decide, by decide, by decide +kernel⟩, by decide⟩, mW 1190 (by decide +kernel) rfl, mW 1191 (by decide +kernel) rfl⟩
def C_paid (x1 : Int32) (h : Hp) (Q : Int64 → Hp → Prop) : Prop := (x1 < 0 → Q (-9000000000000000003 : Int64) h) ∧ (¬ x1 < 0 → (x1 ≤ 9999 → Going_follow 20 h (fun h1 => Going_leastPaid x1 h1 (fun r2 h3 => Q ((gJ h1 20 1) + r2) h3))) ∧ (¬ x1 ≤ 9999 → Q (-9000000000000000003 : Int64) h))
set_option maxHeartbeats 4000000 in
set_option maxRecDepth 20000 in
theorem c_C_paid {G : Gx}  {x1 : Int32} {h : Hp} {Q : Int64 → Hp → Prop} (hw : C_paid x1 h Q) : Ct yX11_paid cX11_paid 2 (some .long) 6 G [.ref (gAd G 0), .int x1] h (QJ G Q) := by
  refine ct_go [(0, .ref (gAd G 0)), (1, .int x1)] (plainFor_of_name (by decide)) rfl (Nat.le_of_ble_eq_true rfl) rfl ?_
  refine g_iload_n dX11_paid_0 rfl rfl ?_
  refine g_if_lt 11 dX11_paid_1 rfl (fun hc => ?_) (fun hc => ?_)
  · have hw := hw.1 hc
    refine g_ldc2 dX11_paid_11 kl_X11_189 ?_
    exact g_lret dX11_paid_14 hw
  · have hw := hw.2 hc
    refine g_iload_n dX11_paid_4 rfl rfl ?_
    refine g_sipush (v := 9999) dX11_paid_5 (by decide) ?_
    refine g_icmp_le 15 dX11_paid_8 rfl (fun hc => ?_) (fun hc => ?_)
    · have hw := hw.1 hc
      refine g_aload_n dX11_paid_15 rfl rfl ?_
      refine g_getO dX11_paid_16 fl_X11_79 sh0 rfl ?_
      refine g_aload_n dX11_paid_19 rfl rfl ?_
      refine g_getO dX11_paid_20 fl_X11_27 sh0 rfl ?_
      refine g_aload_n dX11_paid_23 rfl rfl ?_
      refine g_getO dX11_paid_24 fl_X11_34 sh0 rfl ?_
      refine g_callVV [.ref (gAd G 14), .ref (gAd G 20)] (ci := 1) dX11_paid_27 ml_X11_319 mk_X1_follow rfl rfl sh87 (Nat.le_of_ble_eq_true rfl) (Nat.le_of_ble_eq_true rfl) rfl (c_Going_follow sh20 hw) (fun h1 hw => ?_)
      refine g_aload_n dX11_paid_30 rfl rfl ?_
      refine g_getO dX11_paid_31 fl_X11_34 sh0 rfl ?_
      refine g_getJ dX11_paid_34 fl_X11_181 sh20 rfl ?_
      refine g_aload_n dX11_paid_37 rfl rfl ?_
      refine g_getO dX11_paid_38 fl_X11_79 sh0 rfl ?_
      refine g_iload_n dX11_paid_41 rfl rfl ?_
      refine g_callVJ [.int x1] (ci := 1) dX11_paid_42 ml_X11_337 mk_X1_leastPaid rfl rfl sh87 (Nat.le_of_ble_eq_true rfl) (Nat.le_of_ble_eq_true rfl) rfl (c_Going_leastPaid hw) (fun r2 h3 hw => ?_)
      refine g_ladd dX11_paid_45 ?_
      exact g_lret dX11_paid_46 hw
    · have hw := hw.2 hc
      refine g_ldc2 dX11_paid_11 kl_X11_189 ?_
      exact g_lret dX11_paid_14 hw
theorem dX11_isRow_0 : decode cX11_isRow 0 = .ok (.iload_n 0, 1) := by decide +kernel
theorem dX11_isRow_1 : decode cX11_isRow 1 = .ok (.ifCond .lt 13, 3) := by decide +kernel
theorem dX11_isRow_4 : decode cX11_isRow 4 = .ok (.iload_n 0, 1) := by decide +kernel
theorem dX11_isRow_5 : decode cX11_isRow 5 = .ok (.bipush 6, 2) := by decide +kernel
theorem dX11_isRow_7 : decode cX11_isRow 7 = .ok (.if_icmp .gt 7, 3) := by decide +kernel
theorem dX11_isRow_10 : decode cX11_isRow 10 = .ok (.iconst 1, 1) := by decide +kernel
theorem dX11_isRow_11 : decode cX11_isRow 11 = .ok (.goto 4, 3) := by decide +kernel
theorem dX11_isRow_14 : decode cX11_isRow 14 = .ok (.iconst 0, 1) := by decide +kernel
theorem dX11_isRow_15 : decode cX11_isRow 15 = .ok (.ireturn, 1) := by decide +kernel
def C_isRow (x0 : Int32) (h : Hp) (Q : Int32 → Hp → Prop) : Prop := (x0 < 0 → Q 0 h) ∧ (¬ x0 < 0 → (6 < x0 → Q 0 h) ∧ (¬ 6 < x0 → Q 1 h))
set_option maxHeartbeats 4000000 in
set_option maxRecDepth 20000 in
theorem c_C_isRow {G : Gx}  {x0 : Int32} {h : Hp} {Q : Int32 → Hp → Prop} (hw : C_isRow x0 h Q) : Ct yX11_isRow cX11_isRow 1 (some .boolean) 1 G [.int x0] h (QI G Q) := by
  refine ct_go [(0, .int x0)] (plainFor_of_name (by decide)) rfl (Nat.le_of_ble_eq_true rfl) rfl ?_
  refine g_iload_n dX11_isRow_0 rfl rfl ?_
  refine g_if_lt 14 dX11_isRow_1 rfl (fun hc => ?_) (fun hc => ?_)
  · have hw := hw.1 hc
    refine g_iconst (v := 0) dX11_isRow_14 (by decide) ?_
    exact g_zret dX11_isRow_15 rfl hw
  · have hw := hw.2 hc
    refine g_iload_n dX11_isRow_4 rfl rfl ?_
    refine g_bipush (v := 6) dX11_isRow_5 (by decide) ?_
    refine g_icmp_gt 14 dX11_isRow_7 rfl (fun hc => ?_) (fun hc => ?_)
    · have hw := hw.1 hc
      refine g_iconst (v := 0) dX11_isRow_14 (by decide) ?_
      exact g_zret dX11_isRow_15 rfl hw
    · have hw := hw.2 hc
      refine g_iconst (v := 1) dX11_isRow_10 (by decide) ?_
      refine g_goto 15 dX11_isRow_11 rfl ?_
      exact g_zret dX11_isRow_15 rfl hw
theorem dX7_begin_0 : decode cX7_begin 0 = .ok (.aload_n 0, 1) := by decide +kernel
theorem dX7_begin_1 : decode cX7_begin 1 = .ok (.iconst 0, 1) := by decide +kernel
theorem dX7_begin_2 : decode cX7_begin 2 = .ok (.putfield 21, 3) := by decide +kernel
theorem dX7_begin_5 : decode cX7_begin 5 = .ok (.aload_n 0, 1) := by decide +kernel
theorem dX7_begin_6 : decode cX7_begin 6 = .ok (.iconst 1, 1) := by decide +kernel
theorem dX7_begin_7 : decode cX7_begin 7 = .ok (.putfield 25, 3) := by decide +kernel
theorem dX7_begin_10 : decode cX7_begin 10 = .ok (.iconst 0, 1) := by decide +kernel
theorem dX7_begin_11 : decode cX7_begin 11 = .ok (.istore_n 2, 1) := by decide +kernel
theorem dX7_begin_12 : decode cX7_begin 12 = .ok (.iload_n 2, 1) := by decide +kernel
theorem dX7_begin_13 : decode cX7_begin 13 = .ok (.bipush 8, 2) := by decide +kernel
theorem dX7_begin_15 : decode cX7_begin 15 = .ok (.if_icmp .ge 25, 3) := by decide +kernel
theorem dX7_begin_18 : decode cX7_begin 18 = .ok (.aload_n 0, 1) := by decide +kernel
theorem dX7_begin_19 : decode cX7_begin 19 = .ok (.getfield 11, 3) := by decide +kernel
theorem dX7_begin_22 : decode cX7_begin 22 = .ok (.iload_n 2, 1) := by decide +kernel
theorem dX7_begin_23 : decode cX7_begin 23 = .ok (.iload_n 2, 1) := by decide +kernel
theorem dX7_begin_24 : decode cX7_begin 24 = .ok (.iload_n 1, 1) := by decide +kernel
theorem dX7_begin_25 : decode cX7_begin 25 = .ok (.if_icmp .ne 7, 3) := by decide +kernel
theorem dX7_begin_28 : decode cX7_begin 28 = .ok (.iconst 1, 1) := by decide +kernel
theorem dX7_begin_29 : decode cX7_begin 29 = .ok (.goto 4, 3) := by decide +kernel
theorem dX7_begin_32 : decode cX7_begin 32 = .ok (.iconst 0, 1) := by decide +kernel
theorem dX7_begin_33 : decode cX7_begin 33 = .ok (.iastore, 1) := by decide +kernel
theorem dX7_begin_34 : decode cX7_begin 34 = .ok (.iinc 2 1, 3) := by decide +kernel
theorem dX7_begin_37 : decode cX7_begin 37 = .ok (.goto (-25), 3) := by decide +kernel
theorem dX7_begin_40 : decode cX7_begin 40 = .ok (.return_, 1) := by decide +kernel
theorem fl_X7_21 : FLk RX7 21 7 3 := ⟨_, rfl, by decide, mW 348 (by decide +kernel) rfl⟩
theorem pf_7_3 : parseFieldDescriptor (uD 7 3) = some .int := by decide +kernel
theorem fl_X7_25 : FLk RX7 25 7 4 := ⟨_, rfl, by decide, mW 349 (by decide +kernel) rfl⟩
theorem pf_7_4 : parseFieldDescriptor (uD 7 4) = some .int := by decide +kernel
theorem fl_X7_11 : FLk RX7 11 7 0 := ⟨_, rfl, by decide, mW 345 (by decide +kernel) rfl⟩
def Sums_begin_L12 (x1 : Int32) (Q : Hp → Prop) : Nat → Int32 → Hp → Prop
  | 0, _, _ => False
  | n + 1, x2, h => (8 ≤ x2 → Q h) ∧ (¬ 8 ≤ x2 → ∀ J33 : Int32 → Hp → Prop, J33 = (fun s3 h4 => vp_in x2 9512 ∧ ∀ h5 : Hp, h5 = sI h4 93 (x2).toNatClampNeg s3 → ∀ v6 : Int32, v6 = (x2 + 1) → Sums_begin_L12 x1 Q n v6 h5) → (¬ x2 = x1 → J33 0 h) ∧ (x2 = x1 → J33 1 h))
set_option maxHeartbeats 4000000 in
set_option maxRecDepth 20000 in
theorem gl_Sums_begin_L12 {G : Gx}  {x1 : Int32} {Q : Hp → Prop} : ∀ (n : Nat) (x2 : Int32) (h : Hp), Sums_begin_L12 x1 Q n x2 h → Go cX7_begin 3 RX7 none 1 G (QV G Q) 12 [(0, .ref (gAd G 92)), (1, .int x1), (2, .int x2)] [] h := by
  intro n
  induction n with
  | zero => intro _ h hw; exact False.elim hw
  | succ n ih =>
    intro x2 h hw
    refine g_iload_n dX7_begin_12 rfl rfl ?_
    refine g_bipush (v := 8) dX7_begin_13 (by decide) ?_
    refine g_icmp_ge 40 dX7_begin_15 rfl (fun hc => ?_) (fun hc => ?_)
    · have hw := hw.1 hc
      exact g_vret dX7_begin_40 hw
    · have hw := hw.2 hc
      refine g_aload_n dX7_begin_18 rfl rfl ?_
      refine g_getA dX7_begin_19 fl_X7_11 sh92 rfl ?_
      refine g_iload_n dX7_begin_22 rfl rfl ?_
      refine g_iload_n dX7_begin_23 rfl rfl ?_
      refine g_iload_n dX7_begin_24 rfl rfl ?_
      refine jn_el hw (fun J33 eJ33 hw => ?_)
      have hJ33 : ∀ (s3 : Int32) (h4 : Hp), J33 s3 h4 → Go cX7_begin 3 RX7 none 1 G (QV G Q) 33 [(0, .ref (gAd G 92)), (1, .int x1), (2, .int x2)] [.int s3, .int x2, .ref (gAd G 93)] h4 := by
        intro s3 h4 hw
        subst eJ33
        refine g_iast dX7_begin_33 ia93 al93 hw.1 ?_
        have hw := hw.2
        refine g_heap (fun h5 eh5 => ?_)
        have hw := hw h5 eh5
        obtain ⟨v6, ev6⟩ : ∃ y : Int32, y = (x2 + 1) := ⟨_, rfl⟩
        have hw := hw v6 ev6
        refine g_iinc dX7_begin_34 rfl (by rw [ev6]; rfl) (by decide) (lv1 := [(0, .ref (gAd G 92)), (1, .int x1), (2, .int v6)]) rfl ?_
        refine g_goto 12 dX7_begin_37 rfl ?_
        exact ih _ _ hw
      refine g_icmp_ne 32 dX7_begin_25 rfl (fun hc => ?_) (fun hc => ?_)
      · have hw := hw.1 hc
        refine g_iconst (v := 0) dX7_begin_32 (by decide) ?_
        exact hJ33 _ _ hw
      · have hw := hw.2 hc
        refine g_iconst (v := 1) dX7_begin_28 (by decide) ?_
        refine g_goto 33 dX7_begin_29 rfl ?_
        exact hJ33 _ _ hw
def Sums_begin (x1 : Int32) (h : Hp) (Q : Hp → Prop) : Prop := ∀ h1 : Hp, h1 = sI h 92 3 0 → ∀ h2 : Hp, h2 = sI h1 92 4 1 → ∃ n7, Sums_begin_L12 x1 Q n7 0 h2
set_option maxHeartbeats 4000000 in
set_option maxRecDepth 20000 in
theorem c_Sums_begin {G : Gx}  {x1 : Int32} {h : Hp} {Q : Hp → Prop} (hw : Sums_begin x1 h Q) : Ct yX7_begin cX7_begin 3 none 1 G [.ref (gAd G 92), .int x1] h (QV G Q) := by
  refine ct_go [(0, .ref (gAd G 92)), (1, .int x1)] (plainFor_of_name (by decide)) rfl (Nat.le_of_ble_eq_true rfl) rfl ?_
  refine g_aload_n dX7_begin_0 rfl rfl ?_
  refine g_iconst (v := 0) dX7_begin_1 (by decide) ?_
  refine g_putI dX7_begin_2 fl_X7_21 sh92 rfl rfl pf_7_3 ?_
  refine g_heap (fun h1 eh1 => ?_)
  have hw := hw h1 eh1
  refine g_aload_n dX7_begin_5 rfl rfl ?_
  refine g_iconst (v := 1) dX7_begin_6 (by decide) ?_
  refine g_putI dX7_begin_7 fl_X7_25 sh92 rfl rfl pf_7_4 ?_
  refine g_heap (fun h2 eh2 => ?_)
  have hw := hw h2 eh2
  refine g_iconst (v := 0) dX7_begin_10 (by decide) ?_
  refine g_istore_n dX7_begin_11 rfl (by decide) (lv1 := [(0, .ref (gAd G 92)), (1, .int x1), (2, .int 0)]) rfl ?_
  obtain ⟨n7, hw⟩ := hw
  refine gl_Sums_begin_L12   _ _ _ hw
theorem dX2_leastPaid_0 : decode cX2_leastPaid 0 = .ok (.iconst 0, 1) := by decide +kernel
theorem dX2_leastPaid_1 : decode cX2_leastPaid 1 = .ok (.istore_n 2, 1) := by decide +kernel
theorem dX2_leastPaid_2 : decode cX2_leastPaid 2 = .ok (.iconst 0, 1) := by decide +kernel
theorem dX2_leastPaid_3 : decode cX2_leastPaid 3 = .ok (.istore_n 3, 1) := by decide +kernel
theorem dX2_leastPaid_4 : decode cX2_leastPaid 4 = .ok (.iload_n 3, 1) := by decide +kernel
theorem dX2_leastPaid_5 : decode cX2_leastPaid 5 = .ok (.bipush 16, 2) := by decide +kernel
theorem dX2_leastPaid_7 : decode cX2_leastPaid 7 = .ok (.if_icmp .ge 33, 3) := by decide +kernel
theorem dX2_leastPaid_10 : decode cX2_leastPaid 10 = .ok (.aload_n 0, 1) := by decide +kernel
theorem dX2_leastPaid_11 : decode cX2_leastPaid 11 = .ok (.iload_n 1, 1) := by decide +kernel
theorem dX2_leastPaid_12 : decode cX2_leastPaid 12 = .ok (.iload_n 3, 1) := by decide +kernel
theorem dX2_leastPaid_13 : decode cX2_leastPaid 13 = .ok (.invokevirtual 65, 3) := by decide +kernel
theorem dX2_leastPaid_16 : decode cX2_leastPaid 16 = .ok (.ifCond .eq 16, 3) := by decide +kernel
theorem dX2_leastPaid_19 : decode cX2_leastPaid 19 = .ok (.iload_n 2, 1) := by decide +kernel
theorem dX2_leastPaid_20 : decode cX2_leastPaid 20 = .ok (.aload_n 0, 1) := by decide +kernel
theorem dX2_leastPaid_21 : decode cX2_leastPaid 21 = .ok (.iload_n 1, 1) := by decide +kernel
theorem dX2_leastPaid_22 : decode cX2_leastPaid 22 = .ok (.iload_n 3, 1) := by decide +kernel
theorem dX2_leastPaid_23 : decode cX2_leastPaid 23 = .ok (.invokevirtual 69, 3) := by decide +kernel
theorem dX2_leastPaid_26 : decode cX2_leastPaid 26 = .ok (.invokestatic 72, 3) := by decide +kernel
theorem dX2_leastPaid_29 : decode cX2_leastPaid 29 = .ok (.goto 4, 3) := by decide +kernel
theorem dX2_leastPaid_32 : decode cX2_leastPaid 32 = .ok (.iload_n 2, 1) := by decide +kernel
theorem dX2_leastPaid_33 : decode cX2_leastPaid 33 = .ok (.istore_n 2, 1) := by decide +kernel
theorem dX2_leastPaid_34 : decode cX2_leastPaid 34 = .ok (.iinc 3 1, 3) := by decide +kernel
theorem dX2_leastPaid_37 : decode cX2_leastPaid 37 = .ok (.goto (-33), 3) := by decide +kernel
theorem dX2_leastPaid_40 : decode cX2_leastPaid 40 = .ok (.iload_n 2, 1) := by decide +kernel
theorem dX2_leastPaid_41 : decode cX2_leastPaid 41 = .ok (.ireturn, 1) := by decide +kernel
theorem ml_X2_65 : Cond.methodLink RX2 65 yX2_isOpen ∈ Wd := mW 1224 (by decide +kernel) rfl
theorem ml_X2_69 : Cond.methodLink RX2 69 yX2_payOf ∈ Wd := mW 1225 (by decide +kernel) rfl
theorem ml_X2_72 : Cond.methodLink RX2 72 yJ9_min_7cf53 ∈ Wd := mW 1226 (by decide +kernel) rfl
def Land_leastPaid_L4 (x1 : Int32) (Q : Int32 → Hp → Prop) : Nat → Int32 → Int32 → Hp → Prop
  | 0, _, _, _ => False
  | n + 1, x2, x3, h => (16 ≤ x3 → Q x2 h) ∧ (¬ 16 ≤ x3 → Land_isOpen x1 x3 h (fun r1 h2 => ∀ J33 : Int32 → Hp → Prop, J33 = (fun s3 h4 => ∀ v5 : Int32, v5 = (x3 + 1) → Land_leastPaid_L4 x1 Q n s3 v5 h4) → (r1 = 0 → J33 x2 h2) ∧ (¬ r1 = 0 → Land_payOf x1 x3 h2 (fun r6 h7 => J9_min_7cf53 x2 r6 h7 (fun r8 h9 => J33 r8 h9)))))
set_option maxHeartbeats 4000000 in
set_option maxRecDepth 20000 in
theorem gl_Land_leastPaid_L4 {G : Gx}  {x1 : Int32} {Q : Int32 → Hp → Prop} : ∀ (n : Nat) (x2 : Int32) (x3 : Int32) (h : Hp), Land_leastPaid_L4 x1 Q n x2 x3 h → Go cX2_leastPaid 4 RX2 (some .int) 3 G (QI G Q) 4 [(0, .ref (gAd G 14)), (1, .int x1), (2, .int x2), (3, .int x3)] [] h := by
  intro n
  induction n with
  | zero => intro _ _ h hw; exact False.elim hw
  | succ n ih =>
    intro x2 x3 h hw
    refine g_iload_n dX2_leastPaid_4 rfl rfl ?_
    refine g_bipush (v := 16) dX2_leastPaid_5 (by decide) ?_
    refine g_icmp_ge 40 dX2_leastPaid_7 rfl (fun hc => ?_) (fun hc => ?_)
    · have hw := hw.1 hc
      refine g_iload_n dX2_leastPaid_40 rfl rfl ?_
      exact g_iret dX2_leastPaid_41 hw
    · have hw := hw.2 hc
      refine g_aload_n dX2_leastPaid_10 rfl rfl ?_
      refine g_iload_n dX2_leastPaid_11 rfl rfl ?_
      refine g_iload_n dX2_leastPaid_12 rfl rfl ?_
      refine g_callVI [.int x1, .int x3] (ci := 2) dX2_leastPaid_13 ml_X2_65 mk_X2_isOpen rfl rfl sh14 (Nat.le_of_ble_eq_true rfl) (Nat.le_of_ble_eq_true rfl) rfl (c_Land_isOpen hw) (fun r1 h2 hw => ?_)
      refine jn_el hw (fun J33 eJ33 hw => ?_)
      have hJ33 : ∀ (s3 : Int32) (h4 : Hp), J33 s3 h4 → Go cX2_leastPaid 4 RX2 (some .int) 3 G (QI G Q) 33 [(0, .ref (gAd G 14)), (1, .int x1), (3, .int x3)] [.int s3] h4 := by
        intro s3 h4 hw
        subst eJ33
        refine g_istore_n dX2_leastPaid_33 rfl (by decide) (lv1 := [(0, .ref (gAd G 14)), (1, .int x1), (2, .int s3), (3, .int x3)]) rfl ?_
        obtain ⟨v5, ev5⟩ : ∃ y : Int32, y = (x3 + 1) := ⟨_, rfl⟩
        have hw := hw v5 ev5
        refine g_iinc dX2_leastPaid_34 rfl (by rw [ev5]; rfl) (by decide) (lv1 := [(0, .ref (gAd G 14)), (1, .int x1), (2, .int s3), (3, .int v5)]) rfl ?_
        refine g_goto 4 dX2_leastPaid_37 rfl ?_
        exact ih _ _ _ hw
      refine g_if_eq 32 dX2_leastPaid_16 rfl (fun hc => ?_) (fun hc => ?_)
      · have hw := hw.1 hc
        refine g_iload_n dX2_leastPaid_32 rfl rfl ?_
        refine g_lv [0, 1, 3] rfl ?_
        exact hJ33 _ _ hw
      · have hw := hw.2 hc
        refine g_iload_n dX2_leastPaid_19 rfl rfl ?_
        refine g_aload_n dX2_leastPaid_20 rfl rfl ?_
        refine g_iload_n dX2_leastPaid_21 rfl rfl ?_
        refine g_iload_n dX2_leastPaid_22 rfl rfl ?_
        refine g_callVI [.int x1, .int x3] (ci := 2) dX2_leastPaid_23 ml_X2_69 mk_X2_payOf rfl rfl sh14 (Nat.le_of_ble_eq_true rfl) (Nat.le_of_ble_eq_true rfl) rfl (c_Land_payOf hw) (fun r6 h7 hw => ?_)
        refine g_callSI [.int x2, .int r6] dX2_leastPaid_26 ml_X2_72 mk_J9_min_7cf53 rfl (Nat.le_of_ble_eq_true rfl) (Nat.le_of_ble_eq_true rfl) rfl (c_J9_min_7cf53 hw) (fun r8 h9 hw => ?_)
        refine g_goto 33 dX2_leastPaid_29 rfl ?_
        refine g_lv [0, 1, 3] rfl ?_
        exact hJ33 _ _ hw
def Land_leastPaid (x1 : Int32) (h : Hp) (Q : Int32 → Hp → Prop) : Prop := ∃ n10, Land_leastPaid_L4 x1 Q n10 0 0 h
set_option maxHeartbeats 4000000 in
set_option maxRecDepth 20000 in
theorem c_Land_leastPaid {G : Gx}  {x1 : Int32} {h : Hp} {Q : Int32 → Hp → Prop} (hw : Land_leastPaid x1 h Q) : Ct yX2_leastPaid cX2_leastPaid 4 (some .int) 3 G [.ref (gAd G 14), .int x1] h (QI G Q) := by
  refine ct_go [(0, .ref (gAd G 14)), (1, .int x1)] (plainFor_of_name (by decide)) rfl (Nat.le_of_ble_eq_true rfl) rfl ?_
  refine g_iconst (v := 0) dX2_leastPaid_0 (by decide) ?_
  refine g_istore_n dX2_leastPaid_1 rfl (by decide) (lv1 := [(0, .ref (gAd G 14)), (1, .int x1), (2, .int 0)]) rfl ?_
  refine g_iconst (v := 0) dX2_leastPaid_2 (by decide) ?_
  refine g_istore_n dX2_leastPaid_3 rfl (by decide) (lv1 := [(0, .ref (gAd G 14)), (1, .int x1), (2, .int 0), (3, .int 0)]) rfl ?_
  obtain ⟨n10, hw⟩ := hw
  refine gl_Land_leastPaid_L4   _ _ _ _ hw
theorem dX2_mostPaid_0 : decode cX2_mostPaid 0 = .ok (.iconst 0, 1) := by decide +kernel
theorem dX2_mostPaid_1 : decode cX2_mostPaid 1 = .ok (.istore_n 2, 1) := by decide +kernel
theorem dX2_mostPaid_2 : decode cX2_mostPaid 2 = .ok (.iconst 0, 1) := by decide +kernel
theorem dX2_mostPaid_3 : decode cX2_mostPaid 3 = .ok (.istore_n 3, 1) := by decide +kernel
theorem dX2_mostPaid_4 : decode cX2_mostPaid 4 = .ok (.iload_n 3, 1) := by decide +kernel
theorem dX2_mostPaid_5 : decode cX2_mostPaid 5 = .ok (.bipush 16, 2) := by decide +kernel
theorem dX2_mostPaid_7 : decode cX2_mostPaid 7 = .ok (.if_icmp .ge 33, 3) := by decide +kernel
theorem dX2_mostPaid_10 : decode cX2_mostPaid 10 = .ok (.aload_n 0, 1) := by decide +kernel
theorem dX2_mostPaid_11 : decode cX2_mostPaid 11 = .ok (.iload_n 1, 1) := by decide +kernel
theorem dX2_mostPaid_12 : decode cX2_mostPaid 12 = .ok (.iload_n 3, 1) := by decide +kernel
theorem dX2_mostPaid_13 : decode cX2_mostPaid 13 = .ok (.invokevirtual 65, 3) := by decide +kernel
theorem dX2_mostPaid_16 : decode cX2_mostPaid 16 = .ok (.ifCond .eq 16, 3) := by decide +kernel
theorem dX2_mostPaid_19 : decode cX2_mostPaid 19 = .ok (.iload_n 2, 1) := by decide +kernel
theorem dX2_mostPaid_20 : decode cX2_mostPaid 20 = .ok (.aload_n 0, 1) := by decide +kernel
theorem dX2_mostPaid_21 : decode cX2_mostPaid 21 = .ok (.iload_n 1, 1) := by decide +kernel
theorem dX2_mostPaid_22 : decode cX2_mostPaid 22 = .ok (.iload_n 3, 1) := by decide +kernel
theorem dX2_mostPaid_23 : decode cX2_mostPaid 23 = .ok (.invokevirtual 69, 3) := by decide +kernel
theorem dX2_mostPaid_26 : decode cX2_mostPaid 26 = .ok (.invokestatic 77, 3) := by decide +kernel
theorem dX2_mostPaid_29 : decode cX2_mostPaid 29 = .ok (.goto 4, 3) := by decide +kernel
theorem dX2_mostPaid_32 : decode cX2_mostPaid 32 = .ok (.iload_n 2, 1) := by decide +kernel
theorem dX2_mostPaid_33 : decode cX2_mostPaid 33 = .ok (.istore_n 2, 1) := by decide +kernel
theorem dX2_mostPaid_34 : decode cX2_mostPaid 34 = .ok (.iinc 3 1, 3) := by decide +kernel
theorem dX2_mostPaid_37 : decode cX2_mostPaid 37 = .ok (.goto (-33), 3) := by decide +kernel
theorem dX2_mostPaid_40 : decode cX2_mostPaid 40 = .ok (.iload_n 2, 1) := by decide +kernel
theorem dX2_mostPaid_41 : decode cX2_mostPaid 41 = .ok (.ireturn, 1) := by decide +kernel
theorem ml_X2_77 : Cond.methodLink RX2 77 yJ9_max_7cf53 ∈ Wd := mW 1231 (by decide +kernel) rfl
def Land_mostPaid_L4 (x1 : Int32) (Q : Int32 → Hp → Prop) : Nat → Int32 → Int32 → Hp → Prop
  | 0, _, _, _ => False
  | n + 1, x2, x3, h => (16 ≤ x3 → Q x2 h) ∧ (¬ 16 ≤ x3 → Land_isOpen x1 x3 h (fun r1 h2 => ∀ J33 : Int32 → Hp → Prop, J33 = (fun s3 h4 => ∀ v5 : Int32, v5 = (x3 + 1) → Land_mostPaid_L4 x1 Q n s3 v5 h4) → (r1 = 0 → J33 x2 h2) ∧ (¬ r1 = 0 → Land_payOf x1 x3 h2 (fun r6 h7 => J9_max_7cf53 x2 r6 h7 (fun r8 h9 => J33 r8 h9)))))
set_option maxHeartbeats 4000000 in
set_option maxRecDepth 20000 in
theorem gl_Land_mostPaid_L4 {G : Gx}  {x1 : Int32} {Q : Int32 → Hp → Prop} : ∀ (n : Nat) (x2 : Int32) (x3 : Int32) (h : Hp), Land_mostPaid_L4 x1 Q n x2 x3 h → Go cX2_mostPaid 4 RX2 (some .int) 3 G (QI G Q) 4 [(0, .ref (gAd G 14)), (1, .int x1), (2, .int x2), (3, .int x3)] [] h := by
  intro n
  induction n with
  | zero => intro _ _ h hw; exact False.elim hw
  | succ n ih =>
    intro x2 x3 h hw
    refine g_iload_n dX2_mostPaid_4 rfl rfl ?_
    refine g_bipush (v := 16) dX2_mostPaid_5 (by decide) ?_
    refine g_icmp_ge 40 dX2_mostPaid_7 rfl (fun hc => ?_) (fun hc => ?_)
    · have hw := hw.1 hc
      refine g_iload_n dX2_mostPaid_40 rfl rfl ?_
      exact g_iret dX2_mostPaid_41 hw
    · have hw := hw.2 hc
      refine g_aload_n dX2_mostPaid_10 rfl rfl ?_
      refine g_iload_n dX2_mostPaid_11 rfl rfl ?_
      refine g_iload_n dX2_mostPaid_12 rfl rfl ?_
      refine g_callVI [.int x1, .int x3] (ci := 2) dX2_mostPaid_13 ml_X2_65 mk_X2_isOpen rfl rfl sh14 (Nat.le_of_ble_eq_true rfl) (Nat.le_of_ble_eq_true rfl) rfl (c_Land_isOpen hw) (fun r1 h2 hw => ?_)
      refine jn_el hw (fun J33 eJ33 hw => ?_)
      have hJ33 : ∀ (s3 : Int32) (h4 : Hp), J33 s3 h4 → Go cX2_mostPaid 4 RX2 (some .int) 3 G (QI G Q) 33 [(0, .ref (gAd G 14)), (1, .int x1), (3, .int x3)] [.int s3] h4 := by
        intro s3 h4 hw
        subst eJ33
        refine g_istore_n dX2_mostPaid_33 rfl (by decide) (lv1 := [(0, .ref (gAd G 14)), (1, .int x1), (2, .int s3), (3, .int x3)]) rfl ?_
        obtain ⟨v5, ev5⟩ : ∃ y : Int32, y = (x3 + 1) := ⟨_, rfl⟩
        have hw := hw v5 ev5
        refine g_iinc dX2_mostPaid_34 rfl (by rw [ev5]; rfl) (by decide) (lv1 := [(0, .ref (gAd G 14)), (1, .int x1), (2, .int s3), (3, .int v5)]) rfl ?_
        refine g_goto 4 dX2_mostPaid_37 rfl ?_
        exact ih _ _ _ hw
      refine g_if_eq 32 dX2_mostPaid_16 rfl (fun hc => ?_) (fun hc => ?_)
      · have hw := hw.1 hc
        refine g_iload_n dX2_mostPaid_32 rfl rfl ?_
        refine g_lv [0, 1, 3] rfl ?_
        exact hJ33 _ _ hw
      · have hw := hw.2 hc
        refine g_iload_n dX2_mostPaid_19 rfl rfl ?_
        refine g_aload_n dX2_mostPaid_20 rfl rfl ?_
        refine g_iload_n dX2_mostPaid_21 rfl rfl ?_
        refine g_iload_n dX2_mostPaid_22 rfl rfl ?_
        refine g_callVI [.int x1, .int x3] (ci := 2) dX2_mostPaid_23 ml_X2_69 mk_X2_payOf rfl rfl sh14 (Nat.le_of_ble_eq_true rfl) (Nat.le_of_ble_eq_true rfl) rfl (c_Land_payOf hw) (fun r6 h7 hw => ?_)
        refine g_callSI [.int x2, .int r6] dX2_mostPaid_26 ml_X2_77 mk_J9_max_7cf53 rfl (Nat.le_of_ble_eq_true rfl) (Nat.le_of_ble_eq_true rfl) rfl (c_J9_max_7cf53 hw) (fun r8 h9 hw => ?_)
        refine g_goto 33 dX2_mostPaid_29 rfl ?_
        refine g_lv [0, 1, 3] rfl ?_
        exact hJ33 _ _ hw
def Land_mostPaid (x1 : Int32) (h : Hp) (Q : Int32 → Hp → Prop) : Prop := ∃ n10, Land_mostPaid_L4 x1 Q n10 0 0 h
set_option maxHeartbeats 4000000 in
set_option maxRecDepth 20000 in
theorem c_Land_mostPaid {G : Gx}  {x1 : Int32} {h : Hp} {Q : Int32 → Hp → Prop} (hw : Land_mostPaid x1 h Q) : Ct yX2_mostPaid cX2_mostPaid 4 (some .int) 3 G [.ref (gAd G 14), .int x1] h (QI G Q) := by
  refine ct_go [(0, .ref (gAd G 14)), (1, .int x1)] (plainFor_of_name (by decide)) rfl (Nat.le_of_ble_eq_true rfl) rfl ?_
  refine g_iconst (v := 0) dX2_mostPaid_0 (by decide) ?_
  refine g_istore_n dX2_mostPaid_1 rfl (by decide) (lv1 := [(0, .ref (gAd G 14)), (1, .int x1), (2, .int 0)]) rfl ?_
  refine g_iconst (v := 0) dX2_mostPaid_2 (by decide) ?_
  refine g_istore_n dX2_mostPaid_3 rfl (by decide) (lv1 := [(0, .ref (gAd G 14)), (1, .int x1), (2, .int 0), (3, .int 0)]) rfl ?_
  obtain ⟨n10, hw⟩ := hw
  refine gl_Land_mostPaid_L4   _ _ _ _ hw
theorem dX7_rowsAt_0 : decode cX7_rowsAt 0 = .ok (.iload_n 1, 1) := by decide +kernel
theorem dX7_rowsAt_1 : decode cX7_rowsAt 1 = .ok (.ifCond .lt 25, 3) := by decide +kernel
theorem dX7_rowsAt_4 : decode cX7_rowsAt 4 = .ok (.iload_n 1, 1) := by decide +kernel
theorem dX7_rowsAt_5 : decode cX7_rowsAt 5 = .ok (.aload_n 0, 1) := by decide +kernel
theorem dX7_rowsAt_6 : decode cX7_rowsAt 6 = .ok (.getfield 25, 3) := by decide +kernel
theorem dX7_rowsAt_9 : decode cX7_rowsAt 9 = .ok (.if_icmp .ge 17, 3) := by decide +kernel
theorem dX7_rowsAt_12 : decode cX7_rowsAt 12 = .ok (.iload_n 2, 1) := by decide +kernel
theorem dX7_rowsAt_13 : decode cX7_rowsAt 13 = .ok (.ifCond .lt 13, 3) := by decide +kernel
theorem dX7_rowsAt_16 : decode cX7_rowsAt 16 = .ok (.iload_n 2, 1) := by decide +kernel
theorem dX7_rowsAt_17 : decode cX7_rowsAt 17 = .ok (.bipush 8, 2) := by decide +kernel
theorem dX7_rowsAt_19 : decode cX7_rowsAt 19 = .ok (.if_icmp .ge 7, 3) := by decide +kernel
theorem dX7_rowsAt_22 : decode cX7_rowsAt 22 = .ok (.iconst 1, 1) := by decide +kernel
theorem dX7_rowsAt_23 : decode cX7_rowsAt 23 = .ok (.goto 4, 3) := by decide +kernel
theorem dX7_rowsAt_26 : decode cX7_rowsAt 26 = .ok (.iconst 0, 1) := by decide +kernel
theorem dX7_rowsAt_27 : decode cX7_rowsAt 27 = .ok (.istore_n 3, 1) := by decide +kernel
theorem dX7_rowsAt_28 : decode cX7_rowsAt 28 = .ok (.iload_n 3, 1) := by decide +kernel
theorem dX7_rowsAt_29 : decode cX7_rowsAt 29 = .ok (.ifCond .eq 17, 3) := by decide +kernel
theorem dX7_rowsAt_32 : decode cX7_rowsAt 32 = .ok (.aload_n 0, 1) := by decide +kernel
theorem dX7_rowsAt_33 : decode cX7_rowsAt 33 = .ok (.getfield 11, 3) := by decide +kernel
theorem dX7_rowsAt_36 : decode cX7_rowsAt 36 = .ok (.iload_n 1, 1) := by decide +kernel
theorem dX7_rowsAt_37 : decode cX7_rowsAt 37 = .ok (.bipush 8, 2) := by decide +kernel
theorem dX7_rowsAt_39 : decode cX7_rowsAt 39 = .ok (.imul, 1) := by decide +kernel
theorem dX7_rowsAt_40 : decode cX7_rowsAt 40 = .ok (.iload_n 2, 1) := by decide +kernel
theorem dX7_rowsAt_41 : decode cX7_rowsAt 41 = .ok (.iadd, 1) := by decide +kernel
theorem dX7_rowsAt_42 : decode cX7_rowsAt 42 = .ok (.iaload, 1) := by decide +kernel
theorem dX7_rowsAt_43 : decode cX7_rowsAt 43 = .ok (.goto 4, 3) := by decide +kernel
theorem dX7_rowsAt_46 : decode cX7_rowsAt 46 = .ok (.iconst 0, 1) := by decide +kernel
theorem dX7_rowsAt_47 : decode cX7_rowsAt 47 = .ok (.ireturn, 1) := by decide +kernel
def Sums_rowsAt (x1 : Int32) (x2 : Int32) (h : Hp) (Q : Int32 → Hp → Prop) : Prop := ∀ J27 : Int32 → Hp → Prop, J27 = (fun s1 h2 => (s1 = 0 → Q 0 h2) ∧ (¬ s1 = 0 → vp_in ((x1 * 8) + x2) 9512 ∧ Q (gI h2 93 (((x1 * 8) + x2)).toNatClampNeg) h2)) → ∀ J26 : Hp → Prop, J26 = (fun h3 => J27 0 h3) → (x1 < 0 → J26 h) ∧ (¬ x1 < 0 → ((gI h 92 4) ≤ x1 → J26 h) ∧ (¬ (gI h 92 4) ≤ x1 → (x2 < 0 → J26 h) ∧ (¬ x2 < 0 → (8 ≤ x2 → J26 h) ∧ (¬ 8 ≤ x2 → J27 1 h))))
set_option maxHeartbeats 4000000 in
set_option maxRecDepth 20000 in
theorem c_Sums_rowsAt {G : Gx}  {x1 : Int32} {x2 : Int32} {h : Hp} {Q : Int32 → Hp → Prop} (hw : Sums_rowsAt x1 x2 h Q) : Ct yX7_rowsAt cX7_rowsAt 4 (some .int) 1 G [.ref (gAd G 92), .int x1, .int x2] h (QI G Q) := by
  refine ct_go [(0, .ref (gAd G 92)), (1, .int x1), (2, .int x2)] (plainFor_of_name (by decide)) rfl (Nat.le_of_ble_eq_true rfl) rfl ?_
  refine g_iload_n dX7_rowsAt_0 rfl rfl ?_
  refine jn_el hw (fun J27 eJ27 hw => ?_)
  have hJ27 : ∀ (s1 : Int32) (h2 : Hp), J27 s1 h2 → Go cX7_rowsAt 4 RX7 (some .int) 1 G (QI G Q) 27 [(0, .ref (gAd G 92)), (1, .int x1), (2, .int x2)] [.int s1] h2 := by
    intro s1 h2 hw
    subst eJ27
    refine g_istore_n dX7_rowsAt_27 rfl (by decide) (lv1 := [(0, .ref (gAd G 92)), (1, .int x1), (2, .int x2), (3, .int s1)]) rfl ?_
    refine g_iload_n dX7_rowsAt_28 rfl rfl ?_
    refine g_if_eq 46 dX7_rowsAt_29 rfl (fun hc => ?_) (fun hc => ?_)
    · have hw := hw.1 hc
      refine g_iconst (v := 0) dX7_rowsAt_46 (by decide) ?_
      exact g_iret dX7_rowsAt_47 hw
    · have hw := hw.2 hc
      refine g_aload_n dX7_rowsAt_32 rfl rfl ?_
      refine g_getA dX7_rowsAt_33 fl_X7_11 sh92 rfl ?_
      refine g_iload_n dX7_rowsAt_36 rfl rfl ?_
      refine g_bipush (v := 8) dX7_rowsAt_37 (by decide) ?_
      refine g_imul dX7_rowsAt_39 ?_
      refine g_iload_n dX7_rowsAt_40 rfl rfl ?_
      refine g_iadd dX7_rowsAt_41 ?_
      refine g_iald dX7_rowsAt_42 ia93 al93 hw.1 ?_
      have hw := hw.2
      refine g_goto 47 dX7_rowsAt_43 rfl ?_
      exact g_iret dX7_rowsAt_47 hw
  refine jn_el hw (fun J26 eJ26 hw => ?_)
  have hJ26 : ∀ (h3 : Hp), J26 h3 → Go cX7_rowsAt 4 RX7 (some .int) 1 G (QI G Q) 26 [(0, .ref (gAd G 92)), (1, .int x1), (2, .int x2)] [] h3 := by
    intro h3 hw
    subst eJ26
    refine g_iconst (v := 0) dX7_rowsAt_26 (by decide) ?_
    exact hJ27 _ _ hw
  refine g_if_lt 26 dX7_rowsAt_1 rfl (fun hc => ?_) (fun hc => ?_)
  · have hw := hw.1 hc
    exact hJ26 _ hw
  · have hw := hw.2 hc
    refine g_iload_n dX7_rowsAt_4 rfl rfl ?_
    refine g_aload_n dX7_rowsAt_5 rfl rfl ?_
    refine g_getI dX7_rowsAt_6 fl_X7_25 sh92 rfl ?_
    refine g_icmp_ge 26 dX7_rowsAt_9 rfl (fun hc => ?_) (fun hc => ?_)
    · have hw := hw.1 hc
      exact hJ26 _ hw
    · have hw := hw.2 hc
      refine g_iload_n dX7_rowsAt_12 rfl rfl ?_
      refine g_if_lt 26 dX7_rowsAt_13 rfl (fun hc => ?_) (fun hc => ?_)
      · have hw := hw.1 hc
        exact hJ26 _ hw
      · have hw := hw.2 hc
        refine g_iload_n dX7_rowsAt_16 rfl rfl ?_
        refine g_bipush (v := 8) dX7_rowsAt_17 (by decide) ?_
        refine g_icmp_ge 26 dX7_rowsAt_19 rfl (fun hc => ?_) (fun hc => ?_)
        · have hw := hw.1 hc
          exact hJ26 _ hw
        · have hw := hw.2 hc
          refine g_iconst (v := 1) dX7_rowsAt_22 (by decide) ?_
          refine g_goto 27 dX7_rowsAt_23 rfl ?_
          exact hJ27 _ _ hw
theorem dX7_arrive_0 : decode cX7_arrive 0 = .ok (.aload_n 1, 1) := by decide +kernel
theorem dX7_arrive_1 : decode cX7_arrive 1 = .ok (.iconst (-1), 1) := by decide +kernel
theorem dX7_arrive_2 : decode cX7_arrive 2 = .ok (.iload_n 2, 1) := by decide +kernel
theorem dX7_arrive_3 : decode cX7_arrive 3 = .ok (.invokevirtual 76, 3) := by decide +kernel
theorem dX7_arrive_6 : decode cX7_arrive 6 = .ok (.istore 4, 2) := by decide +kernel
theorem dX7_arrive_8 : decode cX7_arrive 8 = .ok (.iload 4, 2) := by decide +kernel
theorem dX7_arrive_10 : decode cX7_arrive 10 = .ok (.ifCond .lt 42, 3) := by decide +kernel
theorem dX7_arrive_13 : decode cX7_arrive 13 = .ok (.iload 4, 2) := by decide +kernel
theorem dX7_arrive_15 : decode cX7_arrive 15 = .ok (.aload_n 0, 1) := by decide +kernel
theorem dX7_arrive_16 : decode cX7_arrive 16 = .ok (.getfield 18, 3) := by decide +kernel
theorem dX7_arrive_19 : decode cX7_arrive 19 = .ok (.arraylength, 1) := by decide +kernel
theorem dX7_arrive_20 : decode cX7_arrive 20 = .ok (.if_icmp .ge 32, 3) := by decide +kernel
theorem dX7_arrive_23 : decode cX7_arrive 23 = .ok (.aload_n 1, 1) := by decide +kernel
theorem dX7_arrive_24 : decode cX7_arrive 24 = .ok (.iload_n 2, 1) := by decide +kernel
theorem dX7_arrive_25 : decode cX7_arrive 25 = .ok (.invokevirtual 79, 3) := by decide +kernel
theorem dX7_arrive_28 : decode cX7_arrive 28 = .ok (.ifCond .eq 24, 3) := by decide +kernel
theorem dX7_arrive_31 : decode cX7_arrive 31 = .ok (.aload_n 0, 1) := by decide +kernel
theorem dX7_arrive_32 : decode cX7_arrive 32 = .ok (.getfield 18, 3) := by decide +kernel
theorem dX7_arrive_35 : decode cX7_arrive 35 = .ok (.iload 4, 2) := by decide +kernel
theorem dX7_arrive_37 : decode cX7_arrive 37 = .ok (.dup2, 1) := by decide +kernel
theorem dX7_arrive_38 : decode cX7_arrive 38 = .ok (.iaload, 1) := by decide +kernel
theorem dX7_arrive_39 : decode cX7_arrive 39 = .ok (.aload_n 0, 1) := by decide +kernel
theorem dX7_arrive_40 : decode cX7_arrive 40 = .ok (.iload_n 3, 1) := by decide +kernel
theorem dX7_arrive_41 : decode cX7_arrive 41 = .ok (.aload_n 1, 1) := by decide +kernel
theorem dX7_arrive_42 : decode cX7_arrive 42 = .ok (.getfield 83, 3) := by decide +kernel
theorem dX7_arrive_45 : decode cX7_arrive 45 = .ok (.iload_n 2, 1) := by decide +kernel
theorem dX7_arrive_46 : decode cX7_arrive 46 = .ok (.iaload, 1) := by decide +kernel
theorem dX7_arrive_47 : decode cX7_arrive 47 = .ok (.invokevirtual 61, 3) := by decide +kernel
theorem dX7_arrive_50 : decode cX7_arrive 50 = .ok (.iadd, 1) := by decide +kernel
theorem dX7_arrive_51 : decode cX7_arrive 51 = .ok (.iastore, 1) := by decide +kernel
theorem dX7_arrive_52 : decode cX7_arrive 52 = .ok (.return_, 1) := by decide +kernel
theorem ml_X7_76 : Cond.methodLink RX7 76 yX2_target ∈ Wd := mW 1242 (by decide +kernel) rfl
theorem fl_X7_18 : FLk RX7 18 7 2 := ⟨_, rfl, by decide, mW 347 (by decide +kernel) rfl⟩
theorem ml_X7_79 : Cond.methodLink RX7 79 yX2_hasRoad ∈ Wd := mW 1243 (by decide +kernel) rfl
theorem fl_X7_83 : FLk RX7 83 2 4 := ⟨_, rfl, by decide, mW 158 (by decide +kernel) rfl⟩
theorem ml_X7_61 : Cond.methodLink RX7 61 yX7_rowsAt ∈ Wd := mW 1233 (by decide +kernel) rfl
theorem mk_X7_rowsAt : MokV yX7_rowsAt cX7_rowsAt 4 (some .int) 2 := ⟨⟨mW 12 (by decide +kernel) rfl, mW 1236 (by decide +kernel) rfl, ⟨by decide, by decide, by decide +kernel⟩, by decide⟩, mW 1235 (by decide +kernel) rfl, mS (q := (yX7_rowsAt, 5)) 44 (by decide +kernel)⟩
def Sums_arrive (x2 : Int32) (x3 : Int32) (h : Hp) (Q : Hp → Prop) : Prop := Land_target (-1) x2 h (fun r1 h2 => (r1 < 0 → Q h2) ∧ (¬ r1 < 0 → (8 ≤ r1 → Q h2) ∧ (¬ 8 ≤ r1 → Land_hasRoad x2 h2 (fun r3 h4 => (r3 = 0 → Q h4) ∧ (¬ r3 = 0 → vp_in r1 8 ∧ vp_in x2 16 ∧ Sums_rowsAt x3 (gI h4 15 (x2).toNatClampNeg) h4 (fun r5 h6 => vp_in r1 8 ∧ ∀ h7 : Hp, h7 = sI h6 95 (r1).toNatClampNeg ((gI h4 95 (r1).toNatClampNeg) + r5) → Q h7))))))
set_option maxHeartbeats 4000000 in
set_option maxRecDepth 20000 in
theorem c_Sums_arrive {G : Gx}  {x2 : Int32} {x3 : Int32} {h : Hp} {Q : Hp → Prop} (hw : Sums_arrive x2 x3 h Q) : Ct yX7_arrive cX7_arrive 5 none 3 G [.ref (gAd G 92), .ref (gAd G 14), .int x2, .int x3] h (QV G Q) := by
  refine ct_go [(0, .ref (gAd G 92)), (1, .ref (gAd G 14)), (2, .int x2), (3, .int x3)] (plainFor_of_name (by decide)) rfl (Nat.le_of_ble_eq_true rfl) rfl ?_
  refine g_aload_n dX7_arrive_0 rfl rfl ?_
  refine g_iconst (v := (-1)) dX7_arrive_1 (by decide) ?_
  refine g_iload_n dX7_arrive_2 rfl rfl ?_
  refine g_callVI [.int (-1), .int x2] (ci := 2) dX7_arrive_3 ml_X7_76 mk_X2_target rfl rfl sh14 (Nat.le_of_ble_eq_true rfl) (Nat.le_of_ble_eq_true rfl) rfl (c_Land_target hw) (fun r1 h2 hw => ?_)
  refine g_istore dX7_arrive_6 (by decide) (lv1 := [(0, .ref (gAd G 92)), (1, .ref (gAd G 14)), (2, .int x2), (3, .int x3), (4, .int r1)]) rfl ?_
  refine g_iload dX7_arrive_8 rfl ?_
  refine g_if_lt 52 dX7_arrive_10 rfl (fun hc => ?_) (fun hc => ?_)
  · have hw := hw.1 hc
    exact g_vret dX7_arrive_52 hw
  · have hw := hw.2 hc
    refine g_iload dX7_arrive_13 rfl ?_
    refine g_aload_n dX7_arrive_15 rfl rfl ?_
    refine g_getA dX7_arrive_16 fl_X7_18 sh92 rfl ?_
    refine g_alen dX7_arrive_19 ia95 (by decide) al95 (v := 8) (by decide) ?_
    refine g_icmp_ge 52 dX7_arrive_20 rfl (fun hc => ?_) (fun hc => ?_)
    · have hw := hw.1 hc
      exact g_vret dX7_arrive_52 hw
    · have hw := hw.2 hc
      refine g_aload_n dX7_arrive_23 rfl rfl ?_
      refine g_iload_n dX7_arrive_24 rfl rfl ?_
      refine g_callVI [.int x2] (ci := 2) dX7_arrive_25 ml_X7_79 mk_X2_hasRoad rfl rfl sh14 (Nat.le_of_ble_eq_true rfl) (Nat.le_of_ble_eq_true rfl) rfl (c_Land_hasRoad hw) (fun r3 h4 hw => ?_)
      refine g_if_eq 52 dX7_arrive_28 rfl (fun hc => ?_) (fun hc => ?_)
      · have hw := hw.1 hc
        exact g_vret dX7_arrive_52 hw
      · have hw := hw.2 hc
        refine g_aload_n dX7_arrive_31 rfl rfl ?_
        refine g_getA dX7_arrive_32 fl_X7_18 sh92 rfl ?_
        refine g_iload dX7_arrive_35 rfl ?_
        refine g_dup2_11 dX7_arrive_37 rfl rfl ?_
        refine g_iald dX7_arrive_38 ia95 al95 hw.1 ?_
        have hw := hw.2
        refine g_aload_n dX7_arrive_39 rfl rfl ?_
        refine g_iload_n dX7_arrive_40 rfl rfl ?_
        refine g_aload_n dX7_arrive_41 rfl rfl ?_
        refine g_getA dX7_arrive_42 fl_X7_83 sh14 rfl ?_
        refine g_iload_n dX7_arrive_45 rfl rfl ?_
        refine g_iald dX7_arrive_46 ia15 al15 hw.1 ?_
        have hw := hw.2
        refine g_callVI [.int x3, .int (gI h4 15 (x2).toNatClampNeg)] (ci := 7) dX7_arrive_47 ml_X7_61 mk_X7_rowsAt rfl rfl sh92 (Nat.le_of_ble_eq_true rfl) (Nat.le_of_ble_eq_true rfl) rfl (c_Sums_rowsAt hw) (fun r5 h6 hw => ?_)
        refine g_iadd dX7_arrive_50 ?_
        refine g_iast dX7_arrive_51 ia95 al95 hw.1 ?_
        have hw := hw.2
        refine g_heap (fun h7 eh7 => ?_)
        have hw := hw h7 eh7
        exact g_vret dX7_arrive_52 hw
theorem dX7_step_0 : decode cX7_step 0 = .ok (.aload_n 1, 1) := by decide +kernel
theorem dX7_step_1 : decode cX7_step 1 = .ok (.iload_n 2, 1) := by decide +kernel
theorem dX7_step_2 : decode cX7_step 2 = .ok (.invokevirtual 50, 3) := by decide +kernel
theorem dX7_step_5 : decode cX7_step 5 = .ok (.istore 4, 2) := by decide +kernel
theorem dX7_step_7 : decode cX7_step 7 = .ok (.sipush 1189, 3) := by decide +kernel
theorem dX7_step_10 : decode cX7_step 10 = .ok (.aload_n 0, 1) := by decide +kernel
theorem dX7_step_11 : decode cX7_step 11 = .ok (.getfield 25, 3) := by decide +kernel
theorem dX7_step_14 : decode cX7_step 14 = .ok (.aload_n 1, 1) := by decide +kernel
theorem dX7_step_15 : decode cX7_step 15 = .ok (.iload_n 2, 1) := by decide +kernel
theorem dX7_step_16 : decode cX7_step 16 = .ok (.invokevirtual 53, 3) := by decide +kernel
theorem dX7_step_19 : decode cX7_step 19 = .ok (.iadd, 1) := by decide +kernel
theorem dX7_step_20 : decode cX7_step 20 = .ok (.iload 4, 2) := by decide +kernel
theorem dX7_step_22 : decode cX7_step 22 = .ok (.isub, 1) := by decide +kernel
theorem dX7_step_23 : decode cX7_step 23 = .ok (.invokestatic 56, 3) := by decide +kernel
theorem dX7_step_26 : decode cX7_step 26 = .ok (.istore 5, 2) := by decide +kernel
theorem dX7_step_28 : decode cX7_step 28 = .ok (.iload 5, 2) := by decide +kernel
theorem dX7_step_30 : decode cX7_step 30 = .ok (.iconst 1, 1) := by decide +kernel
theorem dX7_step_31 : decode cX7_step 31 = .ok (.isub, 1) := by decide +kernel
theorem dX7_step_32 : decode cX7_step 32 = .ok (.istore 6, 2) := by decide +kernel
theorem dX7_step_34 : decode cX7_step 34 = .ok (.iload 6, 2) := by decide +kernel
theorem dX7_step_36 : decode cX7_step 36 = .ok (.ifCond .lt 116, 3) := by decide +kernel
theorem dX7_step_39 : decode cX7_step 39 = .ok (.iconst 0, 1) := by decide +kernel
theorem dX7_step_40 : decode cX7_step 40 = .ok (.istore 7, 2) := by decide +kernel
theorem dX7_step_42 : decode cX7_step 42 = .ok (.iload 7, 2) := by decide +kernel
theorem dX7_step_44 : decode cX7_step 44 = .ok (.bipush 8, 2) := by decide +kernel
theorem dX7_step_46 : decode cX7_step 46 = .ok (.if_icmp .ge 35, 3) := by decide +kernel
theorem dX7_step_49 : decode cX7_step 49 = .ok (.aload_n 0, 1) := by decide +kernel
theorem dX7_step_50 : decode cX7_step 50 = .ok (.getfield 18, 3) := by decide +kernel
theorem dX7_step_53 : decode cX7_step 53 = .ok (.iload 7, 2) := by decide +kernel
theorem dX7_step_55 : decode cX7_step 55 = .ok (.aload_n 0, 1) := by decide +kernel
theorem dX7_step_56 : decode cX7_step 56 = .ok (.getfield 15, 3) := by decide +kernel
theorem dX7_step_59 : decode cX7_step 59 = .ok (.iload 7, 2) := by decide +kernel
theorem dX7_step_61 : decode cX7_step 61 = .ok (.iaload, 1) := by decide +kernel
theorem dX7_step_62 : decode cX7_step 62 = .ok (.aload_n 0, 1) := by decide +kernel
theorem dX7_step_63 : decode cX7_step 63 = .ok (.iload 6, 2) := by decide +kernel
theorem dX7_step_65 : decode cX7_step 65 = .ok (.iload 4, 2) := by decide +kernel
theorem dX7_step_67 : decode cX7_step 67 = .ok (.iadd, 1) := by decide +kernel
theorem dX7_step_68 : decode cX7_step 68 = .ok (.iload 7, 2) := by decide +kernel
theorem dX7_step_70 : decode cX7_step 70 = .ok (.invokevirtual 61, 3) := by decide +kernel
theorem dX7_step_73 : decode cX7_step 73 = .ok (.imul, 1) := by decide +kernel
theorem dX7_step_74 : decode cX7_step 74 = .ok (.iastore, 1) := by decide +kernel
theorem dX7_step_75 : decode cX7_step 75 = .ok (.iinc 7 1, 3) := by decide +kernel
theorem dX7_step_78 : decode cX7_step 78 = .ok (.goto (-36), 3) := by decide +kernel
theorem dX7_step_81 : decode cX7_step 81 = .ok (.iconst 0, 1) := by decide +kernel
theorem dX7_step_82 : decode cX7_step 82 = .ok (.istore 7, 2) := by decide +kernel
theorem dX7_step_84 : decode cX7_step 84 = .ok (.iload 7, 2) := by decide +kernel
theorem dX7_step_86 : decode cX7_step 86 = .ok (.bipush 16, 2) := by decide +kernel
theorem dX7_step_88 : decode cX7_step 88 = .ok (.if_icmp .ge 39, 3) := by decide +kernel
theorem dX7_step_91 : decode cX7_step 91 = .ok (.iload_n 3, 1) := by decide +kernel
theorem dX7_step_92 : decode cX7_step 92 = .ok (.iload 7, 2) := by decide +kernel
theorem dX7_step_94 : decode cX7_step 94 = .ok (.ishr, 1) := by decide +kernel
theorem dX7_step_95 : decode cX7_step 95 = .ok (.iconst 1, 1) := by decide +kernel
theorem dX7_step_96 : decode cX7_step 96 = .ok (.iand, 1) := by decide +kernel
theorem dX7_step_97 : decode cX7_step 97 = .ok (.iconst 1, 1) := by decide +kernel
theorem dX7_step_98 : decode cX7_step 98 = .ok (.if_icmp .ne 23, 3) := by decide +kernel
theorem dX7_step_101 : decode cX7_step 101 = .ok (.aload_n 0, 1) := by decide +kernel
theorem dX7_step_102 : decode cX7_step 102 = .ok (.aload_n 1, 1) := by decide +kernel
theorem dX7_step_103 : decode cX7_step 103 = .ok (.iload 7, 2) := by decide +kernel
theorem dX7_step_105 : decode cX7_step 105 = .ok (.iload 6, 2) := by decide +kernel
theorem dX7_step_107 : decode cX7_step 107 = .ok (.iload 4, 2) := by decide +kernel
theorem dX7_step_109 : decode cX7_step 109 = .ok (.iadd, 1) := by decide +kernel
theorem dX7_step_110 : decode cX7_step 110 = .ok (.aload_n 1, 1) := by decide +kernel
theorem dX7_step_111 : decode cX7_step 111 = .ok (.iload_n 2, 1) := by decide +kernel
theorem dX7_step_112 : decode cX7_step 112 = .ok (.iload 7, 2) := by decide +kernel
theorem dX7_step_114 : decode cX7_step 114 = .ok (.invokevirtual 64, 3) := by decide +kernel
theorem dX7_step_117 : decode cX7_step 117 = .ok (.isub, 1) := by decide +kernel
theorem dX7_step_118 : decode cX7_step 118 = .ok (.invokevirtual 67, 3) := by decide +kernel
theorem dX7_step_121 : decode cX7_step 121 = .ok (.iinc 7 1, 3) := by decide +kernel
theorem dX7_step_124 : decode cX7_step 124 = .ok (.goto (-40), 3) := by decide +kernel
theorem dX7_step_127 : decode cX7_step 127 = .ok (.aload_n 0, 1) := by decide +kernel
theorem dX7_step_128 : decode cX7_step 128 = .ok (.getfield 18, 3) := by decide +kernel
theorem dX7_step_131 : decode cX7_step 131 = .ok (.iconst 0, 1) := by decide +kernel
theorem dX7_step_132 : decode cX7_step 132 = .ok (.aload_n 0, 1) := by decide +kernel
theorem dX7_step_133 : decode cX7_step 133 = .ok (.getfield 11, 3) := by decide +kernel
theorem dX7_step_136 : decode cX7_step 136 = .ok (.iload 6, 2) := by decide +kernel
theorem dX7_step_138 : decode cX7_step 138 = .ok (.bipush 8, 2) := by decide +kernel
theorem dX7_step_140 : decode cX7_step 140 = .ok (.imul, 1) := by decide +kernel
theorem dX7_step_141 : decode cX7_step 141 = .ok (.bipush 8, 2) := by decide +kernel
theorem dX7_step_143 : decode cX7_step 143 = .ok (.invokestatic 70, 3) := by decide +kernel
theorem dX7_step_146 : decode cX7_step 146 = .ok (.iinc 6 (-1), 3) := by decide +kernel
theorem dX7_step_149 : decode cX7_step 149 = .ok (.goto (-115), 3) := by decide +kernel
theorem dX7_step_152 : decode cX7_step 152 = .ok (.aload_n 0, 1) := by decide +kernel
theorem dX7_step_153 : decode cX7_step 153 = .ok (.dup, 1) := by decide +kernel
theorem dX7_step_154 : decode cX7_step 154 = .ok (.getfield 21, 3) := by decide +kernel
theorem dX7_step_157 : decode cX7_step 157 = .ok (.iload 4, 2) := by decide +kernel
theorem dX7_step_159 : decode cX7_step 159 = .ok (.iadd, 1) := by decide +kernel
theorem dX7_step_160 : decode cX7_step 160 = .ok (.putfield 21, 3) := by decide +kernel
theorem dX7_step_163 : decode cX7_step 163 = .ok (.aload_n 0, 1) := by decide +kernel
theorem dX7_step_164 : decode cX7_step 164 = .ok (.iload 5, 2) := by decide +kernel
theorem dX7_step_166 : decode cX7_step 166 = .ok (.putfield 25, 3) := by decide +kernel
theorem dX7_step_169 : decode cX7_step 169 = .ok (.return_, 1) := by decide +kernel
theorem ml_X7_50 : Cond.methodLink RX7 50 yX2_leastPaid ∈ Wd := mW 1220 (by decide +kernel) rfl
theorem mk_X2_leastPaid : MokV yX2_leastPaid cX2_leastPaid 4 (some .int) 1 := ⟨⟨mW 5 (by decide +kernel) rfl, mW 1223 (by decide +kernel) rfl, ⟨by decide, by decide, by decide +kernel⟩, by decide⟩, mW 1221 (by decide +kernel) rfl, mW 1222 (by decide +kernel) rfl⟩
theorem ml_X7_53 : Cond.methodLink RX7 53 yX2_mostPaid ∈ Wd := mW 1227 (by decide +kernel) rfl
theorem mk_X2_mostPaid : MokV yX2_mostPaid cX2_mostPaid 4 (some .int) 1 := ⟨⟨mW 5 (by decide +kernel) rfl, mW 1230 (by decide +kernel) rfl, ⟨by decide, by decide, by decide +kernel⟩, by decide⟩, mW 1228 (by decide +kernel) rfl, mW 1229 (by decide +kernel) rfl⟩
theorem ml_X7_56 : Cond.methodLink RX7 56 yJ9_min_7cf53 ∈ Wd := mW 1232 (by decide +kernel) rfl
theorem fl_X7_15 : FLk RX7 15 7 1 := ⟨_, rfl, by decide, mW 346 (by decide +kernel) rfl⟩
theorem ml_X7_64 : Cond.methodLink RX7 64 yX2_payOf ∈ Wd := mW 1237 (by decide +kernel) rfl
theorem ml_X7_67 : Cond.methodLink RX7 67 yX7_arrive ∈ Wd := mW 1238 (by decide +kernel) rfl
theorem mk_X7_arrive : MokV yX7_arrive cX7_arrive 5 none 3 := ⟨⟨mW 12 (by decide +kernel) rfl, mW 1241 (by decide +kernel) rfl, ⟨by decide, by decide, by decide +kernel⟩, by decide⟩, mW 1240 (by decide +kernel) rfl, mS (q := (yX7_arrive, 5)) 45 (by decide +kernel)⟩
theorem ml_X7_70 : Cond.methodLink RX7 70 arraycopyName ∈ Wd := mW 1244 (by decide +kernel) rfl
def Sums_step_L42 (x2 : Int32) (x3 : Int32) (x4 : Int32) (x5 : Int32) (x6 : Int32) (K81 : Hp → Prop) : Nat → Int32 → Hp → Prop
  | 0, _, _ => False
  | n + 1, x7, h => (8 ≤ x7 → K81 h) ∧ (¬ 8 ≤ x7 → vp_in x7 8 ∧ Sums_rowsAt (x6 + x4) x7 h (fun r10 h11 => vp_in x7 8 ∧ ∀ h12 : Hp, h12 = sI h11 95 (x7).toNatClampNeg ((gI h 94 (x7).toNatClampNeg) * r10) → ∀ v13 : Int32, v13 = (x7 + 1) → Sums_step_L42 x2 x3 x4 x5 x6 K81 n v13 h12))
set_option maxHeartbeats 4000000 in
set_option maxRecDepth 20000 in
theorem gl_Sums_step_L42 {G : Gx}  {x2 : Int32} {x3 : Int32} {x4 : Int32} {x5 : Int32} {x6 : Int32} {Q : Hp → Prop} {K81 : Hp → Prop} (hK81 : ∀  (h1 : Hp), K81  h1 → Go cX7_step 8 RX7 none 4 G (QV G Q) 81 [(0, .ref (gAd G 92)), (1, .ref (gAd G 14)), (2, .int x2), (3, .int x3), (4, .int x4), (5, .int x5), (6, .int x6)] [] h1) : ∀ (n : Nat) (x7 : Int32) (h : Hp), Sums_step_L42 x2 x3 x4 x5 x6 K81 n x7 h → Go cX7_step 8 RX7 none 4 G (QV G Q) 42 [(0, .ref (gAd G 92)), (1, .ref (gAd G 14)), (2, .int x2), (3, .int x3), (4, .int x4), (5, .int x5), (6, .int x6), (7, .int x7)] [] h := by
  intro n
  induction n with
  | zero => intro _ h hw; exact False.elim hw
  | succ n ih =>
    intro x7 h hw
    refine g_iload dX7_step_42 rfl ?_
    refine g_bipush (v := 8) dX7_step_44 (by decide) ?_
    refine g_icmp_ge 81 dX7_step_46 rfl (fun hc => ?_) (fun hc => ?_)
    · have hw := hw.1 hc
      refine g_lv [0, 1, 2, 3, 4, 5, 6] rfl ?_
      exact hK81 _ hw
    · have hw := hw.2 hc
      refine g_aload_n dX7_step_49 rfl rfl ?_
      refine g_getA dX7_step_50 fl_X7_18 sh92 rfl ?_
      refine g_iload dX7_step_53 rfl ?_
      refine g_aload_n dX7_step_55 rfl rfl ?_
      refine g_getA dX7_step_56 fl_X7_15 sh92 rfl ?_
      refine g_iload dX7_step_59 rfl ?_
      refine g_iald dX7_step_61 ia94 al94 hw.1 ?_
      have hw := hw.2
      refine g_aload_n dX7_step_62 rfl rfl ?_
      refine g_iload dX7_step_63 rfl ?_
      refine g_iload dX7_step_65 rfl ?_
      refine g_iadd dX7_step_67 ?_
      refine g_iload dX7_step_68 rfl ?_
      refine g_callVI [.int (x6 + x4), .int x7] (ci := 7) dX7_step_70 ml_X7_61 mk_X7_rowsAt rfl rfl sh92 (Nat.le_of_ble_eq_true rfl) (Nat.le_of_ble_eq_true rfl) rfl (c_Sums_rowsAt hw) (fun r10 h11 hw => ?_)
      refine g_imul dX7_step_73 ?_
      refine g_iast dX7_step_74 ia95 al95 hw.1 ?_
      have hw := hw.2
      refine g_heap (fun h12 eh12 => ?_)
      have hw := hw h12 eh12
      obtain ⟨v13, ev13⟩ : ∃ y : Int32, y = (x7 + 1) := ⟨_, rfl⟩
      have hw := hw v13 ev13
      refine g_iinc dX7_step_75 rfl (by rw [ev13]; rfl) (by decide) (lv1 := [(0, .ref (gAd G 92)), (1, .ref (gAd G 14)), (2, .int x2), (3, .int x3), (4, .int x4), (5, .int x5), (6, .int x6), (7, .int v13)]) rfl ?_
      refine g_goto 42 dX7_step_78 rfl ?_
      exact ih _ _ hw
def Sums_step_L84 (x2 : Int32) (x3 : Int32) (x4 : Int32) (x5 : Int32) (x6 : Int32) (K127 : Hp → Prop) : Nat → Int32 → Hp → Prop
  | 0, _, _ => False
  | n + 1, x7, h => (16 ≤ x7 → K127 h) ∧ (¬ 16 ≤ x7 → ∀ J121 : Hp → Prop, J121 = (fun h16 => ∀ v17 : Int32, v17 = (x7 + 1) → Sums_step_L84 x2 x3 x4 x5 x6 K127 n v17 h16) → (¬ ((x3 >>> (x7 &&& 31)) &&& 1) = 1 → J121 h) ∧ (((x3 >>> (x7 &&& 31)) &&& 1) = 1 → Land_payOf x2 x7 h (fun r18 h19 => Sums_arrive x7 ((x6 + x4) - r18) h19 (fun h20 => J121 h20))))
set_option maxHeartbeats 4000000 in
set_option maxRecDepth 20000 in
theorem gl_Sums_step_L84 {G : Gx}  {x2 : Int32} {x3 : Int32} {x4 : Int32} {x5 : Int32} {x6 : Int32} {Q : Hp → Prop} {K127 : Hp → Prop} (hK127 : ∀  (h1 : Hp), K127  h1 → Go cX7_step 8 RX7 none 4 G (QV G Q) 127 [(0, .ref (gAd G 92)), (1, .ref (gAd G 14)), (2, .int x2), (3, .int x3), (4, .int x4), (5, .int x5), (6, .int x6)] [] h1) : ∀ (n : Nat) (x7 : Int32) (h : Hp), Sums_step_L84 x2 x3 x4 x5 x6 K127 n x7 h → Go cX7_step 8 RX7 none 4 G (QV G Q) 84 [(0, .ref (gAd G 92)), (1, .ref (gAd G 14)), (2, .int x2), (3, .int x3), (4, .int x4), (5, .int x5), (6, .int x6), (7, .int x7)] [] h := by
  intro n
  induction n with
  | zero => intro _ h hw; exact False.elim hw
  | succ n ih =>
    intro x7 h hw
    refine g_iload dX7_step_84 rfl ?_
    refine g_bipush (v := 16) dX7_step_86 (by decide) ?_
    refine g_icmp_ge 127 dX7_step_88 rfl (fun hc => ?_) (fun hc => ?_)
    · have hw := hw.1 hc
      refine g_lv [0, 1, 2, 3, 4, 5, 6] rfl ?_
      exact hK127 _ hw
    · have hw := hw.2 hc
      refine g_iload_n dX7_step_91 rfl rfl ?_
      refine g_iload dX7_step_92 rfl ?_
      refine g_ishr dX7_step_94 ?_
      refine g_iconst (v := 1) dX7_step_95 (by decide) ?_
      refine g_iand dX7_step_96 ?_
      refine g_iconst (v := 1) dX7_step_97 (by decide) ?_
      refine jn_el hw (fun J121 eJ121 hw => ?_)
      have hJ121 : ∀ (h16 : Hp), J121 h16 → Go cX7_step 8 RX7 none 4 G (QV G Q) 121 [(0, .ref (gAd G 92)), (1, .ref (gAd G 14)), (2, .int x2), (3, .int x3), (4, .int x4), (5, .int x5), (6, .int x6), (7, .int x7)] [] h16 := by
        intro h16 hw
        subst eJ121
        obtain ⟨v17, ev17⟩ : ∃ y : Int32, y = (x7 + 1) := ⟨_, rfl⟩
        have hw := hw v17 ev17
        refine g_iinc dX7_step_121 rfl (by rw [ev17]; rfl) (by decide) (lv1 := [(0, .ref (gAd G 92)), (1, .ref (gAd G 14)), (2, .int x2), (3, .int x3), (4, .int x4), (5, .int x5), (6, .int x6), (7, .int v17)]) rfl ?_
        refine g_goto 84 dX7_step_124 rfl ?_
        exact ih _ _ hw
      refine g_icmp_ne 121 dX7_step_98 rfl (fun hc => ?_) (fun hc => ?_)
      · have hw := hw.1 hc
        exact hJ121 _ hw
      · have hw := hw.2 hc
        refine g_aload_n dX7_step_101 rfl rfl ?_
        refine g_aload_n dX7_step_102 rfl rfl ?_
        refine g_iload dX7_step_103 rfl ?_
        refine g_iload dX7_step_105 rfl ?_
        refine g_iload dX7_step_107 rfl ?_
        refine g_iadd dX7_step_109 ?_
        refine g_aload_n dX7_step_110 rfl rfl ?_
        refine g_iload_n dX7_step_111 rfl rfl ?_
        refine g_iload dX7_step_112 rfl ?_
        refine g_callVI [.int x2, .int x7] (ci := 2) dX7_step_114 ml_X7_64 mk_X2_payOf rfl rfl sh14 (Nat.le_of_ble_eq_true rfl) (Nat.le_of_ble_eq_true rfl) rfl (c_Land_payOf hw) (fun r18 h19 hw => ?_)
        refine g_isub dX7_step_117 ?_
        refine g_callVV [.ref (gAd G 14), .int x7, .int ((x6 + x4) - r18)] (ci := 7) dX7_step_118 ml_X7_67 mk_X7_arrive rfl rfl sh92 (Nat.le_of_ble_eq_true rfl) (Nat.le_of_ble_eq_true rfl) rfl (c_Sums_arrive hw) (fun h20 hw => ?_)
        exact hJ121 _ hw
def Sums_step_L34 (x2 : Int32) (x3 : Int32) (x4 : Int32) (x5 : Int32) (Q : Hp → Prop) : Nat → Int32 → Hp → Prop
  | 0, _, _ => False
  | n + 1, x6, h => (x6 < 0 → ∀ h8 : Hp, h8 = sI h 92 3 ((gI h 92 3) + x4) → ∀ h9 : Hp, h9 = sI h8 92 4 x5 → Q h9) ∧ (¬ x6 < 0 → ∃ n14, Sums_step_L42 x2 x3 x4 x5 x6 (fun h15 => ∃ n21, Sums_step_L84 x2 x3 x4 x5 x6 (fun h22 => (¬ (0 : Int32) < 0 ∧ ¬ (x6 * 8) < 0 ∧ ¬ (8 : Int32) < 0 ∧ ((0 : Int32)).toNatClampNeg + ((8 : Int32)).toNatClampNeg ≤ 8 ∧ ((x6 * 8)).toNatClampNeg + ((8 : Int32)).toNatClampNeg ≤ 9512) ∧ ∀ h23 : Hp, h23 = cI h22 95 ((0 : Int32)).toNatClampNeg 93 ((x6 * 8)).toNatClampNeg ((8 : Int32)).toNatClampNeg → ∀ v24 : Int32, v24 = (x6 + (-1)) → Sums_step_L34 x2 x3 x4 x5 Q n v24 h23) n21 0 h15) n14 0 h)
set_option maxHeartbeats 4000000 in
set_option maxRecDepth 20000 in
theorem gl_Sums_step_L34 {G : Gx}  {x2 : Int32} {x3 : Int32} {x4 : Int32} {x5 : Int32} {Q : Hp → Prop} : ∀ (n : Nat) (x6 : Int32) (h : Hp), Sums_step_L34 x2 x3 x4 x5 Q n x6 h → Go cX7_step 8 RX7 none 4 G (QV G Q) 34 [(0, .ref (gAd G 92)), (1, .ref (gAd G 14)), (2, .int x2), (3, .int x3), (4, .int x4), (5, .int x5), (6, .int x6)] [] h := by
  intro n
  induction n with
  | zero => intro _ h hw; exact False.elim hw
  | succ n ih =>
    intro x6 h hw
    refine g_iload dX7_step_34 rfl ?_
    refine g_if_lt 152 dX7_step_36 rfl (fun hc => ?_) (fun hc => ?_)
    · have hw := hw.1 hc
      refine g_aload_n dX7_step_152 rfl rfl ?_
      refine g_dup dX7_step_153 rfl ?_
      refine g_getI dX7_step_154 fl_X7_21 sh92 rfl ?_
      refine g_iload dX7_step_157 rfl ?_
      refine g_iadd dX7_step_159 ?_
      refine g_putI dX7_step_160 fl_X7_21 sh92 rfl rfl pf_7_3 ?_
      refine g_heap (fun h8 eh8 => ?_)
      have hw := hw h8 eh8
      refine g_aload_n dX7_step_163 rfl rfl ?_
      refine g_iload dX7_step_164 rfl ?_
      refine g_putI dX7_step_166 fl_X7_25 sh92 rfl rfl pf_7_4 ?_
      refine g_heap (fun h9 eh9 => ?_)
      have hw := hw h9 eh9
      exact g_vret dX7_step_169 hw
    · have hw := hw.2 hc
      refine g_iconst (v := 0) dX7_step_39 (by decide) ?_
      refine g_istore dX7_step_40 (by decide) (lv1 := [(0, .ref (gAd G 92)), (1, .ref (gAd G 14)), (2, .int x2), (3, .int x3), (4, .int x4), (5, .int x5), (6, .int x6), (7, .int 0)]) rfl ?_
      obtain ⟨n14, hw⟩ := hw
      refine gl_Sums_step_L42  ?_ _ _ _ hw
      · intro h15 hw
        refine g_iconst (v := 0) dX7_step_81 (by decide) ?_
        refine g_istore dX7_step_82 (by decide) (lv1 := [(0, .ref (gAd G 92)), (1, .ref (gAd G 14)), (2, .int x2), (3, .int x3), (4, .int x4), (5, .int x5), (6, .int x6), (7, .int 0)]) rfl ?_
        obtain ⟨n21, hw⟩ := hw
        refine gl_Sums_step_L84  ?_ _ _ _ hw
        · intro h22 hw
          refine g_aload_n dX7_step_127 rfl rfl ?_
          refine g_getA dX7_step_128 fl_X7_18 sh92 rfl ?_
          refine g_iconst (v := 0) dX7_step_131 (by decide) ?_
          refine g_aload_n dX7_step_132 rfl rfl ?_
          refine g_getA dX7_step_133 fl_X7_11 sh92 rfl ?_
          refine g_iload dX7_step_136 rfl ?_
          refine g_bipush (v := 8) dX7_step_138 (by decide) ?_
          refine g_imul dX7_step_140 ?_
          refine g_bipush (v := 8) dX7_step_141 (by decide) ?_
          refine g_copyI dX7_step_143 ml_X7_70 ia95 ia93 al95 al93 hw.1 (by decide) (Nat.le_of_ble_eq_true rfl) ?_
          have hw := hw.2
          refine g_heap (fun h23 eh23 => ?_)
          have hw := hw h23 eh23
          obtain ⟨v24, ev24⟩ : ∃ y : Int32, y = (x6 + (-1)) := ⟨_, rfl⟩
          have hw := hw v24 ev24
          refine g_iinc dX7_step_146 rfl (by rw [ev24]; rfl) (by decide) (lv1 := [(0, .ref (gAd G 92)), (1, .ref (gAd G 14)), (2, .int x2), (3, .int x3), (4, .int x4), (5, .int x5), (6, .int v24)]) rfl ?_
          refine g_goto 34 dX7_step_149 rfl ?_
          exact ih _ _ hw
def Sums_step (x2 : Int32) (x3 : Int32) (h : Hp) (Q : Hp → Prop) : Prop := Land_leastPaid x2 h (fun r1 h2 => Land_mostPaid x2 h2 (fun r3 h4 => J9_min_7cf53 1189 (((gI h2 92 4) + r3) - r1) h4 (fun r5 h6 => ∀ v7 : Int32, v7 = (r5 - 1) → ∃ n25, Sums_step_L34 x2 x3 r1 r5 Q n25 v7 h6)))
set_option maxHeartbeats 4000000 in
set_option maxRecDepth 20000 in
theorem c_Sums_step {G : Gx}  {x2 : Int32} {x3 : Int32} {h : Hp} {Q : Hp → Prop} (hw : Sums_step x2 x3 h Q) : Ct yX7_step cX7_step 8 none 4 G [.ref (gAd G 92), .ref (gAd G 14), .int x2, .int x3] h (QV G Q) := by
  refine ct_go [(0, .ref (gAd G 92)), (1, .ref (gAd G 14)), (2, .int x2), (3, .int x3)] (plainFor_of_name (by decide)) rfl (Nat.le_of_ble_eq_true rfl) rfl ?_
  refine g_aload_n dX7_step_0 rfl rfl ?_
  refine g_iload_n dX7_step_1 rfl rfl ?_
  refine g_callVI [.int x2] (ci := 2) dX7_step_2 ml_X7_50 mk_X2_leastPaid rfl rfl sh14 (Nat.le_of_ble_eq_true rfl) (Nat.le_of_ble_eq_true rfl) rfl (c_Land_leastPaid hw) (fun r1 h2 hw => ?_)
  refine g_istore dX7_step_5 (by decide) (lv1 := [(0, .ref (gAd G 92)), (1, .ref (gAd G 14)), (2, .int x2), (3, .int x3), (4, .int r1)]) rfl ?_
  refine g_sipush (v := 1189) dX7_step_7 (by decide) ?_
  refine g_aload_n dX7_step_10 rfl rfl ?_
  refine g_getI dX7_step_11 fl_X7_25 sh92 rfl ?_
  refine g_aload_n dX7_step_14 rfl rfl ?_
  refine g_iload_n dX7_step_15 rfl rfl ?_
  refine g_callVI [.int x2] (ci := 2) dX7_step_16 ml_X7_53 mk_X2_mostPaid rfl rfl sh14 (Nat.le_of_ble_eq_true rfl) (Nat.le_of_ble_eq_true rfl) rfl (c_Land_mostPaid hw) (fun r3 h4 hw => ?_)
  refine g_iadd dX7_step_19 ?_
  refine g_iload dX7_step_20 rfl ?_
  refine g_isub dX7_step_22 ?_
  refine g_callSI [.int 1189, .int (((gI h2 92 4) + r3) - r1)] dX7_step_23 ml_X7_56 mk_J9_min_7cf53 rfl (Nat.le_of_ble_eq_true rfl) (Nat.le_of_ble_eq_true rfl) rfl (c_J9_min_7cf53 hw) (fun r5 h6 hw => ?_)
  refine g_istore dX7_step_26 (by decide) (lv1 := [(0, .ref (gAd G 92)), (1, .ref (gAd G 14)), (2, .int x2), (3, .int x3), (4, .int r1), (5, .int r5)]) rfl ?_
  refine g_iload dX7_step_28 rfl ?_
  refine g_iconst (v := 1) dX7_step_30 (by decide) ?_
  refine g_isub dX7_step_31 ?_
  refine g_topi (fun v7 ev7 => ?_)
  have hw := hw v7 ev7
  refine g_istore dX7_step_32 (by decide) (lv1 := [(0, .ref (gAd G 92)), (1, .ref (gAd G 14)), (2, .int x2), (3, .int x3), (4, .int r1), (5, .int r5), (6, .int v7)]) rfl ?_
  obtain ⟨n25, hw⟩ := hw
  refine gl_Sums_step_L34   _ _ _ hw
theorem dX7_stepByChoice_0 : decode cX7_stepByChoice 0 = .ok (.iconst 0, 1) := by decide +kernel
theorem dX7_stepByChoice_1 : decode cX7_stepByChoice 1 = .ok (.istore_n 3, 1) := by decide +kernel
theorem dX7_stepByChoice_2 : decode cX7_stepByChoice 2 = .ok (.iload_n 3, 1) := by decide +kernel
theorem dX7_stepByChoice_3 : decode cX7_stepByChoice 3 = .ok (.bipush 8, 2) := by decide +kernel
theorem dX7_stepByChoice_5 : decode cX7_stepByChoice 5 = .ok (.if_icmp .ge 29, 3) := by decide +kernel
theorem dX7_stepByChoice_8 : decode cX7_stepByChoice 8 = .ok (.aload_n 0, 1) := by decide +kernel
theorem dX7_stepByChoice_9 : decode cX7_stepByChoice 9 = .ok (.getfield 15, 3) := by decide +kernel
theorem dX7_stepByChoice_12 : decode cX7_stepByChoice 12 = .ok (.iload_n 3, 1) := by decide +kernel
theorem dX7_stepByChoice_13 : decode cX7_stepByChoice 13 = .ok (.aload_n 1, 1) := by decide +kernel
theorem dX7_stepByChoice_14 : decode cX7_stepByChoice 14 = .ok (.iload_n 2, 1) := by decide +kernel
theorem dX7_stepByChoice_15 : decode cX7_stepByChoice 15 = .ok (.iload_n 3, 1) := by decide +kernel
theorem dX7_stepByChoice_16 : decode cX7_stepByChoice 16 = .ok (.invokevirtual 28, 3) := by decide +kernel
theorem dX7_stepByChoice_19 : decode cX7_stepByChoice 19 = .ok (.ifCond .ne 7, 3) := by decide +kernel
theorem dX7_stepByChoice_22 : decode cX7_stepByChoice 22 = .ok (.iconst 1, 1) := by decide +kernel
theorem dX7_stepByChoice_23 : decode cX7_stepByChoice 23 = .ok (.goto 4, 3) := by decide +kernel
theorem dX7_stepByChoice_26 : decode cX7_stepByChoice 26 = .ok (.iconst 0, 1) := by decide +kernel
theorem dX7_stepByChoice_27 : decode cX7_stepByChoice 27 = .ok (.iastore, 1) := by decide +kernel
theorem dX7_stepByChoice_28 : decode cX7_stepByChoice 28 = .ok (.iinc 3 1, 3) := by decide +kernel
theorem dX7_stepByChoice_31 : decode cX7_stepByChoice 31 = .ok (.goto (-29), 3) := by decide +kernel
theorem dX7_stepByChoice_34 : decode cX7_stepByChoice 34 = .ok (.aload_n 0, 1) := by decide +kernel
theorem dX7_stepByChoice_35 : decode cX7_stepByChoice 35 = .ok (.aload_n 1, 1) := by decide +kernel
theorem dX7_stepByChoice_36 : decode cX7_stepByChoice 36 = .ok (.iload_n 2, 1) := by decide +kernel
theorem dX7_stepByChoice_37 : decode cX7_stepByChoice 37 = .ok (.aload_n 1, 1) := by decide +kernel
theorem dX7_stepByChoice_38 : decode cX7_stepByChoice 38 = .ok (.iload_n 2, 1) := by decide +kernel
theorem dX7_stepByChoice_39 : decode cX7_stepByChoice 39 = .ok (.invokevirtual 34, 3) := by decide +kernel
theorem dX7_stepByChoice_42 : decode cX7_stepByChoice 42 = .ok (.invokevirtual 38, 3) := by decide +kernel
theorem dX7_stepByChoice_45 : decode cX7_stepByChoice 45 = .ok (.return_, 1) := by decide +kernel
theorem ml_X7_34 : Cond.methodLink RX7 34 yX2_openRoads ∈ Wd := mW 1215 (by decide +kernel) rfl
theorem ml_X7_38 : Cond.methodLink RX7 38 yX7_step ∈ Wd := mW 1216 (by decide +kernel) rfl
theorem mk_X7_step : MokV yX7_step cX7_step 8 none 3 := ⟨⟨mW 12 (by decide +kernel) rfl, mW 1219 (by decide +kernel) rfl, ⟨by decide, by decide, by decide +kernel⟩, by decide⟩, mW 1218 (by decide +kernel) rfl, mS (q := (yX7_step, 5)) 43 (by decide +kernel)⟩
theorem ml_X7_28 : Cond.methodLink RX7 28 yX2_openFrom ∈ Wd := mW 1214 (by decide +kernel) rfl
def Sums_stepByChoice_L2 (x2 : Int32) (Q : Hp → Prop) : Nat → Int32 → Hp → Prop
  | 0, _, _ => False
  | n + 1, x3, h => (8 ≤ x3 → Land_openRoads x2 h (fun r1 h2 => Sums_step x2 r1 h2 (fun h3 => Q h3))) ∧ (¬ 8 ≤ x3 → Land_openFrom x2 x3 h (fun r4 h5 => ∀ J27 : Int32 → Hp → Prop, J27 = (fun s6 h7 => vp_in x3 8 ∧ ∀ h8 : Hp, h8 = sI h7 94 (x3).toNatClampNeg s6 → ∀ v9 : Int32, v9 = (x3 + 1) → Sums_stepByChoice_L2 x2 Q n v9 h8) → (¬ r4 = 0 → J27 0 h5) ∧ (r4 = 0 → J27 1 h5)))
set_option maxHeartbeats 4000000 in
set_option maxRecDepth 20000 in
theorem gl_Sums_stepByChoice_L2 {G : Gx}  {x2 : Int32} {Q : Hp → Prop} : ∀ (n : Nat) (x3 : Int32) (h : Hp), Sums_stepByChoice_L2 x2 Q n x3 h → Go cX7_stepByChoice 4 RX7 none 5 G (QV G Q) 2 [(0, .ref (gAd G 92)), (1, .ref (gAd G 14)), (2, .int x2), (3, .int x3)] [] h := by
  intro n
  induction n with
  | zero => intro _ h hw; exact False.elim hw
  | succ n ih =>
    intro x3 h hw
    refine g_iload_n dX7_stepByChoice_2 rfl rfl ?_
    refine g_bipush (v := 8) dX7_stepByChoice_3 (by decide) ?_
    refine g_icmp_ge 34 dX7_stepByChoice_5 rfl (fun hc => ?_) (fun hc => ?_)
    · have hw := hw.1 hc
      refine g_aload_n dX7_stepByChoice_34 rfl rfl ?_
      refine g_aload_n dX7_stepByChoice_35 rfl rfl ?_
      refine g_iload_n dX7_stepByChoice_36 rfl rfl ?_
      refine g_aload_n dX7_stepByChoice_37 rfl rfl ?_
      refine g_iload_n dX7_stepByChoice_38 rfl rfl ?_
      refine g_callVI [.int x2] (ci := 2) dX7_stepByChoice_39 ml_X7_34 mk_X2_openRoads rfl rfl sh14 (Nat.le_of_ble_eq_true rfl) (Nat.le_of_ble_eq_true rfl) rfl (c_Land_openRoads hw) (fun r1 h2 hw => ?_)
      refine g_callVV [.ref (gAd G 14), .int x2, .int r1] (ci := 7) dX7_stepByChoice_42 ml_X7_38 mk_X7_step rfl rfl sh92 (Nat.le_of_ble_eq_true rfl) (Nat.le_of_ble_eq_true rfl) rfl (c_Sums_step hw) (fun h3 hw => ?_)
      exact g_vret dX7_stepByChoice_45 hw
    · have hw := hw.2 hc
      refine g_aload_n dX7_stepByChoice_8 rfl rfl ?_
      refine g_getA dX7_stepByChoice_9 fl_X7_15 sh92 rfl ?_
      refine g_iload_n dX7_stepByChoice_12 rfl rfl ?_
      refine g_aload_n dX7_stepByChoice_13 rfl rfl ?_
      refine g_iload_n dX7_stepByChoice_14 rfl rfl ?_
      refine g_iload_n dX7_stepByChoice_15 rfl rfl ?_
      refine g_callVI [.int x2, .int x3] (ci := 2) dX7_stepByChoice_16 ml_X7_28 mk_X2_openFrom rfl rfl sh14 (Nat.le_of_ble_eq_true rfl) (Nat.le_of_ble_eq_true rfl) rfl (c_Land_openFrom hw) (fun r4 h5 hw => ?_)
      refine jn_el hw (fun J27 eJ27 hw => ?_)
      have hJ27 : ∀ (s6 : Int32) (h7 : Hp), J27 s6 h7 → Go cX7_stepByChoice 4 RX7 none 5 G (QV G Q) 27 [(0, .ref (gAd G 92)), (1, .ref (gAd G 14)), (2, .int x2), (3, .int x3)] [.int s6, .int x3, .ref (gAd G 94)] h7 := by
        intro s6 h7 hw
        subst eJ27
        refine g_iast dX7_stepByChoice_27 ia94 al94 hw.1 ?_
        have hw := hw.2
        refine g_heap (fun h8 eh8 => ?_)
        have hw := hw h8 eh8
        obtain ⟨v9, ev9⟩ : ∃ y : Int32, y = (x3 + 1) := ⟨_, rfl⟩
        have hw := hw v9 ev9
        refine g_iinc dX7_stepByChoice_28 rfl (by rw [ev9]; rfl) (by decide) (lv1 := [(0, .ref (gAd G 92)), (1, .ref (gAd G 14)), (2, .int x2), (3, .int v9)]) rfl ?_
        refine g_goto 2 dX7_stepByChoice_31 rfl ?_
        exact ih _ _ hw
      refine g_if_ne 26 dX7_stepByChoice_19 rfl (fun hc => ?_) (fun hc => ?_)
      · have hw := hw.1 hc
        refine g_iconst (v := 0) dX7_stepByChoice_26 (by decide) ?_
        exact hJ27 _ _ hw
      · have hw := hw.2 hc
        refine g_iconst (v := 1) dX7_stepByChoice_22 (by decide) ?_
        refine g_goto 27 dX7_stepByChoice_23 rfl ?_
        exact hJ27 _ _ hw
def Sums_stepByChoice (x2 : Int32) (h : Hp) (Q : Hp → Prop) : Prop := ∃ n10, Sums_stepByChoice_L2 x2 Q n10 0 h
set_option maxHeartbeats 4000000 in
set_option maxRecDepth 20000 in
theorem c_Sums_stepByChoice {G : Gx}  {x2 : Int32} {h : Hp} {Q : Hp → Prop} (hw : Sums_stepByChoice x2 h Q) : Ct yX7_stepByChoice cX7_stepByChoice 4 none 5 G [.ref (gAd G 92), .ref (gAd G 14), .int x2] h (QV G Q) := by
  refine ct_go [(0, .ref (gAd G 92)), (1, .ref (gAd G 14)), (2, .int x2)] (plainFor_of_name (by decide)) rfl (Nat.le_of_ble_eq_true rfl) rfl ?_
  refine g_iconst (v := 0) dX7_stepByChoice_0 (by decide) ?_
  refine g_istore_n dX7_stepByChoice_1 rfl (by decide) (lv1 := [(0, .ref (gAd G 92)), (1, .ref (gAd G 14)), (2, .int x2), (3, .int 0)]) rfl ?_
  obtain ⟨n10, hw⟩ := hw
  refine gl_Sums_stepByChoice_L2   _ _ _ hw
theorem dX11_countRows_0 : decode cX11_countRows 0 = .ok (.aload_n 0, 1) := by decide +kernel
theorem dX11_countRows_1 : decode cX11_countRows 1 = .ok (.getfield 86, 3) := by decide +kernel
theorem dX11_countRows_4 : decode cX11_countRows 4 = .ok (.aload_n 0, 1) := by decide +kernel
theorem dX11_countRows_5 : decode cX11_countRows 5 = .ok (.getfield 34, 3) := by decide +kernel
theorem dX11_countRows_8 : decode cX11_countRows 8 = .ok (.getfield 238, 3) := by decide +kernel
theorem dX11_countRows_11 : decode cX11_countRows 11 = .ok (.invokevirtual 352, 3) := by decide +kernel
theorem dX11_countRows_14 : decode cX11_countRows 14 = .ok (.iconst 0, 1) := by decide +kernel
theorem dX11_countRows_15 : decode cX11_countRows 15 = .ok (.istore_n 2, 1) := by decide +kernel
theorem dX11_countRows_16 : decode cX11_countRows 16 = .ok (.iload_n 2, 1) := by decide +kernel
theorem dX11_countRows_17 : decode cX11_countRows 17 = .ok (.iload_n 1, 1) := by decide +kernel
theorem dX11_countRows_18 : decode cX11_countRows 18 = .ok (.if_icmp .ge 27, 3) := by decide +kernel
theorem dX11_countRows_21 : decode cX11_countRows 21 = .ok (.aload_n 0, 1) := by decide +kernel
theorem dX11_countRows_22 : decode cX11_countRows 22 = .ok (.getfield 86, 3) := by decide +kernel
theorem dX11_countRows_25 : decode cX11_countRows 25 = .ok (.aload_n 0, 1) := by decide +kernel
theorem dX11_countRows_26 : decode cX11_countRows 26 = .ok (.getfield 27, 3) := by decide +kernel
theorem dX11_countRows_29 : decode cX11_countRows 29 = .ok (.aload_n 0, 1) := by decide +kernel
theorem dX11_countRows_30 : decode cX11_countRows 30 = .ok (.getfield 34, 3) := by decide +kernel
theorem dX11_countRows_33 : decode cX11_countRows 33 = .ok (.getfield 140, 3) := by decide +kernel
theorem dX11_countRows_36 : decode cX11_countRows 36 = .ok (.invokevirtual 353, 3) := by decide +kernel
theorem dX11_countRows_39 : decode cX11_countRows 39 = .ok (.iinc 2 1, 3) := by decide +kernel
theorem dX11_countRows_42 : decode cX11_countRows 42 = .ok (.goto (-26), 3) := by decide +kernel
theorem dX11_countRows_45 : decode cX11_countRows 45 = .ok (.return_, 1) := by decide +kernel
theorem fl_X11_86 : FLk RX11 86 11 13 := ⟨_, rfl, by decide, mW 392 (by decide +kernel) rfl⟩
theorem ml_X11_352 : Cond.methodLink RX11 352 yX7_begin ∈ Wd := mW 1206 (by decide +kernel) rfl
theorem mk_X7_begin : MokV yX7_begin cX7_begin 3 none 1 := ⟨⟨mW 12 (by decide +kernel) rfl, mW 1209 (by decide +kernel) rfl, ⟨by decide, by decide, by decide +kernel⟩, by decide⟩, mW 1207 (by decide +kernel) rfl, mW 1208 (by decide +kernel) rfl⟩
theorem ml_X11_353 : Cond.methodLink RX11 353 yX7_stepByChoice ∈ Wd := mW 1210 (by decide +kernel) rfl
theorem mk_X7_stepByChoice : MokV yX7_stepByChoice cX7_stepByChoice 4 none 2 := ⟨⟨mW 12 (by decide +kernel) rfl, mW 1213 (by decide +kernel) rfl, ⟨by decide, by decide, by decide +kernel⟩, by decide⟩, mW 1211 (by decide +kernel) rfl, mW 1212 (by decide +kernel) rfl⟩
def C_countRows_L16 (x1 : Int32) (Q : Hp → Prop) : Nat → Int32 → Hp → Prop
  | 0, _, _ => False
  | n + 1, x2, h => (x1 ≤ x2 → Q h) ∧ (¬ x1 ≤ x2 → Sums_stepByChoice (gI h 20 3) h (fun h2 => ∀ v3 : Int32, v3 = (x2 + 1) → C_countRows_L16 x1 Q n v3 h2))
set_option maxHeartbeats 4000000 in
set_option maxRecDepth 20000 in
theorem gl_C_countRows_L16 {G : Gx}  {x1 : Int32} {Q : Hp → Prop} : ∀ (n : Nat) (x2 : Int32) (h : Hp), C_countRows_L16 x1 Q n x2 h → Go cX11_countRows 3 RX11 none 6 G (QV G Q) 16 [(0, .ref (gAd G 0)), (1, .int x1), (2, .int x2)] [] h := by
  intro n
  induction n with
  | zero => intro _ h hw; exact False.elim hw
  | succ n ih =>
    intro x2 h hw
    refine g_iload_n dX11_countRows_16 rfl rfl ?_
    refine g_iload_n dX11_countRows_17 rfl rfl ?_
    refine g_icmp_ge 45 dX11_countRows_18 rfl (fun hc => ?_) (fun hc => ?_)
    · have hw := hw.1 hc
      exact g_vret dX11_countRows_45 hw
    · have hw := hw.2 hc
      refine g_aload_n dX11_countRows_21 rfl rfl ?_
      refine g_getO dX11_countRows_22 fl_X11_86 sh0 rfl ?_
      refine g_aload_n dX11_countRows_25 rfl rfl ?_
      refine g_getO dX11_countRows_26 fl_X11_27 sh0 rfl ?_
      refine g_aload_n dX11_countRows_29 rfl rfl ?_
      refine g_getO dX11_countRows_30 fl_X11_34 sh0 rfl ?_
      refine g_getI dX11_countRows_33 fl_X11_140 sh20 rfl ?_
      refine g_callVV [.ref (gAd G 14), .int (gI h 20 3)] (ci := 7) dX11_countRows_36 ml_X11_353 mk_X7_stepByChoice rfl rfl sh92 (Nat.le_of_ble_eq_true rfl) (Nat.le_of_ble_eq_true rfl) rfl (c_Sums_stepByChoice hw) (fun h2 hw => ?_)
      obtain ⟨v3, ev3⟩ : ∃ y : Int32, y = (x2 + 1) := ⟨_, rfl⟩
      have hw := hw v3 ev3
      refine g_iinc dX11_countRows_39 rfl (by rw [ev3]; rfl) (by decide) (lv1 := [(0, .ref (gAd G 0)), (1, .int x1), (2, .int v3)]) rfl ?_
      refine g_goto 16 dX11_countRows_42 rfl ?_
      exact ih _ _ hw
def C_countRows (x1 : Int32) (h : Hp) (Q : Hp → Prop) : Prop := Sums_begin (gI h 20 0) h (fun h1 => ∃ n4, C_countRows_L16 x1 Q n4 0 h1)
set_option maxHeartbeats 4000000 in
set_option maxRecDepth 20000 in
theorem c_C_countRows {G : Gx}  {x1 : Int32} {h : Hp} {Q : Hp → Prop} (hw : C_countRows x1 h Q) : Ct yX11_countRows cX11_countRows 3 none 6 G [.ref (gAd G 0), .int x1] h (QV G Q) := by
  refine ct_go [(0, .ref (gAd G 0)), (1, .int x1)] (plainFor_of_name (by decide)) rfl (Nat.le_of_ble_eq_true rfl) rfl ?_
  refine g_aload_n dX11_countRows_0 rfl rfl ?_
  refine g_getO dX11_countRows_1 fl_X11_86 sh0 rfl ?_
  refine g_aload_n dX11_countRows_4 rfl rfl ?_
  refine g_getO dX11_countRows_5 fl_X11_34 sh0 rfl ?_
  refine g_getI dX11_countRows_8 fl_X11_238 sh20 rfl ?_
  refine g_callVV [.int (gI h 20 0)] (ci := 7) dX11_countRows_11 ml_X11_352 mk_X7_begin rfl rfl sh92 (Nat.le_of_ble_eq_true rfl) (Nat.le_of_ble_eq_true rfl) rfl (c_Sums_begin hw) (fun h1 hw => ?_)
  refine g_iconst (v := 0) dX11_countRows_14 (by decide) ?_
  refine g_istore_n dX11_countRows_15 rfl (by decide) (lv1 := [(0, .ref (gAd G 0)), (1, .int x1), (2, .int 0)]) rfl ?_
  obtain ⟨n4, hw⟩ := hw
  refine gl_C_countRows_L16   _ _ _ hw
theorem dX7_rowsWith_0 : decode cX7_rowsWith 0 = .ok (.iconst 0, 1) := by decide +kernel
theorem dX7_rowsWith_1 : decode cX7_rowsWith 1 = .ok (.istore_n 2, 1) := by decide +kernel
theorem dX7_rowsWith_2 : decode cX7_rowsWith 2 = .ok (.iconst 0, 1) := by decide +kernel
theorem dX7_rowsWith_3 : decode cX7_rowsWith 3 = .ok (.istore_n 3, 1) := by decide +kernel
theorem dX7_rowsWith_4 : decode cX7_rowsWith 4 = .ok (.iload_n 3, 1) := by decide +kernel
theorem dX7_rowsWith_5 : decode cX7_rowsWith 5 = .ok (.bipush 8, 2) := by decide +kernel
theorem dX7_rowsWith_7 : decode cX7_rowsWith 7 = .ok (.if_icmp .ge 18, 3) := by decide +kernel
theorem dX7_rowsWith_10 : decode cX7_rowsWith 10 = .ok (.iload_n 2, 1) := by decide +kernel
theorem dX7_rowsWith_11 : decode cX7_rowsWith 11 = .ok (.aload_n 0, 1) := by decide +kernel
theorem dX7_rowsWith_12 : decode cX7_rowsWith 12 = .ok (.iload_n 1, 1) := by decide +kernel
theorem dX7_rowsWith_13 : decode cX7_rowsWith 13 = .ok (.iload_n 3, 1) := by decide +kernel
theorem dX7_rowsWith_14 : decode cX7_rowsWith 14 = .ok (.invokevirtual 61, 3) := by decide +kernel
theorem dX7_rowsWith_17 : decode cX7_rowsWith 17 = .ok (.iadd, 1) := by decide +kernel
theorem dX7_rowsWith_18 : decode cX7_rowsWith 18 = .ok (.istore_n 2, 1) := by decide +kernel
theorem dX7_rowsWith_19 : decode cX7_rowsWith 19 = .ok (.iinc 3 1, 3) := by decide +kernel
theorem dX7_rowsWith_22 : decode cX7_rowsWith 22 = .ok (.goto (-18), 3) := by decide +kernel
theorem dX7_rowsWith_25 : decode cX7_rowsWith 25 = .ok (.iload_n 2, 1) := by decide +kernel
theorem dX7_rowsWith_26 : decode cX7_rowsWith 26 = .ok (.ireturn, 1) := by decide +kernel
def Sums_rowsWith_L4 (x1 : Int32) (Q : Int32 → Hp → Prop) : Nat → Int32 → Int32 → Hp → Prop
  | 0, _, _, _ => False
  | n + 1, x2, x3, h => (8 ≤ x3 → Q x2 h) ∧ (¬ 8 ≤ x3 → Sums_rowsAt x1 x3 h (fun r1 h2 => ∀ v3 : Int32, v3 = (x2 + r1) → ∀ v4 : Int32, v4 = (x3 + 1) → Sums_rowsWith_L4 x1 Q n v3 v4 h2))
set_option maxHeartbeats 4000000 in
set_option maxRecDepth 20000 in
theorem gl_Sums_rowsWith_L4 {G : Gx}  {x1 : Int32} {Q : Int32 → Hp → Prop} : ∀ (n : Nat) (x2 : Int32) (x3 : Int32) (h : Hp), Sums_rowsWith_L4 x1 Q n x2 x3 h → Go cX7_rowsWith 4 RX7 (some .int) 2 G (QI G Q) 4 [(0, .ref (gAd G 92)), (1, .int x1), (2, .int x2), (3, .int x3)] [] h := by
  intro n
  induction n with
  | zero => intro _ _ h hw; exact False.elim hw
  | succ n ih =>
    intro x2 x3 h hw
    refine g_iload_n dX7_rowsWith_4 rfl rfl ?_
    refine g_bipush (v := 8) dX7_rowsWith_5 (by decide) ?_
    refine g_icmp_ge 25 dX7_rowsWith_7 rfl (fun hc => ?_) (fun hc => ?_)
    · have hw := hw.1 hc
      refine g_iload_n dX7_rowsWith_25 rfl rfl ?_
      exact g_iret dX7_rowsWith_26 hw
    · have hw := hw.2 hc
      refine g_iload_n dX7_rowsWith_10 rfl rfl ?_
      refine g_aload_n dX7_rowsWith_11 rfl rfl ?_
      refine g_iload_n dX7_rowsWith_12 rfl rfl ?_
      refine g_iload_n dX7_rowsWith_13 rfl rfl ?_
      refine g_callVI [.int x1, .int x3] (ci := 7) dX7_rowsWith_14 ml_X7_61 mk_X7_rowsAt rfl rfl sh92 (Nat.le_of_ble_eq_true rfl) (Nat.le_of_ble_eq_true rfl) rfl (c_Sums_rowsAt hw) (fun r1 h2 hw => ?_)
      refine g_iadd dX7_rowsWith_17 ?_
      refine g_topi (fun v3 ev3 => ?_)
      have hw := hw v3 ev3
      refine g_istore_n dX7_rowsWith_18 rfl (by decide) (lv1 := [(0, .ref (gAd G 92)), (1, .int x1), (2, .int v3), (3, .int x3)]) rfl ?_
      obtain ⟨v4, ev4⟩ : ∃ y : Int32, y = (x3 + 1) := ⟨_, rfl⟩
      have hw := hw v4 ev4
      refine g_iinc dX7_rowsWith_19 rfl (by rw [ev4]; rfl) (by decide) (lv1 := [(0, .ref (gAd G 92)), (1, .int x1), (2, .int v3), (3, .int v4)]) rfl ?_
      refine g_goto 4 dX7_rowsWith_22 rfl ?_
      exact ih _ _ _ hw
def Sums_rowsWith (x1 : Int32) (h : Hp) (Q : Int32 → Hp → Prop) : Prop := ∃ n5, Sums_rowsWith_L4 x1 Q n5 0 0 h
set_option maxHeartbeats 4000000 in
set_option maxRecDepth 20000 in
theorem c_Sums_rowsWith {G : Gx}  {x1 : Int32} {h : Hp} {Q : Int32 → Hp → Prop} (hw : Sums_rowsWith x1 h Q) : Ct yX7_rowsWith cX7_rowsWith 4 (some .int) 2 G [.ref (gAd G 92), .int x1] h (QI G Q) := by
  refine ct_go [(0, .ref (gAd G 92)), (1, .int x1)] (plainFor_of_name (by decide)) rfl (Nat.le_of_ble_eq_true rfl) rfl ?_
  refine g_iconst (v := 0) dX7_rowsWith_0 (by decide) ?_
  refine g_istore_n dX7_rowsWith_1 rfl (by decide) (lv1 := [(0, .ref (gAd G 92)), (1, .int x1), (2, .int 0)]) rfl ?_
  refine g_iconst (v := 0) dX7_rowsWith_2 (by decide) ?_
  refine g_istore_n dX7_rowsWith_3 rfl (by decide) (lv1 := [(0, .ref (gAd G 92)), (1, .int x1), (2, .int 0), (3, .int 0)]) rfl ?_
  obtain ⟨n5, hw⟩ := hw
  refine gl_Sums_rowsWith_L4   _ _ _ _ hw
theorem dX7_rowsPaying_0 : decode cX7_rowsPaying 0 = .ok (.iload_n 1, 1) := by decide +kernel
theorem dX7_rowsPaying_1 : decode cX7_rowsPaying 1 = .ok (.aload_n 0, 1) := by decide +kernel
theorem dX7_rowsPaying_2 : decode cX7_rowsPaying 2 = .ok (.getfield 21, 3) := by decide +kernel
theorem dX7_rowsPaying_5 : decode cX7_rowsPaying 5 = .ok (.if_icmp .lt 16, 3) := by decide +kernel
theorem dX7_rowsPaying_8 : decode cX7_rowsPaying 8 = .ok (.iload_n 1, 1) := by decide +kernel
theorem dX7_rowsPaying_9 : decode cX7_rowsPaying 9 = .ok (.aload_n 0, 1) := by decide +kernel
theorem dX7_rowsPaying_10 : decode cX7_rowsPaying 10 = .ok (.getfield 21, 3) := by decide +kernel
theorem dX7_rowsPaying_13 : decode cX7_rowsPaying 13 = .ok (.aload_n 0, 1) := by decide +kernel
theorem dX7_rowsPaying_14 : decode cX7_rowsPaying 14 = .ok (.getfield 25, 3) := by decide +kernel
theorem dX7_rowsPaying_17 : decode cX7_rowsPaying 17 = .ok (.iadd, 1) := by decide +kernel
theorem dX7_rowsPaying_18 : decode cX7_rowsPaying 18 = .ok (.if_icmp .lt 7, 3) := by decide +kernel
theorem dX7_rowsPaying_21 : decode cX7_rowsPaying 21 = .ok (.iconst 0, 1) := by decide +kernel
theorem dX7_rowsPaying_22 : decode cX7_rowsPaying 22 = .ok (.goto 13, 3) := by decide +kernel
theorem dX7_rowsPaying_25 : decode cX7_rowsPaying 25 = .ok (.aload_n 0, 1) := by decide +kernel
theorem dX7_rowsPaying_26 : decode cX7_rowsPaying 26 = .ok (.iload_n 1, 1) := by decide +kernel
theorem dX7_rowsPaying_27 : decode cX7_rowsPaying 27 = .ok (.aload_n 0, 1) := by decide +kernel
theorem dX7_rowsPaying_28 : decode cX7_rowsPaying 28 = .ok (.getfield 21, 3) := by decide +kernel
theorem dX7_rowsPaying_31 : decode cX7_rowsPaying 31 = .ok (.isub, 1) := by decide +kernel
theorem dX7_rowsPaying_32 : decode cX7_rowsPaying 32 = .ok (.invokevirtual 86, 3) := by decide +kernel
theorem dX7_rowsPaying_35 : decode cX7_rowsPaying 35 = .ok (.ireturn, 1) := by decide +kernel
theorem ml_X7_86 : Cond.methodLink RX7 86 yX7_rowsWith ∈ Wd := mW 1249 (by decide +kernel) rfl
theorem mk_X7_rowsWith : MokV yX7_rowsWith cX7_rowsWith 4 (some .int) 1 := ⟨⟨mW 12 (by decide +kernel) rfl, mW 1252 (by decide +kernel) rfl, ⟨by decide, by decide, by decide +kernel⟩, by decide⟩, mW 1251 (by decide +kernel) rfl, mS (q := (yX7_rowsWith, 5)) 46 (by decide +kernel)⟩
def Sums_rowsPaying (x1 : Int32) (h : Hp) (Q : Int32 → Hp → Prop) : Prop := ∀ J21 : Hp → Prop, J21 = (fun h1 => Q 0 h1) → (x1 < (gI h 92 3) → J21 h) ∧ (¬ x1 < (gI h 92 3) → (x1 < ((gI h 92 3) + (gI h 92 4)) → Sums_rowsWith (x1 - (gI h 92 3)) h (fun r2 h3 => Q r2 h3)) ∧ (¬ x1 < ((gI h 92 3) + (gI h 92 4)) → J21 h))
set_option maxHeartbeats 4000000 in
set_option maxRecDepth 20000 in
theorem c_Sums_rowsPaying {G : Gx}  {x1 : Int32} {h : Hp} {Q : Int32 → Hp → Prop} (hw : Sums_rowsPaying x1 h Q) : Ct yX7_rowsPaying cX7_rowsPaying 2 (some .int) 3 G [.ref (gAd G 92), .int x1] h (QI G Q) := by
  refine ct_go [(0, .ref (gAd G 92)), (1, .int x1)] (plainFor_of_name (by decide)) rfl (Nat.le_of_ble_eq_true rfl) rfl ?_
  refine g_iload_n dX7_rowsPaying_0 rfl rfl ?_
  refine g_aload_n dX7_rowsPaying_1 rfl rfl ?_
  refine g_getI dX7_rowsPaying_2 fl_X7_21 sh92 rfl ?_
  refine jn_el hw (fun J21 eJ21 hw => ?_)
  have hJ21 : ∀ (h1 : Hp), J21 h1 → Go cX7_rowsPaying 2 RX7 (some .int) 3 G (QI G Q) 21 [] [] h1 := by
    intro h1 hw
    subst eJ21
    refine g_iconst (v := 0) dX7_rowsPaying_21 (by decide) ?_
    refine g_goto 35 dX7_rowsPaying_22 rfl ?_
    exact g_iret dX7_rowsPaying_35 hw
  refine g_icmp_lt 21 dX7_rowsPaying_5 rfl (fun hc => ?_) (fun hc => ?_)
  · have hw := hw.1 hc
    refine g_lv [] rfl ?_
    exact hJ21 _ hw
  · have hw := hw.2 hc
    refine g_iload_n dX7_rowsPaying_8 rfl rfl ?_
    refine g_aload_n dX7_rowsPaying_9 rfl rfl ?_
    refine g_getI dX7_rowsPaying_10 fl_X7_21 sh92 rfl ?_
    refine g_aload_n dX7_rowsPaying_13 rfl rfl ?_
    refine g_getI dX7_rowsPaying_14 fl_X7_25 sh92 rfl ?_
    refine g_iadd dX7_rowsPaying_17 ?_
    refine g_icmp_lt 25 dX7_rowsPaying_18 rfl (fun hc => ?_) (fun hc => ?_)
    · have hw := hw.1 hc
      refine g_aload_n dX7_rowsPaying_25 rfl rfl ?_
      refine g_iload_n dX7_rowsPaying_26 rfl rfl ?_
      refine g_aload_n dX7_rowsPaying_27 rfl rfl ?_
      refine g_getI dX7_rowsPaying_28 fl_X7_21 sh92 rfl ?_
      refine g_isub dX7_rowsPaying_31 ?_
      refine g_callVI [.int (x1 - (gI h 92 3))] (ci := 7) dX7_rowsPaying_32 ml_X7_86 mk_X7_rowsWith rfl rfl sh92 (Nat.le_of_ble_eq_true rfl) (Nat.le_of_ble_eq_true rfl) rfl (c_Sums_rowsWith hw) (fun r2 h3 hw => ?_)
      exact g_iret dX7_rowsPaying_35 hw
    · have hw := hw.2 hc
      refine g_lv [] rfl ?_
      exact hJ21 _ hw
theorem dX11_rows_0 : decode cX11_rows 0 = .ok (.iload_n 1, 1) := by decide +kernel
theorem dX11_rows_1 : decode cX11_rows 1 = .ok (.invokestatic 340, 3) := by decide +kernel
theorem dX11_rows_4 : decode cX11_rows 4 = .ok (.ifCond .ne 6, 3) := by decide +kernel
theorem dX11_rows_7 : decode cX11_rows 7 = .ok (.bipush (-3), 2) := by decide +kernel
theorem dX11_rows_9 : decode cX11_rows 9 = .ok (.ireturn, 1) := by decide +kernel
theorem dX11_rows_10 : decode cX11_rows 10 = .ok (.aload_n 0, 1) := by decide +kernel
theorem dX11_rows_11 : decode cX11_rows 11 = .ok (.iload_n 1, 1) := by decide +kernel
theorem dX11_rows_12 : decode cX11_rows 12 = .ok (.invokevirtual 343, 3) := by decide +kernel
theorem dX11_rows_15 : decode cX11_rows 15 = .ok (.aload_n 0, 1) := by decide +kernel
theorem dX11_rows_16 : decode cX11_rows 16 = .ok (.getfield 86, 3) := by decide +kernel
theorem dX11_rows_19 : decode cX11_rows 19 = .ok (.iload_n 2, 1) := by decide +kernel
theorem dX11_rows_20 : decode cX11_rows 20 = .ok (.invokevirtual 346, 3) := by decide +kernel
theorem dX11_rows_23 : decode cX11_rows 23 = .ok (.ireturn, 1) := by decide +kernel
theorem ml_X11_340 : Cond.methodLink RX11 340 yX11_isRow ∈ Wd := mW 1199 (by decide +kernel) rfl
theorem mk_X11_isRow : MokS yX11_isRow cX11_isRow 1 (some .boolean) 1 := ⟨⟨mW 1 (by decide +kernel) rfl, mW 1201 (by decide +kernel) rfl, ⟨by decide, by decide, by decide +kernel⟩, by decide⟩, mW 1200 (by decide +kernel) rfl⟩
theorem ml_X11_343 : Cond.methodLink RX11 343 yX11_countRows ∈ Wd := mW 1202 (by decide +kernel) rfl
theorem mk_X11_countRows : MokV yX11_countRows cX11_countRows 3 none 1 := ⟨⟨mW 1 (by decide +kernel) rfl, mW 1205 (by decide +kernel) rfl, ⟨by decide, by decide, by decide +kernel⟩, by decide⟩, mW 1204 (by decide +kernel) rfl, mS (q := (yX11_countRows, 16)) 42 (by decide +kernel)⟩
theorem ml_X11_346 : Cond.methodLink RX11 346 yX7_rowsPaying ∈ Wd := mW 1245 (by decide +kernel) rfl
theorem mk_X7_rowsPaying : MokV yX7_rowsPaying cX7_rowsPaying 2 (some .int) 1 := ⟨⟨mW 12 (by decide +kernel) rfl, mW 1248 (by decide +kernel) rfl, ⟨by decide, by decide, by decide +kernel⟩, by decide⟩, mW 1246 (by decide +kernel) rfl, mW 1247 (by decide +kernel) rfl⟩
def C_rows (x1 : Int32) (x2 : Int32) (h : Hp) (Q : Int32 → Hp → Prop) : Prop := C_isRow x1 h (fun r1 h2 => (¬ r1 = 0 → C_countRows x1 h2 (fun h3 => Sums_rowsPaying x2 h3 (fun r4 h5 => Q r4 h5))) ∧ (r1 = 0 → Q (-3) h2))
set_option maxHeartbeats 4000000 in
set_option maxRecDepth 20000 in
theorem c_C_rows {G : Gx}  {x1 : Int32} {x2 : Int32} {h : Hp} {Q : Int32 → Hp → Prop} (hw : C_rows x1 x2 h Q) : Ct yX11_rows cX11_rows 3 (some .int) 7 G [.ref (gAd G 0), .int x1, .int x2] h (QI G Q) := by
  refine ct_go [(0, .ref (gAd G 0)), (1, .int x1), (2, .int x2)] (plainFor_of_name (by decide)) rfl (Nat.le_of_ble_eq_true rfl) rfl ?_
  refine g_iload_n dX11_rows_0 rfl rfl ?_
  refine g_callSI [.int x1] dX11_rows_1 ml_X11_340 mk_X11_isRow rfl (Nat.le_of_ble_eq_true rfl) (Nat.le_of_ble_eq_true rfl) rfl (c_C_isRow hw) (fun r1 h2 hw => ?_)
  refine g_if_ne 10 dX11_rows_4 rfl (fun hc => ?_) (fun hc => ?_)
  · have hw := hw.1 hc
    refine g_aload_n dX11_rows_10 rfl rfl ?_
    refine g_iload_n dX11_rows_11 rfl rfl ?_
    refine g_callVV [.int x1] (ci := 11) dX11_rows_12 ml_X11_343 mk_X11_countRows rfl rfl sh0 (Nat.le_of_ble_eq_true rfl) (Nat.le_of_ble_eq_true rfl) rfl (c_C_countRows hw) (fun h3 hw => ?_)
    refine g_aload_n dX11_rows_15 rfl rfl ?_
    refine g_getO dX11_rows_16 fl_X11_86 sh0 rfl ?_
    refine g_iload_n dX11_rows_19 rfl rfl ?_
    refine g_callVI [.int x2] (ci := 7) dX11_rows_20 ml_X11_346 mk_X7_rowsPaying rfl rfl sh92 (Nat.le_of_ble_eq_true rfl) (Nat.le_of_ble_eq_true rfl) rfl (c_Sums_rowsPaying hw) (fun r4 h5 hw => ?_)
    exact g_iret dX11_rows_23 hw
  · have hw := hw.2 hc
    refine g_bipush (v := (-3)) dX11_rows_7 (by decide) ?_
    exact g_iret dX11_rows_9 hw
theorem dX7_unlikeSums_0 : decode cX7_unlikeSums 0 = .ok (.iconst 0, 1) := by decide +kernel
theorem dX7_unlikeSums_1 : decode cX7_unlikeSums 1 = .ok (.istore_n 2, 1) := by decide +kernel
theorem dX7_unlikeSums_2 : decode cX7_unlikeSums 2 = .ok (.iconst 0, 1) := by decide +kernel
theorem dX7_unlikeSums_3 : decode cX7_unlikeSums 3 = .ok (.istore_n 3, 1) := by decide +kernel
theorem dX7_unlikeSums_4 : decode cX7_unlikeSums 4 = .ok (.iload_n 3, 1) := by decide +kernel
theorem dX7_unlikeSums_5 : decode cX7_unlikeSums 5 = .ok (.aload_n 0, 1) := by decide +kernel
theorem dX7_unlikeSums_6 : decode cX7_unlikeSums 6 = .ok (.getfield 25, 3) := by decide +kernel
theorem dX7_unlikeSums_9 : decode cX7_unlikeSums 9 = .ok (.if_icmp .ge 68, 3) := by decide +kernel
theorem dX7_unlikeSums_12 : decode cX7_unlikeSums 12 = .ok (.iconst 0, 1) := by decide +kernel
theorem dX7_unlikeSums_13 : decode cX7_unlikeSums 13 = .ok (.istore 4, 2) := by decide +kernel
theorem dX7_unlikeSums_15 : decode cX7_unlikeSums 15 = .ok (.iconst 0, 1) := by decide +kernel
theorem dX7_unlikeSums_16 : decode cX7_unlikeSums 16 = .ok (.istore 5, 2) := by decide +kernel
theorem dX7_unlikeSums_18 : decode cX7_unlikeSums 18 = .ok (.iload 5, 2) := by decide +kernel
theorem dX7_unlikeSums_20 : decode cX7_unlikeSums 20 = .ok (.bipush 8, 2) := by decide +kernel
theorem dX7_unlikeSums_22 : decode cX7_unlikeSums 22 = .ok (.if_icmp .ge 41, 3) := by decide +kernel
theorem dX7_unlikeSums_25 : decode cX7_unlikeSums 25 = .ok (.iload 4, 2) := by decide +kernel
theorem dX7_unlikeSums_27 : decode cX7_unlikeSums 27 = .ok (.ifCond .ne 23, 3) := by decide +kernel
theorem dX7_unlikeSums_30 : decode cX7_unlikeSums 30 = .ok (.iload_n 1, 1) := by decide +kernel
theorem dX7_unlikeSums_31 : decode cX7_unlikeSums 31 = .ok (.iload 5, 2) := by decide +kernel
theorem dX7_unlikeSums_33 : decode cX7_unlikeSums 33 = .ok (.ishr, 1) := by decide +kernel
theorem dX7_unlikeSums_34 : decode cX7_unlikeSums 34 = .ok (.iconst 1, 1) := by decide +kernel
theorem dX7_unlikeSums_35 : decode cX7_unlikeSums 35 = .ok (.iand, 1) := by decide +kernel
theorem dX7_unlikeSums_36 : decode cX7_unlikeSums 36 = .ok (.iconst 1, 1) := by decide +kernel
theorem dX7_unlikeSums_37 : decode cX7_unlikeSums 37 = .ok (.if_icmp .ne 17, 3) := by decide +kernel
theorem dX7_unlikeSums_40 : decode cX7_unlikeSums 40 = .ok (.aload_n 0, 1) := by decide +kernel
theorem dX7_unlikeSums_41 : decode cX7_unlikeSums 41 = .ok (.iload_n 3, 1) := by decide +kernel
theorem dX7_unlikeSums_42 : decode cX7_unlikeSums 42 = .ok (.iload 5, 2) := by decide +kernel
theorem dX7_unlikeSums_44 : decode cX7_unlikeSums 44 = .ok (.invokevirtual 61, 3) := by decide +kernel
theorem dX7_unlikeSums_47 : decode cX7_unlikeSums 47 = .ok (.ifCond .eq 7, 3) := by decide +kernel
theorem dX7_unlikeSums_50 : decode cX7_unlikeSums 50 = .ok (.iconst 1, 1) := by decide +kernel
theorem dX7_unlikeSums_51 : decode cX7_unlikeSums 51 = .ok (.goto 4, 3) := by decide +kernel
theorem dX7_unlikeSums_54 : decode cX7_unlikeSums 54 = .ok (.iconst 0, 1) := by decide +kernel
theorem dX7_unlikeSums_55 : decode cX7_unlikeSums 55 = .ok (.istore 4, 2) := by decide +kernel
theorem dX7_unlikeSums_57 : decode cX7_unlikeSums 57 = .ok (.iinc 5 1, 3) := by decide +kernel
theorem dX7_unlikeSums_60 : decode cX7_unlikeSums 60 = .ok (.goto (-42), 3) := by decide +kernel
theorem dX7_unlikeSums_63 : decode cX7_unlikeSums 63 = .ok (.iload 4, 2) := by decide +kernel
theorem dX7_unlikeSums_65 : decode cX7_unlikeSums 65 = .ok (.ifCond .eq 6, 3) := by decide +kernel
theorem dX7_unlikeSums_68 : decode cX7_unlikeSums 68 = .ok (.iinc 2 1, 3) := by decide +kernel
theorem dX7_unlikeSums_71 : decode cX7_unlikeSums 71 = .ok (.iinc 3 1, 3) := by decide +kernel
theorem dX7_unlikeSums_74 : decode cX7_unlikeSums 74 = .ok (.goto (-70), 3) := by decide +kernel
theorem dX7_unlikeSums_77 : decode cX7_unlikeSums 77 = .ok (.iload_n 2, 1) := by decide +kernel
theorem dX7_unlikeSums_78 : decode cX7_unlikeSums 78 = .ok (.ireturn, 1) := by decide +kernel
def Sums_unlikeSums_L18 (x1 : Int32) (x2 : Int32) (x3 : Int32) (K63 : Int32 → Hp → Prop) : Nat → Int32 → Int32 → Hp → Prop
  | 0, _, _, _ => False
  | n + 1, x4, x5, h => (8 ≤ x5 → K63 x4 h) ∧ (¬ 8 ≤ x5 → ∀ J55 : Int32 → Hp → Prop, J55 = (fun s1 h2 => ∀ v3 : Int32, v3 = (x5 + 1) → Sums_unlikeSums_L18 x1 x2 x3 K63 n s1 v3 h2) → ∀ J50 : Hp → Prop, J50 = (fun h4 => J55 1 h4) → (¬ x4 = 0 → J50 h) ∧ (x4 = 0 → ∀ J54 : Hp → Prop, J54 = (fun h5 => J55 0 h5) → (¬ ((x1 >>> (x5 &&& 31)) &&& 1) = 1 → J54 h) ∧ (((x1 >>> (x5 &&& 31)) &&& 1) = 1 → Sums_rowsAt x3 x5 h (fun r6 h7 => (r6 = 0 → J54 h7) ∧ (¬ r6 = 0 → J50 h7)))))
set_option maxHeartbeats 4000000 in
set_option maxRecDepth 20000 in
theorem gl_Sums_unlikeSums_L18 {G : Gx}  {x1 : Int32} {x2 : Int32} {x3 : Int32} {Q : Int32 → Hp → Prop} {K63 : Int32 → Hp → Prop} (hK63 : ∀ (y4 : Int32) (h1 : Hp), K63 y4 h1 → Go cX7_unlikeSums 6 RX7 (some .int) 2 G (QI G Q) 63 [(0, .ref (gAd G 92)), (1, .int x1), (2, .int x2), (3, .int x3), (4, .int y4)] [] h1) : ∀ (n : Nat) (x4 : Int32) (x5 : Int32) (h : Hp), Sums_unlikeSums_L18 x1 x2 x3 K63 n x4 x5 h → Go cX7_unlikeSums 6 RX7 (some .int) 2 G (QI G Q) 18 [(0, .ref (gAd G 92)), (1, .int x1), (2, .int x2), (3, .int x3), (4, .int x4), (5, .int x5)] [] h := by
  intro n
  induction n with
  | zero => intro _ _ h hw; exact False.elim hw
  | succ n ih =>
    intro x4 x5 h hw
    refine g_iload dX7_unlikeSums_18 rfl ?_
    refine g_bipush (v := 8) dX7_unlikeSums_20 (by decide) ?_
    refine g_icmp_ge 63 dX7_unlikeSums_22 rfl (fun hc => ?_) (fun hc => ?_)
    · have hw := hw.1 hc
      refine g_lv [0, 1, 2, 3, 4] rfl ?_
      exact hK63 _ _ hw
    · have hw := hw.2 hc
      refine g_iload dX7_unlikeSums_25 rfl ?_
      refine jn_el hw (fun J55 eJ55 hw => ?_)
      have hJ55 : ∀ (s1 : Int32) (h2 : Hp), J55 s1 h2 → Go cX7_unlikeSums 6 RX7 (some .int) 2 G (QI G Q) 55 [(0, .ref (gAd G 92)), (1, .int x1), (2, .int x2), (3, .int x3), (5, .int x5)] [.int s1] h2 := by
        intro s1 h2 hw
        subst eJ55
        refine g_istore dX7_unlikeSums_55 (by decide) (lv1 := [(0, .ref (gAd G 92)), (1, .int x1), (2, .int x2), (3, .int x3), (4, .int s1), (5, .int x5)]) rfl ?_
        obtain ⟨v3, ev3⟩ : ∃ y : Int32, y = (x5 + 1) := ⟨_, rfl⟩
        have hw := hw v3 ev3
        refine g_iinc dX7_unlikeSums_57 rfl (by rw [ev3]; rfl) (by decide) (lv1 := [(0, .ref (gAd G 92)), (1, .int x1), (2, .int x2), (3, .int x3), (4, .int s1), (5, .int v3)]) rfl ?_
        refine g_goto 18 dX7_unlikeSums_60 rfl ?_
        exact ih _ _ _ hw
      refine jn_el hw (fun J50 eJ50 hw => ?_)
      have hJ50 : ∀ (h4 : Hp), J50 h4 → Go cX7_unlikeSums 6 RX7 (some .int) 2 G (QI G Q) 50 [(0, .ref (gAd G 92)), (1, .int x1), (2, .int x2), (3, .int x3), (5, .int x5)] [] h4 := by
        intro h4 hw
        subst eJ50
        refine g_iconst (v := 1) dX7_unlikeSums_50 (by decide) ?_
        refine g_goto 55 dX7_unlikeSums_51 rfl ?_
        exact hJ55 _ _ hw
      refine g_if_ne 50 dX7_unlikeSums_27 rfl (fun hc => ?_) (fun hc => ?_)
      · have hw := hw.1 hc
        refine g_lv [0, 1, 2, 3, 5] rfl ?_
        exact hJ50 _ hw
      · have hw := hw.2 hc
        refine g_iload_n dX7_unlikeSums_30 rfl rfl ?_
        refine g_iload dX7_unlikeSums_31 rfl ?_
        refine g_ishr dX7_unlikeSums_33 ?_
        refine g_iconst (v := 1) dX7_unlikeSums_34 (by decide) ?_
        refine g_iand dX7_unlikeSums_35 ?_
        refine g_iconst (v := 1) dX7_unlikeSums_36 (by decide) ?_
        refine jn_el hw (fun J54 eJ54 hw => ?_)
        have hJ54 : ∀ (h5 : Hp), J54 h5 → Go cX7_unlikeSums 6 RX7 (some .int) 2 G (QI G Q) 54 [(0, .ref (gAd G 92)), (1, .int x1), (2, .int x2), (3, .int x3), (5, .int x5)] [] h5 := by
          intro h5 hw
          subst eJ54
          refine g_iconst (v := 0) dX7_unlikeSums_54 (by decide) ?_
          exact hJ55 _ _ hw
        refine g_icmp_ne 54 dX7_unlikeSums_37 rfl (fun hc => ?_) (fun hc => ?_)
        · have hw := hw.1 hc
          refine g_lv [0, 1, 2, 3, 5] rfl ?_
          exact hJ54 _ hw
        · have hw := hw.2 hc
          refine g_aload_n dX7_unlikeSums_40 rfl rfl ?_
          refine g_iload_n dX7_unlikeSums_41 rfl rfl ?_
          refine g_iload dX7_unlikeSums_42 rfl ?_
          refine g_callVI [.int x3, .int x5] (ci := 7) dX7_unlikeSums_44 ml_X7_61 mk_X7_rowsAt rfl rfl sh92 (Nat.le_of_ble_eq_true rfl) (Nat.le_of_ble_eq_true rfl) rfl (c_Sums_rowsAt hw) (fun r6 h7 hw => ?_)
          refine g_if_eq 54 dX7_unlikeSums_47 rfl (fun hc => ?_) (fun hc => ?_)
          · have hw := hw.1 hc
            refine g_lv [0, 1, 2, 3, 5] rfl ?_
            exact hJ54 _ hw
          · have hw := hw.2 hc
            refine g_lv [0, 1, 2, 3, 5] rfl ?_
            exact hJ50 _ hw
def Sums_unlikeSums_L4 (x1 : Int32) (Q : Int32 → Hp → Prop) : Nat → Int32 → Int32 → Hp → Prop
  | 0, _, _, _ => False
  | n + 1, x2, x3, h => ((gI h 92 4) ≤ x3 → Q x2 h) ∧ (¬ (gI h 92 4) ≤ x3 → ∃ n8, Sums_unlikeSums_L18 x1 x2 x3 (fun x4_9 h10 => ∀ J71 : Int32 → Hp → Prop, J71 = (fun x2_11 h12 => ∀ v13 : Int32, v13 = (x3 + 1) → Sums_unlikeSums_L4 x1 Q n x2_11 v13 h12) → (x4_9 = 0 → J71 x2 h10) ∧ (¬ x4_9 = 0 → ∀ v14 : Int32, v14 = (x2 + 1) → J71 v14 h10)) n8 0 0 h)
set_option maxHeartbeats 4000000 in
set_option maxRecDepth 20000 in
theorem gl_Sums_unlikeSums_L4 {G : Gx}  {x1 : Int32} {Q : Int32 → Hp → Prop} : ∀ (n : Nat) (x2 : Int32) (x3 : Int32) (h : Hp), Sums_unlikeSums_L4 x1 Q n x2 x3 h → Go cX7_unlikeSums 6 RX7 (some .int) 2 G (QI G Q) 4 [(0, .ref (gAd G 92)), (1, .int x1), (2, .int x2), (3, .int x3)] [] h := by
  intro n
  induction n with
  | zero => intro _ _ h hw; exact False.elim hw
  | succ n ih =>
    intro x2 x3 h hw
    refine g_iload_n dX7_unlikeSums_4 rfl rfl ?_
    refine g_aload_n dX7_unlikeSums_5 rfl rfl ?_
    refine g_getI dX7_unlikeSums_6 fl_X7_25 sh92 rfl ?_
    refine g_icmp_ge 77 dX7_unlikeSums_9 rfl (fun hc => ?_) (fun hc => ?_)
    · have hw := hw.1 hc
      refine g_iload_n dX7_unlikeSums_77 rfl rfl ?_
      exact g_iret dX7_unlikeSums_78 hw
    · have hw := hw.2 hc
      refine g_iconst (v := 0) dX7_unlikeSums_12 (by decide) ?_
      refine g_istore dX7_unlikeSums_13 (by decide) (lv1 := [(0, .ref (gAd G 92)), (1, .int x1), (2, .int x2), (3, .int x3), (4, .int 0)]) rfl ?_
      refine g_iconst (v := 0) dX7_unlikeSums_15 (by decide) ?_
      refine g_istore dX7_unlikeSums_16 (by decide) (lv1 := [(0, .ref (gAd G 92)), (1, .int x1), (2, .int x2), (3, .int x3), (4, .int 0), (5, .int 0)]) rfl ?_
      obtain ⟨n8, hw⟩ := hw
      refine gl_Sums_unlikeSums_L18  ?_ _ _ _ _ hw
      · intro x4_9 h10 hw
        refine g_iload dX7_unlikeSums_63 rfl ?_
        refine jn_el hw (fun J71 eJ71 hw => ?_)
        have hJ71 : ∀ (x2_11 : Int32) (h12 : Hp), J71 x2_11 h12 → Go cX7_unlikeSums 6 RX7 (some .int) 2 G (QI G Q) 71 [(0, .ref (gAd G 92)), (1, .int x1), (2, .int x2_11), (3, .int x3)] [] h12 := by
          intro x2_11 h12 hw
          subst eJ71
          obtain ⟨v13, ev13⟩ : ∃ y : Int32, y = (x3 + 1) := ⟨_, rfl⟩
          have hw := hw v13 ev13
          refine g_iinc dX7_unlikeSums_71 rfl (by rw [ev13]; rfl) (by decide) (lv1 := [(0, .ref (gAd G 92)), (1, .int x1), (2, .int x2_11), (3, .int v13)]) rfl ?_
          refine g_goto 4 dX7_unlikeSums_74 rfl ?_
          exact ih _ _ _ hw
        refine g_if_eq 71 dX7_unlikeSums_65 rfl (fun hc => ?_) (fun hc => ?_)
        · have hw := hw.1 hc
          refine g_lv [0, 1, 2, 3] rfl ?_
          exact hJ71 _ _ hw
        · have hw := hw.2 hc
          obtain ⟨v14, ev14⟩ : ∃ y : Int32, y = (x2 + 1) := ⟨_, rfl⟩
          have hw := hw v14 ev14
          refine g_iinc dX7_unlikeSums_68 rfl (by rw [ev14]; rfl) (by decide) (lv1 := [(0, .ref (gAd G 92)), (1, .int x1), (2, .int v14), (3, .int x3), (4, .int x4_9)]) rfl ?_
          refine g_lv [0, 1, 2, 3] rfl ?_
          exact hJ71 _ _ hw
def Sums_unlikeSums (x1 : Int32) (h : Hp) (Q : Int32 → Hp → Prop) : Prop := ∃ n15, Sums_unlikeSums_L4 x1 Q n15 0 0 h
set_option maxHeartbeats 4000000 in
set_option maxRecDepth 20000 in
theorem c_Sums_unlikeSums {G : Gx}  {x1 : Int32} {h : Hp} {Q : Int32 → Hp → Prop} (hw : Sums_unlikeSums x1 h Q) : Ct yX7_unlikeSums cX7_unlikeSums 6 (some .int) 2 G [.ref (gAd G 92), .int x1] h (QI G Q) := by
  refine ct_go [(0, .ref (gAd G 92)), (1, .int x1)] (plainFor_of_name (by decide)) rfl (Nat.le_of_ble_eq_true rfl) rfl ?_
  refine g_iconst (v := 0) dX7_unlikeSums_0 (by decide) ?_
  refine g_istore_n dX7_unlikeSums_1 rfl (by decide) (lv1 := [(0, .ref (gAd G 92)), (1, .int x1), (2, .int 0)]) rfl ?_
  refine g_iconst (v := 0) dX7_unlikeSums_2 (by decide) ?_
  refine g_istore_n dX7_unlikeSums_3 rfl (by decide) (lv1 := [(0, .ref (gAd G 92)), (1, .int x1), (2, .int 0), (3, .int 0)]) rfl ?_
  obtain ⟨n15, hw⟩ := hw
  refine gl_Sums_unlikeSums_L4   _ _ _ _ hw
theorem dX11_sums_0 : decode cX11_sums 0 = .ok (.iload_n 1, 1) := by decide +kernel
theorem dX11_sums_1 : decode cX11_sums 1 = .ok (.invokestatic 340, 3) := by decide +kernel
theorem dX11_sums_4 : decode cX11_sums 4 = .ok (.ifCond .ne 6, 3) := by decide +kernel
theorem dX11_sums_7 : decode cX11_sums 7 = .ok (.bipush (-3), 2) := by decide +kernel
theorem dX11_sums_9 : decode cX11_sums 9 = .ok (.ireturn, 1) := by decide +kernel
theorem dX11_sums_10 : decode cX11_sums 10 = .ok (.aload_n 0, 1) := by decide +kernel
theorem dX11_sums_11 : decode cX11_sums 11 = .ok (.iload_n 1, 1) := by decide +kernel
theorem dX11_sums_12 : decode cX11_sums 12 = .ok (.invokevirtual 343, 3) := by decide +kernel
theorem dX11_sums_15 : decode cX11_sums 15 = .ok (.aload_n 0, 1) := by decide +kernel
theorem dX11_sums_16 : decode cX11_sums 16 = .ok (.getfield 86, 3) := by decide +kernel
theorem dX11_sums_19 : decode cX11_sums 19 = .ok (.sipush 255, 3) := by decide +kernel
theorem dX11_sums_22 : decode cX11_sums 22 = .ok (.invokevirtual 349, 3) := by decide +kernel
theorem dX11_sums_25 : decode cX11_sums 25 = .ok (.ireturn, 1) := by decide +kernel
theorem ml_X11_349 : Cond.methodLink RX11 349 yX7_unlikeSums ∈ Wd := mW 1257 (by decide +kernel) rfl
theorem mk_X7_unlikeSums : MokV yX7_unlikeSums cX7_unlikeSums 6 (some .int) 1 := ⟨⟨mW 12 (by decide +kernel) rfl, mW 1260 (by decide +kernel) rfl, ⟨by decide, by decide, by decide +kernel⟩, by decide⟩, mW 1258 (by decide +kernel) rfl, mW 1259 (by decide +kernel) rfl⟩
def C_sums (x1 : Int32) (h : Hp) (Q : Int32 → Hp → Prop) : Prop := C_isRow x1 h (fun r1 h2 => (¬ r1 = 0 → C_countRows x1 h2 (fun h3 => Sums_unlikeSums 255 h3 (fun r4 h5 => Q r4 h5))) ∧ (r1 = 0 → Q (-3) h2))
set_option maxHeartbeats 4000000 in
set_option maxRecDepth 20000 in
theorem c_C_sums {G : Gx}  {x1 : Int32} {h : Hp} {Q : Int32 → Hp → Prop} (hw : C_sums x1 h Q) : Ct yX11_sums cX11_sums 2 (some .int) 7 G [.ref (gAd G 0), .int x1] h (QI G Q) := by
  refine ct_go [(0, .ref (gAd G 0)), (1, .int x1)] (plainFor_of_name (by decide)) rfl (Nat.le_of_ble_eq_true rfl) rfl ?_
  refine g_iload_n dX11_sums_0 rfl rfl ?_
  refine g_callSI [.int x1] dX11_sums_1 ml_X11_340 mk_X11_isRow rfl (Nat.le_of_ble_eq_true rfl) (Nat.le_of_ble_eq_true rfl) rfl (c_C_isRow hw) (fun r1 h2 hw => ?_)
  refine g_if_ne 10 dX11_sums_4 rfl (fun hc => ?_) (fun hc => ?_)
  · have hw := hw.1 hc
    refine g_aload_n dX11_sums_10 rfl rfl ?_
    refine g_iload_n dX11_sums_11 rfl rfl ?_
    refine g_callVV [.int x1] (ci := 11) dX11_sums_12 ml_X11_343 mk_X11_countRows rfl rfl sh0 (Nat.le_of_ble_eq_true rfl) (Nat.le_of_ble_eq_true rfl) rfl (c_C_countRows hw) (fun h3 hw => ?_)
    refine g_aload_n dX11_sums_15 rfl rfl ?_
    refine g_getO dX11_sums_16 fl_X11_86 sh0 rfl ?_
    refine g_sipush (v := 255) dX11_sums_19 (by decide) ?_
    refine g_callVI [.int 255] (ci := 7) dX11_sums_22 ml_X11_349 mk_X7_unlikeSums rfl rfl sh92 (Nat.le_of_ble_eq_true rfl) (Nat.le_of_ble_eq_true rfl) rfl (c_Sums_unlikeSums hw) (fun r4 h5 hw => ?_)
    exact g_iret dX11_sums_25 hw
  · have hw := hw.2 hc
    refine g_bipush (v := (-3)) dX11_sums_7 (by decide) ?_
    exact g_iret dX11_sums_9 hw
theorem dX11_sumsAt_0 : decode cX11_sumsAt 0 = .ok (.aload_n 0, 1) := by decide +kernel
theorem dX11_sumsAt_1 : decode cX11_sumsAt 1 = .ok (.getfield 27, 3) := by decide +kernel
theorem dX11_sumsAt_4 : decode cX11_sumsAt 4 = .ok (.iload_n 1, 1) := by decide +kernel
theorem dX11_sumsAt_5 : decode cX11_sumsAt 5 = .ok (.invokevirtual 129, 3) := by decide +kernel
theorem dX11_sumsAt_8 : decode cX11_sumsAt 8 = .ok (.ifCond .ne 6, 3) := by decide +kernel
theorem dX11_sumsAt_11 : decode cX11_sumsAt 11 = .ok (.bipush (-2), 2) := by decide +kernel
theorem dX11_sumsAt_13 : decode cX11_sumsAt 13 = .ok (.ireturn, 1) := by decide +kernel
theorem dX11_sumsAt_14 : decode cX11_sumsAt 14 = .ok (.iload_n 2, 1) := by decide +kernel
theorem dX11_sumsAt_15 : decode cX11_sumsAt 15 = .ok (.invokestatic 340, 3) := by decide +kernel
theorem dX11_sumsAt_18 : decode cX11_sumsAt 18 = .ok (.ifCond .ne 6, 3) := by decide +kernel
theorem dX11_sumsAt_21 : decode cX11_sumsAt 21 = .ok (.bipush (-3), 2) := by decide +kernel
theorem dX11_sumsAt_23 : decode cX11_sumsAt 23 = .ok (.ireturn, 1) := by decide +kernel
theorem dX11_sumsAt_24 : decode cX11_sumsAt 24 = .ok (.aload_n 0, 1) := by decide +kernel
theorem dX11_sumsAt_25 : decode cX11_sumsAt 25 = .ok (.iload_n 2, 1) := by decide +kernel
theorem dX11_sumsAt_26 : decode cX11_sumsAt 26 = .ok (.invokevirtual 343, 3) := by decide +kernel
theorem dX11_sumsAt_29 : decode cX11_sumsAt 29 = .ok (.aload_n 0, 1) := by decide +kernel
theorem dX11_sumsAt_30 : decode cX11_sumsAt 30 = .ok (.getfield 86, 3) := by decide +kernel
theorem dX11_sumsAt_33 : decode cX11_sumsAt 33 = .ok (.iconst 1, 1) := by decide +kernel
theorem dX11_sumsAt_34 : decode cX11_sumsAt 34 = .ok (.iload_n 1, 1) := by decide +kernel
theorem dX11_sumsAt_35 : decode cX11_sumsAt 35 = .ok (.ishl, 1) := by decide +kernel
theorem dX11_sumsAt_36 : decode cX11_sumsAt 36 = .ok (.invokevirtual 349, 3) := by decide +kernel
theorem dX11_sumsAt_39 : decode cX11_sumsAt 39 = .ok (.ireturn, 1) := by decide +kernel
def C_sumsAt (x1 : Int32) (x2 : Int32) (h : Hp) (Q : Int32 → Hp → Prop) : Prop := Land_hasPlace x1 h (fun r1 h2 => (¬ r1 = 0 → C_isRow x2 h2 (fun r3 h4 => (¬ r3 = 0 → C_countRows x2 h4 (fun h5 => Sums_unlikeSums ((1 : Int32) <<< (x1 &&& 31)) h5 (fun r6 h7 => Q r6 h7))) ∧ (r3 = 0 → Q (-3) h4))) ∧ (r1 = 0 → Q (-2) h2))
set_option maxHeartbeats 4000000 in
set_option maxRecDepth 20000 in
theorem c_C_sumsAt {G : Gx}  {x1 : Int32} {x2 : Int32} {h : Hp} {Q : Int32 → Hp → Prop} (hw : C_sumsAt x1 x2 h Q) : Ct yX11_sumsAt cX11_sumsAt 3 (some .int) 7 G [.ref (gAd G 0), .int x1, .int x2] h (QI G Q) := by
  refine ct_go [(0, .ref (gAd G 0)), (1, .int x1), (2, .int x2)] (plainFor_of_name (by decide)) rfl (Nat.le_of_ble_eq_true rfl) rfl ?_
  refine g_aload_n dX11_sumsAt_0 rfl rfl ?_
  refine g_getO dX11_sumsAt_1 fl_X11_27 sh0 rfl ?_
  refine g_iload_n dX11_sumsAt_4 rfl rfl ?_
  refine g_callVI [.int x1] (ci := 2) dX11_sumsAt_5 ml_X11_129 mk_X2_hasPlace rfl rfl sh14 (Nat.le_of_ble_eq_true rfl) (Nat.le_of_ble_eq_true rfl) rfl (c_Land_hasPlace hw) (fun r1 h2 hw => ?_)
  refine g_if_ne 14 dX11_sumsAt_8 rfl (fun hc => ?_) (fun hc => ?_)
  · have hw := hw.1 hc
    refine g_iload_n dX11_sumsAt_14 rfl rfl ?_
    refine g_callSI [.int x2] dX11_sumsAt_15 ml_X11_340 mk_X11_isRow rfl (Nat.le_of_ble_eq_true rfl) (Nat.le_of_ble_eq_true rfl) rfl (c_C_isRow hw) (fun r3 h4 hw => ?_)
    refine g_if_ne 24 dX11_sumsAt_18 rfl (fun hc => ?_) (fun hc => ?_)
    · have hw := hw.1 hc
      refine g_aload_n dX11_sumsAt_24 rfl rfl ?_
      refine g_iload_n dX11_sumsAt_25 rfl rfl ?_
      refine g_callVV [.int x2] (ci := 11) dX11_sumsAt_26 ml_X11_343 mk_X11_countRows rfl rfl sh0 (Nat.le_of_ble_eq_true rfl) (Nat.le_of_ble_eq_true rfl) rfl (c_C_countRows hw) (fun h5 hw => ?_)
      refine g_aload_n dX11_sumsAt_29 rfl rfl ?_
      refine g_getO dX11_sumsAt_30 fl_X11_86 sh0 rfl ?_
      refine g_iconst (v := 1) dX11_sumsAt_33 (by decide) ?_
      refine g_iload_n dX11_sumsAt_34 rfl rfl ?_
      refine g_ishl dX11_sumsAt_35 ?_
      refine g_callVI [.int ((1 : Int32) <<< (x1 &&& 31))] (ci := 7) dX11_sumsAt_36 ml_X11_349 mk_X7_unlikeSums rfl rfl sh92 (Nat.le_of_ble_eq_true rfl) (Nat.le_of_ble_eq_true rfl) rfl (c_Sums_unlikeSums hw) (fun r6 h7 hw => ?_)
      exact g_iret dX11_sumsAt_39 hw
    · have hw := hw.2 hc
      refine g_bipush (v := (-3)) dX11_sumsAt_21 (by decide) ?_
      exact g_iret dX11_sumsAt_23 hw
  · have hw := hw.2 hc
    refine g_bipush (v := (-2)) dX11_sumsAt_11 (by decide) ?_
    exact g_iret dX11_sumsAt_13 hw
theorem dJ9_floorMod_f86c9_0 : decode cJ9_floorMod_f86c9 0 = .ok (.lload_n 0, 1) := by decide +kernel
theorem dJ9_floorMod_f86c9_1 : decode cJ9_floorMod_f86c9 1 = .ok (.lload_n 2, 1) := by decide +kernel
theorem dJ9_floorMod_f86c9_2 : decode cJ9_floorMod_f86c9 2 = .ok (.lrem, 1) := by decide +kernel
theorem dJ9_floorMod_f86c9_3 : decode cJ9_floorMod_f86c9 3 = .ok (.lstore 4, 2) := by decide +kernel
theorem dJ9_floorMod_f86c9_5 : decode cJ9_floorMod_f86c9 5 = .ok (.lload_n 0, 1) := by decide +kernel
theorem dJ9_floorMod_f86c9_6 : decode cJ9_floorMod_f86c9 6 = .ok (.lload_n 2, 1) := by decide +kernel
theorem dJ9_floorMod_f86c9_7 : decode cJ9_floorMod_f86c9 7 = .ok (.lxor, 1) := by decide +kernel
theorem dJ9_floorMod_f86c9_8 : decode cJ9_floorMod_f86c9 8 = .ok (.lconst 0, 1) := by decide +kernel
theorem dJ9_floorMod_f86c9_9 : decode cJ9_floorMod_f86c9 9 = .ok (.lcmp, 1) := by decide +kernel
theorem dJ9_floorMod_f86c9_10 : decode cJ9_floorMod_f86c9 10 = .ok (.ifCond .ge 15, 3) := by decide +kernel
theorem dJ9_floorMod_f86c9_13 : decode cJ9_floorMod_f86c9 13 = .ok (.lload 4, 2) := by decide +kernel
theorem dJ9_floorMod_f86c9_15 : decode cJ9_floorMod_f86c9 15 = .ok (.lconst 0, 1) := by decide +kernel
theorem dJ9_floorMod_f86c9_16 : decode cJ9_floorMod_f86c9 16 = .ok (.lcmp, 1) := by decide +kernel
theorem dJ9_floorMod_f86c9_17 : decode cJ9_floorMod_f86c9 17 = .ok (.ifCond .eq 8, 3) := by decide +kernel
theorem dJ9_floorMod_f86c9_20 : decode cJ9_floorMod_f86c9 20 = .ok (.lload 4, 2) := by decide +kernel
theorem dJ9_floorMod_f86c9_22 : decode cJ9_floorMod_f86c9 22 = .ok (.lload_n 2, 1) := by decide +kernel
theorem dJ9_floorMod_f86c9_23 : decode cJ9_floorMod_f86c9 23 = .ok (.ladd, 1) := by decide +kernel
theorem dJ9_floorMod_f86c9_24 : decode cJ9_floorMod_f86c9 24 = .ok (.lreturn, 1) := by decide +kernel
theorem dJ9_floorMod_f86c9_25 : decode cJ9_floorMod_f86c9 25 = .ok (.lload 4, 2) := by decide +kernel
theorem dJ9_floorMod_f86c9_27 : decode cJ9_floorMod_f86c9 27 = .ok (.lreturn, 1) := by decide +kernel
def J9_floorMod_f86c9 (x0 : Int64) (x2 : Int64) (h : Hp) (Q : Int64 → Hp → Prop) : Prop := ¬ x2 = 0 ∧ ∀ v1 : Int64, v1 = (x0 - x0 / x2 * x2) → ((0 : Int64) ≤ (x0 ^^^ x2) → Q v1 h) ∧ (¬ (0 : Int64) ≤ (x0 ^^^ x2) → (v1 = (0 : Int64) → Q v1 h) ∧ (¬ v1 = (0 : Int64) → Q (v1 + x2) h))
set_option maxHeartbeats 4000000 in
set_option maxRecDepth 20000 in
theorem c_J9_floorMod_f86c9 {G : Gx}  {x0 : Int64} {x2 : Int64} {h : Hp} {Q : Int64 → Hp → Prop} (hw : J9_floorMod_f86c9 x0 x2 h Q) : Ct yJ9_floorMod_f86c9 cJ9_floorMod_f86c9 6 (some .long) 1 G [.long x0, .long x2] h (QJ G Q) := by
  refine ct_go [(0, .long x0), (2, .long x2)] (by decide +kernel) rfl (Nat.le_of_ble_eq_true rfl) rfl ?_
  refine g_lload_n dJ9_floorMod_f86c9_0 rfl rfl ?_
  refine g_lload_n dJ9_floorMod_f86c9_1 rfl rfl ?_
  refine g_lrem dJ9_floorMod_f86c9_2 hw.1 ?_
  have hw := hw.2
  refine g_topj (fun v1 ev1 => ?_)
  have hw := hw v1 ev1
  refine g_lstore dJ9_floorMod_f86c9_3 (by decide) (lv1 := [(0, .long x0), (2, .long x2), (4, .long v1)]) rfl ?_
  refine g_lload_n dJ9_floorMod_f86c9_5 rfl rfl ?_
  refine g_lload_n dJ9_floorMod_f86c9_6 rfl rfl ?_
  refine g_lxor dJ9_floorMod_f86c9_7 ?_
  refine g_lconst (v := (0 : Int64)) dJ9_floorMod_f86c9_8 (by decide) ?_
  refine g_lc_ge 25 dJ9_floorMod_f86c9_9 dJ9_floorMod_f86c9_10 rfl (fun hc => ?_) (fun hc => ?_)
  · have hw := hw.1 hc
    refine g_lload dJ9_floorMod_f86c9_25 rfl ?_
    exact g_lret dJ9_floorMod_f86c9_27 hw
  · have hw := hw.2 hc
    refine g_lload dJ9_floorMod_f86c9_13 rfl ?_
    refine g_lconst (v := (0 : Int64)) dJ9_floorMod_f86c9_15 (by decide) ?_
    refine g_lc_eq 25 dJ9_floorMod_f86c9_16 dJ9_floorMod_f86c9_17 rfl (fun hc => ?_) (fun hc => ?_)
    · have hw := hw.1 hc
      refine g_lload dJ9_floorMod_f86c9_25 rfl ?_
      exact g_lret dJ9_floorMod_f86c9_27 hw
    · have hw := hw.2 hc
      refine g_lload dJ9_floorMod_f86c9_20 rfl ?_
      refine g_lload_n dJ9_floorMod_f86c9_22 rfl rfl ?_
      refine g_ladd dJ9_floorMod_f86c9_23 ?_
      exact g_lret dJ9_floorMod_f86c9_24 hw
theorem dX2_weathersPaying_0 : decode cX2_weathersPaying 0 = .ok (.iconst 0, 1) := by decide +kernel
theorem dX2_weathersPaying_1 : decode cX2_weathersPaying 1 = .ok (.istore_n 3, 1) := by decide +kernel
theorem dX2_weathersPaying_2 : decode cX2_weathersPaying 2 = .ok (.iconst 0, 1) := by decide +kernel
theorem dX2_weathersPaying_3 : decode cX2_weathersPaying 3 = .ok (.istore 4, 2) := by decide +kernel
theorem dX2_weathersPaying_5 : decode cX2_weathersPaying 5 = .ok (.iload 4, 2) := by decide +kernel
theorem dX2_weathersPaying_7 : decode cX2_weathersPaying 7 = .ok (.bipush 10, 2) := by decide +kernel
theorem dX2_weathersPaying_9 : decode cX2_weathersPaying 9 = .ok (.if_icmp .ge 27, 3) := by decide +kernel
theorem dX2_weathersPaying_12 : decode cX2_weathersPaying 12 = .ok (.aload_n 0, 1) := by decide +kernel
theorem dX2_weathersPaying_13 : decode cX2_weathersPaying 13 = .ok (.iload 4, 2) := by decide +kernel
theorem dX2_weathersPaying_15 : decode cX2_weathersPaying 15 = .ok (.iload_n 1, 1) := by decide +kernel
theorem dX2_weathersPaying_16 : decode cX2_weathersPaying 16 = .ok (.invokevirtual 69, 3) := by decide +kernel
theorem dX2_weathersPaying_19 : decode cX2_weathersPaying 19 = .ok (.iload_n 2, 1) := by decide +kernel
theorem dX2_weathersPaying_20 : decode cX2_weathersPaying 20 = .ok (.if_icmp .ne 10, 3) := by decide +kernel
theorem dX2_weathersPaying_23 : decode cX2_weathersPaying 23 = .ok (.iload_n 3, 1) := by decide +kernel
theorem dX2_weathersPaying_24 : decode cX2_weathersPaying 24 = .ok (.iconst 1, 1) := by decide +kernel
theorem dX2_weathersPaying_25 : decode cX2_weathersPaying 25 = .ok (.iload 4, 2) := by decide +kernel
theorem dX2_weathersPaying_27 : decode cX2_weathersPaying 27 = .ok (.ishl, 1) := by decide +kernel
theorem dX2_weathersPaying_28 : decode cX2_weathersPaying 28 = .ok (.ior, 1) := by decide +kernel
theorem dX2_weathersPaying_29 : decode cX2_weathersPaying 29 = .ok (.istore_n 3, 1) := by decide +kernel
theorem dX2_weathersPaying_30 : decode cX2_weathersPaying 30 = .ok (.iinc 4 1, 3) := by decide +kernel
theorem dX2_weathersPaying_33 : decode cX2_weathersPaying 33 = .ok (.goto (-28), 3) := by decide +kernel
theorem dX2_weathersPaying_36 : decode cX2_weathersPaying 36 = .ok (.iload_n 3, 1) := by decide +kernel
theorem dX2_weathersPaying_37 : decode cX2_weathersPaying 37 = .ok (.ireturn, 1) := by decide +kernel
def Land_weathersPaying_L5 (x1 : Int32) (x2 : Int32) (Q : Int32 → Hp → Prop) : Nat → Int32 → Int32 → Hp → Prop
  | 0, _, _, _ => False
  | n + 1, x3, x4, h => (10 ≤ x4 → Q x3 h) ∧ (¬ 10 ≤ x4 → Land_payOf x4 x1 h (fun r1 h2 => ∀ J30 : Int32 → Hp → Prop, J30 = (fun x3_3 h4 => ∀ v5 : Int32, v5 = (x4 + 1) → Land_weathersPaying_L5 x1 x2 Q n x3_3 v5 h4) → (¬ r1 = x2 → J30 x3 h2) ∧ (r1 = x2 → ∀ v6 : Int32, v6 = (x3 ||| ((1 : Int32) <<< (x4 &&& 31))) → J30 v6 h2)))
set_option maxHeartbeats 4000000 in
set_option maxRecDepth 20000 in
theorem gl_Land_weathersPaying_L5 {G : Gx}  {x1 : Int32} {x2 : Int32} {Q : Int32 → Hp → Prop} : ∀ (n : Nat) (x3 : Int32) (x4 : Int32) (h : Hp), Land_weathersPaying_L5 x1 x2 Q n x3 x4 h → Go cX2_weathersPaying 5 RX2 (some .int) 3 G (QI G Q) 5 [(0, .ref (gAd G 14)), (1, .int x1), (2, .int x2), (3, .int x3), (4, .int x4)] [] h := by
  intro n
  induction n with
  | zero => intro _ _ h hw; exact False.elim hw
  | succ n ih =>
    intro x3 x4 h hw
    refine g_iload dX2_weathersPaying_5 rfl ?_
    refine g_bipush (v := 10) dX2_weathersPaying_7 (by decide) ?_
    refine g_icmp_ge 36 dX2_weathersPaying_9 rfl (fun hc => ?_) (fun hc => ?_)
    · have hw := hw.1 hc
      refine g_iload_n dX2_weathersPaying_36 rfl rfl ?_
      exact g_iret dX2_weathersPaying_37 hw
    · have hw := hw.2 hc
      refine g_aload_n dX2_weathersPaying_12 rfl rfl ?_
      refine g_iload dX2_weathersPaying_13 rfl ?_
      refine g_iload_n dX2_weathersPaying_15 rfl rfl ?_
      refine g_callVI [.int x4, .int x1] (ci := 2) dX2_weathersPaying_16 ml_X2_69 mk_X2_payOf rfl rfl sh14 (Nat.le_of_ble_eq_true rfl) (Nat.le_of_ble_eq_true rfl) rfl (c_Land_payOf hw) (fun r1 h2 hw => ?_)
      refine g_iload_n dX2_weathersPaying_19 rfl rfl ?_
      refine jn_el hw (fun J30 eJ30 hw => ?_)
      have hJ30 : ∀ (x3_3 : Int32) (h4 : Hp), J30 x3_3 h4 → Go cX2_weathersPaying 5 RX2 (some .int) 3 G (QI G Q) 30 [(0, .ref (gAd G 14)), (1, .int x1), (2, .int x2), (3, .int x3_3), (4, .int x4)] [] h4 := by
        intro x3_3 h4 hw
        subst eJ30
        obtain ⟨v5, ev5⟩ : ∃ y : Int32, y = (x4 + 1) := ⟨_, rfl⟩
        have hw := hw v5 ev5
        refine g_iinc dX2_weathersPaying_30 rfl (by rw [ev5]; rfl) (by decide) (lv1 := [(0, .ref (gAd G 14)), (1, .int x1), (2, .int x2), (3, .int x3_3), (4, .int v5)]) rfl ?_
        refine g_goto 5 dX2_weathersPaying_33 rfl ?_
        exact ih _ _ _ hw
      refine g_icmp_ne 30 dX2_weathersPaying_20 rfl (fun hc => ?_) (fun hc => ?_)
      · have hw := hw.1 hc
        exact hJ30 _ _ hw
      · have hw := hw.2 hc
        refine g_iload_n dX2_weathersPaying_23 rfl rfl ?_
        refine g_iconst (v := 1) dX2_weathersPaying_24 (by decide) ?_
        refine g_iload dX2_weathersPaying_25 rfl ?_
        refine g_ishl dX2_weathersPaying_27 ?_
        refine g_ior dX2_weathersPaying_28 ?_
        refine g_topi (fun v6 ev6 => ?_)
        have hw := hw v6 ev6
        refine g_istore_n dX2_weathersPaying_29 rfl (by decide) (lv1 := [(0, .ref (gAd G 14)), (1, .int x1), (2, .int x2), (3, .int v6), (4, .int x4)]) rfl ?_
        exact hJ30 _ _ hw
def Land_weathersPaying (x1 : Int32) (x2 : Int32) (h : Hp) (Q : Int32 → Hp → Prop) : Prop := ∃ n7, Land_weathersPaying_L5 x1 x2 Q n7 0 0 h
set_option maxHeartbeats 4000000 in
set_option maxRecDepth 20000 in
theorem c_Land_weathersPaying {G : Gx}  {x1 : Int32} {x2 : Int32} {h : Hp} {Q : Int32 → Hp → Prop} (hw : Land_weathersPaying x1 x2 h Q) : Ct yX2_weathersPaying cX2_weathersPaying 5 (some .int) 3 G [.ref (gAd G 14), .int x1, .int x2] h (QI G Q) := by
  refine ct_go [(0, .ref (gAd G 14)), (1, .int x1), (2, .int x2)] (plainFor_of_name (by decide)) rfl (Nat.le_of_ble_eq_true rfl) rfl ?_
  refine g_iconst (v := 0) dX2_weathersPaying_0 (by decide) ?_
  refine g_istore_n dX2_weathersPaying_1 rfl (by decide) (lv1 := [(0, .ref (gAd G 14)), (1, .int x1), (2, .int x2), (3, .int 0)]) rfl ?_
  refine g_iconst (v := 0) dX2_weathersPaying_2 (by decide) ?_
  refine g_istore dX2_weathersPaying_3 (by decide) (lv1 := [(0, .ref (gAd G 14)), (1, .int x1), (2, .int x2), (3, .int 0), (4, .int 0)]) rfl ?_
  obtain ⟨n7, hw⟩ := hw
  refine gl_Land_weathersPaying_L5   _ _ _ _ hw
theorem dX11_weathers_0 : decode cX11_weathers 0 = .ok (.iload_n 1, 1) := by decide +kernel
theorem dX11_weathers_1 : decode cX11_weathers 1 = .ok (.invokestatic 224, 3) := by decide +kernel
theorem dX11_weathers_4 : decode cX11_weathers 4 = .ok (.ifCond .ne 6, 3) := by decide +kernel
theorem dX11_weathers_7 : decode cX11_weathers 7 = .ok (.bipush (-2), 2) := by decide +kernel
theorem dX11_weathers_9 : decode cX11_weathers 9 = .ok (.ireturn, 1) := by decide +kernel
theorem dX11_weathers_10 : decode cX11_weathers 10 = .ok (.aload_n 0, 1) := by decide +kernel
theorem dX11_weathers_11 : decode cX11_weathers 11 = .ok (.getfield 50, 3) := by decide +kernel
theorem dX11_weathers_14 : decode cX11_weathers 14 = .ok (.iload_n 1, 1) := by decide +kernel
theorem dX11_weathers_15 : decode cX11_weathers 15 = .ok (.aaload, 1) := by decide +kernel
theorem dX11_weathers_16 : decode cX11_weathers 16 = .ok (.astore_n 2, 1) := by decide +kernel
theorem dX11_weathers_17 : decode cX11_weathers 17 = .ok (.aload_n 2, 1) := by decide +kernel
theorem dX11_weathers_18 : decode cX11_weathers 18 = .ok (.invokevirtual 227, 3) := by decide +kernel
theorem dX11_weathers_21 : decode cX11_weathers 21 = .ok (.ifCond .eq 6, 3) := by decide +kernel
theorem dX11_weathers_24 : decode cX11_weathers 24 = .ok (.bipush (-6), 2) := by decide +kernel
theorem dX11_weathers_26 : decode cX11_weathers 26 = .ok (.ireturn, 1) := by decide +kernel
theorem dX11_weathers_27 : decode cX11_weathers 27 = .ok (.aload_n 2, 1) := by decide +kernel
theorem dX11_weathers_28 : decode cX11_weathers 28 = .ok (.getfield 243, 3) := by decide +kernel
theorem dX11_weathers_31 : decode cX11_weathers 31 = .ok (.iconst 1, 1) := by decide +kernel
theorem dX11_weathers_32 : decode cX11_weathers 32 = .ok (.if_icmp .lt 12, 3) := by decide +kernel
theorem dX11_weathers_35 : decode cX11_weathers 35 = .ok (.aload_n 2, 1) := by decide +kernel
theorem dX11_weathers_36 : decode cX11_weathers 36 = .ok (.getfield 243, 3) := by decide +kernel
theorem dX11_weathers_39 : decode cX11_weathers 39 = .ok (.bipush 8, 2) := by decide +kernel
theorem dX11_weathers_41 : decode cX11_weathers 41 = .ok (.if_icmp .le 6, 3) := by decide +kernel
theorem dX11_weathers_44 : decode cX11_weathers 44 = .ok (.bipush (-4), 2) := by decide +kernel
theorem dX11_weathers_46 : decode cX11_weathers 46 = .ok (.ireturn, 1) := by decide +kernel
theorem dX11_weathers_47 : decode cX11_weathers 47 = .ok (.sipush 1023, 3) := by decide +kernel
theorem dX11_weathers_50 : decode cX11_weathers 50 = .ok (.istore_n 3, 1) := by decide +kernel
theorem dX11_weathers_51 : decode cX11_weathers 51 = .ok (.iconst 0, 1) := by decide +kernel
theorem dX11_weathers_52 : decode cX11_weathers 52 = .ok (.istore 4, 2) := by decide +kernel
theorem dX11_weathers_54 : decode cX11_weathers 54 = .ok (.iload 4, 2) := by decide +kernel
theorem dX11_weathers_56 : decode cX11_weathers 56 = .ok (.aload_n 2, 1) := by decide +kernel
theorem dX11_weathers_57 : decode cX11_weathers 57 = .ok (.getfield 243, 3) := by decide +kernel
theorem dX11_weathers_60 : decode cX11_weathers 60 = .ok (.if_icmp .ge 92, 3) := by decide +kernel
theorem dX11_weathers_63 : decode cX11_weathers 63 = .ok (.aload_n 2, 1) := by decide +kernel
theorem dX11_weathers_64 : decode cX11_weathers 64 = .ok (.iload 4, 2) := by decide +kernel
theorem dX11_weathers_66 : decode cX11_weathers 66 = .ok (.invokevirtual 244, 3) := by decide +kernel
theorem dX11_weathers_69 : decode cX11_weathers 69 = .ok (.lstore 5, 2) := by decide +kernel
theorem dX11_weathers_71 : decode cX11_weathers 71 = .ok (.lload 5, 2) := by decide +kernel
theorem dX11_weathers_73 : decode cX11_weathers 73 = .ok (.ldc2_w 356, 3) := by decide +kernel
theorem dX11_weathers_76 : decode cX11_weathers 76 = .ok (.invokestatic 358, 3) := by decide +kernel
theorem dX11_weathers_79 : decode cX11_weathers 79 = .ok (.l2i, 1) := by decide +kernel
theorem dX11_weathers_80 : decode cX11_weathers 80 = .ok (.istore 7, 2) := by decide +kernel
theorem dX11_weathers_82 : decode cX11_weathers 82 = .ok (.lload 5, 2) := by decide +kernel
theorem dX11_weathers_84 : decode cX11_weathers 84 = .ok (.lconst 0, 1) := by decide +kernel
theorem dX11_weathers_85 : decode cX11_weathers 85 = .ok (.lcmp, 1) := by decide +kernel
theorem dX11_weathers_86 : decode cX11_weathers 86 = .ok (.ifCond .lt 35, 3) := by decide +kernel
theorem dX11_weathers_89 : decode cX11_weathers 89 = .ok (.lload 5, 2) := by decide +kernel
theorem dX11_weathers_91 : decode cX11_weathers 91 = .ok (.ldc2_w 356, 3) := by decide +kernel
theorem dX11_weathers_94 : decode cX11_weathers 94 = .ok (.ldiv, 1) := by decide +kernel
theorem dX11_weathers_95 : decode cX11_weathers 95 = .ok (.aload_n 0, 1) := by decide +kernel
theorem dX11_weathers_96 : decode cX11_weathers 96 = .ok (.getfield 27, 3) := by decide +kernel
theorem dX11_weathers_99 : decode cX11_weathers 99 = .ok (.getfield 364, 3) := by decide +kernel
theorem dX11_weathers_102 : decode cX11_weathers 102 = .ok (.i2l, 1) := by decide +kernel
theorem dX11_weathers_103 : decode cX11_weathers 103 = .ok (.lcmp, 1) := by decide +kernel
theorem dX11_weathers_104 : decode cX11_weathers 104 = .ok (.ifCond .ge 17, 3) := by decide +kernel
theorem dX11_weathers_107 : decode cX11_weathers 107 = .ok (.iload 7, 2) := by decide +kernel
theorem dX11_weathers_109 : decode cX11_weathers 109 = .ok (.iconst 1, 1) := by decide +kernel
theorem dX11_weathers_110 : decode cX11_weathers 110 = .ok (.if_icmp .lt 11, 3) := by decide +kernel
theorem dX11_weathers_113 : decode cX11_weathers 113 = .ok (.iload 7, 2) := by decide +kernel
theorem dX11_weathers_115 : decode cX11_weathers 115 = .ok (.sipush 199, 3) := by decide +kernel
theorem dX11_weathers_118 : decode cX11_weathers 118 = .ok (.if_icmp .le 6, 3) := by decide +kernel
theorem dX11_weathers_121 : decode cX11_weathers 121 = .ok (.bipush (-3), 2) := by decide +kernel
theorem dX11_weathers_123 : decode cX11_weathers 123 = .ok (.ireturn, 1) := by decide +kernel
theorem dX11_weathers_124 : decode cX11_weathers 124 = .ok (.iload_n 3, 1) := by decide +kernel
theorem dX11_weathers_125 : decode cX11_weathers 125 = .ok (.aload_n 0, 1) := by decide +kernel
theorem dX11_weathers_126 : decode cX11_weathers 126 = .ok (.getfield 27, 3) := by decide +kernel
theorem dX11_weathers_129 : decode cX11_weathers 129 = .ok (.lload 5, 2) := by decide +kernel
theorem dX11_weathers_131 : decode cX11_weathers 131 = .ok (.ldc2_w 356, 3) := by decide +kernel
theorem dX11_weathers_134 : decode cX11_weathers 134 = .ok (.ldiv, 1) := by decide +kernel
theorem dX11_weathers_135 : decode cX11_weathers 135 = .ok (.l2i, 1) := by decide +kernel
theorem dX11_weathers_136 : decode cX11_weathers 136 = .ok (.iload 7, 2) := by decide +kernel
theorem dX11_weathers_138 : decode cX11_weathers 138 = .ok (.bipush 100, 2) := by decide +kernel
theorem dX11_weathers_140 : decode cX11_weathers 140 = .ok (.isub, 1) := by decide +kernel
theorem dX11_weathers_141 : decode cX11_weathers 141 = .ok (.invokevirtual 367, 3) := by decide +kernel
theorem dX11_weathers_144 : decode cX11_weathers 144 = .ok (.iand, 1) := by decide +kernel
theorem dX11_weathers_145 : decode cX11_weathers 145 = .ok (.istore_n 3, 1) := by decide +kernel
theorem dX11_weathers_146 : decode cX11_weathers 146 = .ok (.iinc 4 1, 3) := by decide +kernel
theorem dX11_weathers_149 : decode cX11_weathers 149 = .ok (.goto (-95), 3) := by decide +kernel
theorem dX11_weathers_152 : decode cX11_weathers 152 = .ok (.iload_n 3, 1) := by decide +kernel
theorem dX11_weathers_153 : decode cX11_weathers 153 = .ok (.ireturn, 1) := by decide +kernel
theorem kl_X11_356 : Cond.constantLong RX11 356 (1000) ∈ Wd := mW 1269 (by decide +kernel) rfl
theorem ml_X11_358 : Cond.methodLink RX11 358 yJ9_floorMod_f86c9 ∈ Wd := mW 1270 (by decide +kernel) rfl
theorem mk_J9_floorMod_f86c9 : MokS yJ9_floorMod_f86c9 cJ9_floorMod_f86c9 6 (some .long) 2 := ⟨⟨mW 15 (by decide +kernel) rfl, mW 1272 (by decide +kernel) rfl, ⟨by decide, by decide, by decide +kernel⟩, by decide⟩, mW 1271 (by decide +kernel) rfl⟩
theorem fl_X11_364 : FLk RX11 364 2 2 := ⟨_, rfl, by decide, mW 151 (by decide +kernel) rfl⟩
theorem ml_X11_367 : Cond.methodLink RX11 367 yX2_weathersPaying ∈ Wd := mW 1273 (by decide +kernel) rfl
theorem mk_X2_weathersPaying : MokV yX2_weathersPaying cX2_weathersPaying 5 (some .int) 2 := ⟨⟨mW 5 (by decide +kernel) rfl, mW 1276 (by decide +kernel) rfl, ⟨by decide, by decide, by decide +kernel⟩, by decide⟩, mW 1274 (by decide +kernel) rfl, mW 1275 (by decide +kernel) rfl⟩
def C_weathers_L54 (q2 : Nat) (Q : Int32 → Hp → Prop) : Nat → Int32 → Int32 → Hp → Prop
  | 0, _, _, _ => False
  | n + 1, x3, x4, h => ((gI h q2 1) ≤ x4 → Q x3 h) ∧ (¬ (gI h q2 1) ≤ x4 → Tray_number q2 x4 h (fun r6 h7 => J9_floorMod_f86c9 r6 (1000 : Int64) h7 (fun r8 h9 => ∀ v10 : Int32, v10 = ((r8).toInt32) → (r6 < (0 : Int64) → Q (-3) h9) ∧ (¬ r6 < (0 : Int64) → ((((gI h9 14 2)).toInt64) ≤ (r6 / (1000 : Int64)) → Q (-3) h9) ∧ (¬ (((gI h9 14 2)).toInt64) ≤ (r6 / (1000 : Int64)) → (v10 < 1 → Q (-3) h9) ∧ (¬ v10 < 1 → (v10 ≤ 199 → Land_weathersPaying (((r6 / (1000 : Int64))).toInt32) (v10 - 100) h9 (fun r11 h12 => ∀ v13 : Int32, v13 = (x3 &&& r11) → ∀ v14 : Int32, v14 = (x4 + 1) → C_weathers_L54 q2 Q n v13 v14 h12)) ∧ (¬ v10 ≤ 199 → Q (-3) h9)))))))
set_option maxHeartbeats 4000000 in
set_option maxRecDepth 20000 in
theorem gl_C_weathers_L54 {G : Gx} {q2 : Nat} (hq2 : SH q2 = .inl 10) {Q : Int32 → Hp → Prop} : ∀ (n : Nat) (x3 : Int32) (x4 : Int32) (h : Hp), C_weathers_L54 q2 Q n x3 x4 h → Go cX11_weathers 8 RX11 (some .int) 4 G (QI G Q) 54 [(0, .ref (gAd G 0)), (2, .ref (gAd G q2)), (3, .int x3), (4, .int x4)] [] h := by
  intro n
  induction n with
  | zero => intro _ _ h hw; exact False.elim hw
  | succ n ih =>
    intro x3 x4 h hw
    refine g_iload dX11_weathers_54 rfl ?_
    refine g_aload_n dX11_weathers_56 rfl rfl ?_
    refine g_getI dX11_weathers_57 fl_X11_243 hq2 rfl ?_
    refine g_icmp_ge 152 dX11_weathers_60 rfl (fun hc => ?_) (fun hc => ?_)
    · have hw := hw.1 hc
      refine g_iload_n dX11_weathers_152 rfl rfl ?_
      exact g_iret dX11_weathers_153 hw
    · have hw := hw.2 hc
      refine g_aload_n dX11_weathers_63 rfl rfl ?_
      refine g_iload dX11_weathers_64 rfl ?_
      refine g_callVJ [.int x4] (ci := 10) dX11_weathers_66 ml_X11_244 mk_X10_number rfl rfl hq2 (Nat.le_of_ble_eq_true rfl) (Nat.le_of_ble_eq_true rfl) rfl (c_Tray_number hq2 hw) (fun r6 h7 hw => ?_)
      refine g_lstore dX11_weathers_69 (by decide) (lv1 := [(0, .ref (gAd G 0)), (2, .ref (gAd G q2)), (3, .int x3), (4, .int x4), (5, .long r6)]) rfl ?_
      refine g_lload dX11_weathers_71 rfl ?_
      refine g_ldc2 dX11_weathers_73 kl_X11_356 ?_
      refine g_callSJ [.long r6, .long (1000 : Int64)] dX11_weathers_76 ml_X11_358 mk_J9_floorMod_f86c9 rfl (Nat.le_of_ble_eq_true rfl) (Nat.le_of_ble_eq_true rfl) rfl (c_J9_floorMod_f86c9 hw) (fun r8 h9 hw => ?_)
      refine g_l2i dX11_weathers_79 ?_
      refine g_topi (fun v10 ev10 => ?_)
      have hw := hw v10 ev10
      refine g_istore dX11_weathers_80 (by decide) (lv1 := [(0, .ref (gAd G 0)), (2, .ref (gAd G q2)), (3, .int x3), (4, .int x4), (5, .long r6), (7, .int v10)]) rfl ?_
      refine g_lload dX11_weathers_82 rfl ?_
      refine g_lconst (v := (0 : Int64)) dX11_weathers_84 (by decide) ?_
      refine g_lc_lt 121 dX11_weathers_85 dX11_weathers_86 rfl (fun hc => ?_) (fun hc => ?_)
      · have hw := hw.1 hc
        refine g_bipush (v := (-3)) dX11_weathers_121 (by decide) ?_
        exact g_iret dX11_weathers_123 hw
      · have hw := hw.2 hc
        refine g_lload dX11_weathers_89 rfl ?_
        refine g_ldc2 dX11_weathers_91 kl_X11_356 ?_
        refine g_ldiv dX11_weathers_94 (by decide) ?_
        refine g_aload_n dX11_weathers_95 rfl rfl ?_
        refine g_getO dX11_weathers_96 fl_X11_27 sh0 rfl ?_
        refine g_getI dX11_weathers_99 fl_X11_364 sh14 rfl ?_
        refine g_i2l dX11_weathers_102 ?_
        refine g_lc_ge 121 dX11_weathers_103 dX11_weathers_104 rfl (fun hc => ?_) (fun hc => ?_)
        · have hw := hw.1 hc
          refine g_bipush (v := (-3)) dX11_weathers_121 (by decide) ?_
          exact g_iret dX11_weathers_123 hw
        · have hw := hw.2 hc
          refine g_iload dX11_weathers_107 rfl ?_
          refine g_iconst (v := 1) dX11_weathers_109 (by decide) ?_
          refine g_icmp_lt 121 dX11_weathers_110 rfl (fun hc => ?_) (fun hc => ?_)
          · have hw := hw.1 hc
            refine g_bipush (v := (-3)) dX11_weathers_121 (by decide) ?_
            exact g_iret dX11_weathers_123 hw
          · have hw := hw.2 hc
            refine g_iload dX11_weathers_113 rfl ?_
            refine g_sipush (v := 199) dX11_weathers_115 (by decide) ?_
            refine g_icmp_le 124 dX11_weathers_118 rfl (fun hc => ?_) (fun hc => ?_)
            · have hw := hw.1 hc
              refine g_iload_n dX11_weathers_124 rfl rfl ?_
              refine g_aload_n dX11_weathers_125 rfl rfl ?_
              refine g_getO dX11_weathers_126 fl_X11_27 sh0 rfl ?_
              refine g_lload dX11_weathers_129 rfl ?_
              refine g_ldc2 dX11_weathers_131 kl_X11_356 ?_
              refine g_ldiv dX11_weathers_134 (by decide) ?_
              refine g_l2i dX11_weathers_135 ?_
              refine g_iload dX11_weathers_136 rfl ?_
              refine g_bipush (v := 100) dX11_weathers_138 (by decide) ?_
              refine g_isub dX11_weathers_140 ?_
              refine g_callVI [.int (((r6 / (1000 : Int64))).toInt32), .int (v10 - 100)] (ci := 2) dX11_weathers_141 ml_X11_367 mk_X2_weathersPaying rfl rfl sh14 (Nat.le_of_ble_eq_true rfl) (Nat.le_of_ble_eq_true rfl) rfl (c_Land_weathersPaying hw) (fun r11 h12 hw => ?_)
              refine g_iand dX11_weathers_144 ?_
              refine g_topi (fun v13 ev13 => ?_)
              have hw := hw v13 ev13
              refine g_istore_n dX11_weathers_145 rfl (by decide) (lv1 := [(0, .ref (gAd G 0)), (2, .ref (gAd G q2)), (3, .int v13), (4, .int x4), (5, .long r6), (7, .int v10)]) rfl ?_
              obtain ⟨v14, ev14⟩ : ∃ y : Int32, y = (x4 + 1) := ⟨_, rfl⟩
              have hw := hw v14 ev14
              refine g_iinc dX11_weathers_146 rfl (by rw [ev14]; rfl) (by decide) (lv1 := [(0, .ref (gAd G 0)), (2, .ref (gAd G q2)), (3, .int v13), (4, .int v14), (5, .long r6), (7, .int v10)]) rfl ?_
              refine g_goto 54 dX11_weathers_149 rfl ?_
              refine g_lv [0, 1, 2, 3] rfl ?_
              exact ih _ _ _ hw
            · have hw := hw.2 hc
              refine g_bipush (v := (-3)) dX11_weathers_121 (by decide) ?_
              exact g_iret dX11_weathers_123 hw
def C_weathers (x1 : Int32) (h : Hp) (Q : Int32 → Hp → Prop) : Prop := C_isTray x1 h (fun r1 h2 => (¬ r1 = 0 → vp_in x1 4 ∧ Tray_isMissing (rf 46 (x1).toNatClampNeg) h2 (fun r4 h5 => (r4 = 0 → ((gI h5 (rf 46 (x1).toNatClampNeg) 1) < 1 → Q (-4) h5) ∧ (¬ (gI h5 (rf 46 (x1).toNatClampNeg) 1) < 1 → ((gI h5 (rf 46 (x1).toNatClampNeg) 1) ≤ 8 → ∃ n15, C_weathers_L54 (rf 46 (x1).toNatClampNeg) Q n15 1023 0 h5) ∧ (¬ (gI h5 (rf 46 (x1).toNatClampNeg) 1) ≤ 8 → Q (-4) h5))) ∧ (¬ r4 = 0 → Q (-6) h5))) ∧ (r1 = 0 → Q (-2) h2))
set_option maxHeartbeats 4000000 in
set_option maxRecDepth 20000 in
theorem c_C_weathers {G : Gx}  {x1 : Int32} {h : Hp} {Q : Int32 → Hp → Prop} (hw : C_weathers x1 h Q) : Ct yX11_weathers cX11_weathers 8 (some .int) 4 G [.ref (gAd G 0), .int x1] h (QI G Q) := by
  refine ct_go [(0, .ref (gAd G 0)), (1, .int x1)] (plainFor_of_name (by decide)) rfl (Nat.le_of_ble_eq_true rfl) rfl ?_
  refine g_iload_n dX11_weathers_0 rfl rfl ?_
  refine g_callSI [.int x1] dX11_weathers_1 ml_X11_224 mk_X11_isTray rfl (Nat.le_of_ble_eq_true rfl) (Nat.le_of_ble_eq_true rfl) rfl (c_C_isTray hw) (fun r1 h2 hw => ?_)
  refine g_if_ne 10 dX11_weathers_4 rfl (fun hc => ?_) (fun hc => ?_)
  · have hw := hw.1 hc
    refine g_aload_n dX11_weathers_10 rfl rfl ?_
    refine g_getA dX11_weathers_11 fl_X11_50 sh0 rfl ?_
    refine g_iload_n dX11_weathers_14 rfl rfl ?_
    refine g_aald dX11_weathers_15 ia46 (by decide) al46 hw.1 ?_
    have hi3 := hw.1
    have hw := hw.2
    refine g_astore_n dX11_weathers_16 rfl (by decide) (lv1 := [(0, .ref (gAd G 0)), (1, .int x1), (2, .ref (gAd G (rf 46 (x1).toNatClampNeg)))]) rfl ?_
    refine g_aload_n dX11_weathers_17 rfl rfl ?_
    refine g_callVI [] (ci := 10) dX11_weathers_18 ml_X11_227 mk_X10_isMissing rfl rfl (rf_e ia46 (by rw [al46]; exact vp_lt hi3) (by decide)) (Nat.le_of_ble_eq_true rfl) (Nat.le_of_ble_eq_true rfl) rfl (c_Tray_isMissing (rf_e ia46 (by rw [al46]; exact vp_lt hi3) (by decide)) hw) (fun r4 h5 hw => ?_)
    refine g_if_eq 27 dX11_weathers_21 rfl (fun hc => ?_) (fun hc => ?_)
    · have hw := hw.1 hc
      refine g_aload_n dX11_weathers_27 rfl rfl ?_
      refine g_getI dX11_weathers_28 fl_X11_243 (rf_e ia46 (by rw [al46]; exact vp_lt hi3) (by decide)) rfl ?_
      refine g_iconst (v := 1) dX11_weathers_31 (by decide) ?_
      refine g_icmp_lt 44 dX11_weathers_32 rfl (fun hc => ?_) (fun hc => ?_)
      · have hw := hw.1 hc
        refine g_bipush (v := (-4)) dX11_weathers_44 (by decide) ?_
        exact g_iret dX11_weathers_46 hw
      · have hw := hw.2 hc
        refine g_aload_n dX11_weathers_35 rfl rfl ?_
        refine g_getI dX11_weathers_36 fl_X11_243 (rf_e ia46 (by rw [al46]; exact vp_lt hi3) (by decide)) rfl ?_
        refine g_bipush (v := 8) dX11_weathers_39 (by decide) ?_
        refine g_icmp_le 47 dX11_weathers_41 rfl (fun hc => ?_) (fun hc => ?_)
        · have hw := hw.1 hc
          refine g_sipush (v := 1023) dX11_weathers_47 (by decide) ?_
          refine g_istore_n dX11_weathers_50 rfl (by decide) (lv1 := [(0, .ref (gAd G 0)), (1, .int x1), (2, .ref (gAd G (rf 46 (x1).toNatClampNeg))), (3, .int 1023)]) rfl ?_
          refine g_iconst (v := 0) dX11_weathers_51 (by decide) ?_
          refine g_istore dX11_weathers_52 (by decide) (lv1 := [(0, .ref (gAd G 0)), (1, .int x1), (2, .ref (gAd G (rf 46 (x1).toNatClampNeg))), (3, .int 1023), (4, .int 0)]) rfl ?_
          obtain ⟨n15, hw⟩ := hw
          refine g_lv [0, 2, 3, 4] rfl ?_
          refine gl_C_weathers_L54 (rf_e ia46 (by rw [al46]; exact vp_lt hi3) (by decide))  _ _ _ _ hw
        · have hw := hw.2 hc
          refine g_bipush (v := (-4)) dX11_weathers_44 (by decide) ?_
          exact g_iret dX11_weathers_46 hw
    · have hw := hw.2 hc
      refine g_bipush (v := (-6)) dX11_weathers_24 (by decide) ?_
      exact g_iret dX11_weathers_26 hw
  · have hw := hw.2 hc
    refine g_bipush (v := (-2)) dX11_weathers_7 (by decide) ?_
    exact g_iret dX11_weathers_9 hw
theorem dX2_mostAlike_0 : decode cX2_mostAlike 0 = .ok (.iconst 0, 1) := by decide +kernel
theorem dX2_mostAlike_1 : decode cX2_mostAlike 1 = .ok (.istore_n 3, 1) := by decide +kernel
theorem dX2_mostAlike_2 : decode cX2_mostAlike 2 = .ok (.iconst 0, 1) := by decide +kernel
theorem dX2_mostAlike_3 : decode cX2_mostAlike 3 = .ok (.istore 4, 2) := by decide +kernel
theorem dX2_mostAlike_5 : decode cX2_mostAlike 5 = .ok (.iload 4, 2) := by decide +kernel
theorem dX2_mostAlike_7 : decode cX2_mostAlike 7 = .ok (.bipush 10, 2) := by decide +kernel
theorem dX2_mostAlike_9 : decode cX2_mostAlike 9 = .ok (.if_icmp .ge 35, 3) := by decide +kernel
theorem dX2_mostAlike_12 : decode cX2_mostAlike 12 = .ok (.aload_n 0, 1) := by decide +kernel
theorem dX2_mostAlike_13 : decode cX2_mostAlike 13 = .ok (.iload_n 1, 1) := by decide +kernel
theorem dX2_mostAlike_14 : decode cX2_mostAlike 14 = .ok (.aload_n 0, 1) := by decide +kernel
theorem dX2_mostAlike_15 : decode cX2_mostAlike 15 = .ok (.iload 4, 2) := by decide +kernel
theorem dX2_mostAlike_17 : decode cX2_mostAlike 17 = .ok (.iload_n 1, 1) := by decide +kernel
theorem dX2_mostAlike_18 : decode cX2_mostAlike 18 = .ok (.invokevirtual 69, 3) := by decide +kernel
theorem dX2_mostAlike_21 : decode cX2_mostAlike 21 = .ok (.invokevirtual 80, 3) := by decide +kernel
theorem dX2_mostAlike_24 : decode cX2_mostAlike 24 = .ok (.iload_n 2, 1) := by decide +kernel
theorem dX2_mostAlike_25 : decode cX2_mostAlike 25 = .ok (.iand, 1) := by decide +kernel
theorem dX2_mostAlike_26 : decode cX2_mostAlike 26 = .ok (.invokestatic 83, 3) := by decide +kernel
theorem dX2_mostAlike_29 : decode cX2_mostAlike 29 = .ok (.istore 5, 2) := by decide +kernel
theorem dX2_mostAlike_31 : decode cX2_mostAlike 31 = .ok (.iload_n 3, 1) := by decide +kernel
theorem dX2_mostAlike_32 : decode cX2_mostAlike 32 = .ok (.iload 5, 2) := by decide +kernel
theorem dX2_mostAlike_34 : decode cX2_mostAlike 34 = .ok (.invokestatic 77, 3) := by decide +kernel
theorem dX2_mostAlike_37 : decode cX2_mostAlike 37 = .ok (.istore_n 3, 1) := by decide +kernel
theorem dX2_mostAlike_38 : decode cX2_mostAlike 38 = .ok (.iinc 4 1, 3) := by decide +kernel
theorem dX2_mostAlike_41 : decode cX2_mostAlike 41 = .ok (.goto (-36), 3) := by decide +kernel
theorem dX2_mostAlike_44 : decode cX2_mostAlike 44 = .ok (.iload_n 3, 1) := by decide +kernel
theorem dX2_mostAlike_45 : decode cX2_mostAlike 45 = .ok (.ireturn, 1) := by decide +kernel
theorem ml_X2_80 : Cond.methodLink RX2 80 yX2_weathersPaying ∈ Wd := mW 1286 (by decide +kernel) rfl
theorem ml_X2_83 : Cond.methodLink RX2 83 yJ6_bitCount_0f7a4 ∈ Wd := mW 1287 (by decide +kernel) rfl
def Land_mostAlike_L5 (x1 : Int32) (x2 : Int32) (Q : Int32 → Hp → Prop) : Nat → Int32 → Int32 → Hp → Prop
  | 0, _, _, _ => False
  | n + 1, x3, x4, h => (10 ≤ x4 → Q x3 h) ∧ (¬ 10 ≤ x4 → Land_payOf x4 x1 h (fun r1 h2 => Land_weathersPaying x1 r1 h2 (fun r3 h4 => J6_bitCount_0f7a4 (r3 &&& x2) h4 (fun r5 h6 => J9_max_7cf53 x3 r5 h6 (fun r7 h8 => ∀ v9 : Int32, v9 = (x4 + 1) → Land_mostAlike_L5 x1 x2 Q n r7 v9 h8)))))
set_option maxHeartbeats 4000000 in
set_option maxRecDepth 20000 in
theorem gl_Land_mostAlike_L5 {G : Gx}  {x1 : Int32} {x2 : Int32} {Q : Int32 → Hp → Prop} : ∀ (n : Nat) (x3 : Int32) (x4 : Int32) (h : Hp), Land_mostAlike_L5 x1 x2 Q n x3 x4 h → Go cX2_mostAlike 6 RX2 (some .int) 4 G (QI G Q) 5 [(0, .ref (gAd G 14)), (1, .int x1), (2, .int x2), (3, .int x3), (4, .int x4)] [] h := by
  intro n
  induction n with
  | zero => intro _ _ h hw; exact False.elim hw
  | succ n ih =>
    intro x3 x4 h hw
    refine g_iload dX2_mostAlike_5 rfl ?_
    refine g_bipush (v := 10) dX2_mostAlike_7 (by decide) ?_
    refine g_icmp_ge 44 dX2_mostAlike_9 rfl (fun hc => ?_) (fun hc => ?_)
    · have hw := hw.1 hc
      refine g_iload_n dX2_mostAlike_44 rfl rfl ?_
      exact g_iret dX2_mostAlike_45 hw
    · have hw := hw.2 hc
      refine g_aload_n dX2_mostAlike_12 rfl rfl ?_
      refine g_iload_n dX2_mostAlike_13 rfl rfl ?_
      refine g_aload_n dX2_mostAlike_14 rfl rfl ?_
      refine g_iload dX2_mostAlike_15 rfl ?_
      refine g_iload_n dX2_mostAlike_17 rfl rfl ?_
      refine g_callVI [.int x4, .int x1] (ci := 2) dX2_mostAlike_18 ml_X2_69 mk_X2_payOf rfl rfl sh14 (Nat.le_of_ble_eq_true rfl) (Nat.le_of_ble_eq_true rfl) rfl (c_Land_payOf hw) (fun r1 h2 hw => ?_)
      refine g_callVI [.int x1, .int r1] (ci := 2) dX2_mostAlike_21 ml_X2_80 mk_X2_weathersPaying rfl rfl sh14 (Nat.le_of_ble_eq_true rfl) (Nat.le_of_ble_eq_true rfl) rfl (c_Land_weathersPaying hw) (fun r3 h4 hw => ?_)
      refine g_iload_n dX2_mostAlike_24 rfl rfl ?_
      refine g_iand dX2_mostAlike_25 ?_
      refine g_callSI [.int (r3 &&& x2)] dX2_mostAlike_26 ml_X2_83 mk_J6_bitCount_0f7a4 rfl (Nat.le_of_ble_eq_true rfl) (Nat.le_of_ble_eq_true rfl) rfl (c_J6_bitCount_0f7a4 hw) (fun r5 h6 hw => ?_)
      refine g_istore dX2_mostAlike_29 (by decide) (lv1 := [(0, .ref (gAd G 14)), (1, .int x1), (2, .int x2), (3, .int x3), (4, .int x4), (5, .int r5)]) rfl ?_
      refine g_iload_n dX2_mostAlike_31 rfl rfl ?_
      refine g_iload dX2_mostAlike_32 rfl ?_
      refine g_callSI [.int x3, .int r5] dX2_mostAlike_34 ml_X2_77 mk_J9_max_7cf53 rfl (Nat.le_of_ble_eq_true rfl) (Nat.le_of_ble_eq_true rfl) rfl (c_J9_max_7cf53 hw) (fun r7 h8 hw => ?_)
      refine g_istore_n dX2_mostAlike_37 rfl (by decide) (lv1 := [(0, .ref (gAd G 14)), (1, .int x1), (2, .int x2), (3, .int r7), (4, .int x4), (5, .int r5)]) rfl ?_
      obtain ⟨v9, ev9⟩ : ∃ y : Int32, y = (x4 + 1) := ⟨_, rfl⟩
      have hw := hw v9 ev9
      refine g_iinc dX2_mostAlike_38 rfl (by rw [ev9]; rfl) (by decide) (lv1 := [(0, .ref (gAd G 14)), (1, .int x1), (2, .int x2), (3, .int r7), (4, .int v9), (5, .int r5)]) rfl ?_
      refine g_goto 5 dX2_mostAlike_41 rfl ?_
      refine g_lv [0, 1, 2, 3, 4] rfl ?_
      exact ih _ _ _ hw
def Land_mostAlike (x1 : Int32) (x2 : Int32) (h : Hp) (Q : Int32 → Hp → Prop) : Prop := ∃ n10, Land_mostAlike_L5 x1 x2 Q n10 0 0 h
set_option maxHeartbeats 4000000 in
set_option maxRecDepth 20000 in
theorem c_Land_mostAlike {G : Gx}  {x1 : Int32} {x2 : Int32} {h : Hp} {Q : Int32 → Hp → Prop} (hw : Land_mostAlike x1 x2 h Q) : Ct yX2_mostAlike cX2_mostAlike 6 (some .int) 4 G [.ref (gAd G 14), .int x1, .int x2] h (QI G Q) := by
  refine ct_go [(0, .ref (gAd G 14)), (1, .int x1), (2, .int x2)] (plainFor_of_name (by decide)) rfl (Nat.le_of_ble_eq_true rfl) rfl ?_
  refine g_iconst (v := 0) dX2_mostAlike_0 (by decide) ?_
  refine g_istore_n dX2_mostAlike_1 rfl (by decide) (lv1 := [(0, .ref (gAd G 14)), (1, .int x1), (2, .int x2), (3, .int 0)]) rfl ?_
  refine g_iconst (v := 0) dX2_mostAlike_2 (by decide) ?_
  refine g_istore dX2_mostAlike_3 (by decide) (lv1 := [(0, .ref (gAd G 14)), (1, .int x1), (2, .int x2), (3, .int 0), (4, .int 0)]) rfl ?_
  obtain ⟨n10, hw⟩ := hw
  refine gl_Land_mostAlike_L5   _ _ _ _ hw
theorem dX11_ask_0 : decode cX11_ask 0 = .ok (.aload_n 0, 1) := by decide +kernel
theorem dX11_ask_1 : decode cX11_ask 1 = .ok (.iload_n 1, 1) := by decide +kernel
theorem dX11_ask_2 : decode cX11_ask 2 = .ok (.invokevirtual 370, 3) := by decide +kernel
theorem dX11_ask_5 : decode cX11_ask 5 = .ok (.istore_n 2, 1) := by decide +kernel
theorem dX11_ask_6 : decode cX11_ask 6 = .ok (.iload_n 2, 1) := by decide +kernel
theorem dX11_ask_7 : decode cX11_ask 7 = .ok (.ifCond .gt 13, 3) := by decide +kernel
theorem dX11_ask_10 : decode cX11_ask 10 = .ok (.iload_n 2, 1) := by decide +kernel
theorem dX11_ask_11 : decode cX11_ask 11 = .ok (.ifCond .ne 7, 3) := by decide +kernel
theorem dX11_ask_14 : decode cX11_ask 14 = .ok (.iconst (-1), 1) := by decide +kernel
theorem dX11_ask_15 : decode cX11_ask 15 = .ok (.goto 4, 3) := by decide +kernel
theorem dX11_ask_18 : decode cX11_ask 18 = .ok (.iload_n 2, 1) := by decide +kernel
theorem dX11_ask_19 : decode cX11_ask 19 = .ok (.ireturn, 1) := by decide +kernel
theorem dX11_ask_20 : decode cX11_ask 20 = .ok (.iconst (-1), 1) := by decide +kernel
theorem dX11_ask_21 : decode cX11_ask 21 = .ok (.istore_n 3, 1) := by decide +kernel
theorem dX11_ask_22 : decode cX11_ask 22 = .ok (.bipush 11, 2) := by decide +kernel
theorem dX11_ask_24 : decode cX11_ask 24 = .ok (.istore 4, 2) := by decide +kernel
theorem dX11_ask_26 : decode cX11_ask 26 = .ok (.iconst 0, 1) := by decide +kernel
theorem dX11_ask_27 : decode cX11_ask 27 = .ok (.istore 5, 2) := by decide +kernel
theorem dX11_ask_29 : decode cX11_ask 29 = .ok (.iload 5, 2) := by decide +kernel
theorem dX11_ask_31 : decode cX11_ask 31 = .ok (.aload_n 0, 1) := by decide +kernel
theorem dX11_ask_32 : decode cX11_ask 32 = .ok (.getfield 27, 3) := by decide +kernel
theorem dX11_ask_35 : decode cX11_ask 35 = .ok (.getfield 364, 3) := by decide +kernel
theorem dX11_ask_38 : decode cX11_ask 38 = .ok (.if_icmp .ge 35, 3) := by decide +kernel
theorem dX11_ask_41 : decode cX11_ask 41 = .ok (.aload_n 0, 1) := by decide +kernel
theorem dX11_ask_42 : decode cX11_ask 42 = .ok (.getfield 27, 3) := by decide +kernel
theorem dX11_ask_45 : decode cX11_ask 45 = .ok (.iload 5, 2) := by decide +kernel
theorem dX11_ask_47 : decode cX11_ask 47 = .ok (.iload_n 2, 1) := by decide +kernel
theorem dX11_ask_48 : decode cX11_ask 48 = .ok (.invokevirtual 373, 3) := by decide +kernel
theorem dX11_ask_51 : decode cX11_ask 51 = .ok (.istore 6, 2) := by decide +kernel
theorem dX11_ask_53 : decode cX11_ask 53 = .ok (.iload 6, 2) := by decide +kernel
theorem dX11_ask_55 : decode cX11_ask 55 = .ok (.iload 4, 2) := by decide +kernel
theorem dX11_ask_57 : decode cX11_ask 57 = .ok (.if_icmp .ge 10, 3) := by decide +kernel
theorem dX11_ask_60 : decode cX11_ask 60 = .ok (.iload 6, 2) := by decide +kernel
theorem dX11_ask_62 : decode cX11_ask 62 = .ok (.istore 4, 2) := by decide +kernel
theorem dX11_ask_64 : decode cX11_ask 64 = .ok (.iload 5, 2) := by decide +kernel
theorem dX11_ask_66 : decode cX11_ask 66 = .ok (.istore_n 3, 1) := by decide +kernel
theorem dX11_ask_67 : decode cX11_ask 67 = .ok (.iinc 5 1, 3) := by decide +kernel
theorem dX11_ask_70 : decode cX11_ask 70 = .ok (.goto (-41), 3) := by decide +kernel
theorem dX11_ask_73 : decode cX11_ask 73 = .ok (.iload_n 3, 1) := by decide +kernel
theorem dX11_ask_74 : decode cX11_ask 74 = .ok (.ireturn, 1) := by decide +kernel
theorem ml_X11_370 : Cond.methodLink RX11 370 yX11_weathers ∈ Wd := mW 1281 (by decide +kernel) rfl
theorem mk_X11_weathers : MokV yX11_weathers cX11_weathers 8 (some .int) 1 := ⟨⟨mW 1 (by decide +kernel) rfl, mW 1268 (by decide +kernel) rfl, ⟨by decide, by decide, by decide +kernel⟩, by decide⟩, mW 1266 (by decide +kernel) rfl, mW 1267 (by decide +kernel) rfl⟩
theorem ml_X11_373 : Cond.methodLink RX11 373 yX2_mostAlike ∈ Wd := mW 1282 (by decide +kernel) rfl
theorem mk_X2_mostAlike : MokV yX2_mostAlike cX2_mostAlike 6 (some .int) 2 := ⟨⟨mW 5 (by decide +kernel) rfl, mW 1285 (by decide +kernel) rfl, ⟨by decide, by decide, by decide +kernel⟩, by decide⟩, mW 1283 (by decide +kernel) rfl, mW 1284 (by decide +kernel) rfl⟩
def C_ask_L29 (x2 : Int32) (Q : Int32 → Hp → Prop) : Nat → Int32 → Int32 → Int32 → Hp → Prop
  | 0, _, _, _, _ => False
  | n + 1, x3, x4, x5, h => ((gI h 14 2) ≤ x5 → Q x3 h) ∧ (¬ (gI h 14 2) ≤ x5 → Land_mostAlike x5 x2 h (fun r3 h4 => ∀ J67 : Int32 → Int32 → Hp → Prop, J67 = (fun x3_5 x4_6 h7 => ∀ v8 : Int32, v8 = (x5 + 1) → C_ask_L29 x2 Q n x3_5 x4_6 v8 h7) → (x4 ≤ r3 → J67 x3 x4 h4) ∧ (¬ x4 ≤ r3 → J67 x5 r3 h4)))
set_option maxHeartbeats 4000000 in
set_option maxRecDepth 20000 in
theorem gl_C_ask_L29 {G : Gx}  {x2 : Int32} {Q : Int32 → Hp → Prop} : ∀ (n : Nat) (x3 : Int32) (x4 : Int32) (x5 : Int32) (h : Hp), C_ask_L29 x2 Q n x3 x4 x5 h → Go cX11_ask 7 RX11 (some .int) 5 G (QI G Q) 29 [(0, .ref (gAd G 0)), (2, .int x2), (3, .int x3), (4, .int x4), (5, .int x5)] [] h := by
  intro n
  induction n with
  | zero => intro _ _ _ h hw; exact False.elim hw
  | succ n ih =>
    intro x3 x4 x5 h hw
    refine g_iload dX11_ask_29 rfl ?_
    refine g_aload_n dX11_ask_31 rfl rfl ?_
    refine g_getO dX11_ask_32 fl_X11_27 sh0 rfl ?_
    refine g_getI dX11_ask_35 fl_X11_364 sh14 rfl ?_
    refine g_icmp_ge 73 dX11_ask_38 rfl (fun hc => ?_) (fun hc => ?_)
    · have hw := hw.1 hc
      refine g_iload_n dX11_ask_73 rfl rfl ?_
      exact g_iret dX11_ask_74 hw
    · have hw := hw.2 hc
      refine g_aload_n dX11_ask_41 rfl rfl ?_
      refine g_getO dX11_ask_42 fl_X11_27 sh0 rfl ?_
      refine g_iload dX11_ask_45 rfl ?_
      refine g_iload_n dX11_ask_47 rfl rfl ?_
      refine g_callVI [.int x5, .int x2] (ci := 2) dX11_ask_48 ml_X11_373 mk_X2_mostAlike rfl rfl sh14 (Nat.le_of_ble_eq_true rfl) (Nat.le_of_ble_eq_true rfl) rfl (c_Land_mostAlike hw) (fun r3 h4 hw => ?_)
      refine g_istore dX11_ask_51 (by decide) (lv1 := [(0, .ref (gAd G 0)), (2, .int x2), (3, .int x3), (4, .int x4), (5, .int x5), (6, .int r3)]) rfl ?_
      refine g_iload dX11_ask_53 rfl ?_
      refine g_iload dX11_ask_55 rfl ?_
      refine jn_el hw (fun J67 eJ67 hw => ?_)
      have hJ67 : ∀ (x3_5 : Int32) (x4_6 : Int32) (h7 : Hp), J67 x3_5 x4_6 h7 → Go cX11_ask 7 RX11 (some .int) 5 G (QI G Q) 67 [(0, .ref (gAd G 0)), (2, .int x2), (3, .int x3_5), (4, .int x4_6), (5, .int x5)] [] h7 := by
        intro x3_5 x4_6 h7 hw
        subst eJ67
        obtain ⟨v8, ev8⟩ : ∃ y : Int32, y = (x5 + 1) := ⟨_, rfl⟩
        have hw := hw v8 ev8
        refine g_iinc dX11_ask_67 rfl (by rw [ev8]; rfl) (by decide) (lv1 := [(0, .ref (gAd G 0)), (2, .int x2), (3, .int x3_5), (4, .int x4_6), (5, .int v8)]) rfl ?_
        refine g_goto 29 dX11_ask_70 rfl ?_
        exact ih _ _ _ _ hw
      refine g_icmp_ge 67 dX11_ask_57 rfl (fun hc => ?_) (fun hc => ?_)
      · have hw := hw.1 hc
        refine g_lv [0, 1, 2, 3, 4] rfl ?_
        exact hJ67 _ _ _ hw
      · have hw := hw.2 hc
        refine g_iload dX11_ask_60 rfl ?_
        refine g_istore dX11_ask_62 (by decide) (lv1 := [(0, .ref (gAd G 0)), (2, .int x2), (3, .int x3), (4, .int r3), (5, .int x5), (6, .int r3)]) rfl ?_
        refine g_iload dX11_ask_64 rfl ?_
        refine g_istore_n dX11_ask_66 rfl (by decide) (lv1 := [(0, .ref (gAd G 0)), (2, .int x2), (3, .int x5), (4, .int r3), (5, .int x5), (6, .int r3)]) rfl ?_
        refine g_lv [0, 1, 2, 3, 4] rfl ?_
        exact hJ67 _ _ _ hw
def C_ask (x1 : Int32) (h : Hp) (Q : Int32 → Hp → Prop) : Prop := C_weathers x1 h (fun r1 h2 => (0 < r1 → ∃ n9, C_ask_L29 r1 Q n9 (-1) 11 0 h2) ∧ (¬ 0 < r1 → (¬ r1 = 0 → Q r1 h2) ∧ (r1 = 0 → Q (-1) h2)))
set_option maxHeartbeats 4000000 in
set_option maxRecDepth 20000 in
theorem c_C_ask {G : Gx}  {x1 : Int32} {h : Hp} {Q : Int32 → Hp → Prop} (hw : C_ask x1 h Q) : Ct yX11_ask cX11_ask 7 (some .int) 5 G [.ref (gAd G 0), .int x1] h (QI G Q) := by
  refine ct_go [(0, .ref (gAd G 0)), (1, .int x1)] (plainFor_of_name (by decide)) rfl (Nat.le_of_ble_eq_true rfl) rfl ?_
  refine g_aload_n dX11_ask_0 rfl rfl ?_
  refine g_iload_n dX11_ask_1 rfl rfl ?_
  refine g_callVI [.int x1] (ci := 11) dX11_ask_2 ml_X11_370 mk_X11_weathers rfl rfl sh0 (Nat.le_of_ble_eq_true rfl) (Nat.le_of_ble_eq_true rfl) rfl (c_C_weathers hw) (fun r1 h2 hw => ?_)
  refine g_istore_n dX11_ask_5 rfl (by decide) (lv1 := [(0, .ref (gAd G 0)), (1, .int x1), (2, .int r1)]) rfl ?_
  refine g_iload_n dX11_ask_6 rfl rfl ?_
  refine g_if_gt 20 dX11_ask_7 rfl (fun hc => ?_) (fun hc => ?_)
  · have hw := hw.1 hc
    refine g_iconst (v := (-1)) dX11_ask_20 (by decide) ?_
    refine g_istore_n dX11_ask_21 rfl (by decide) (lv1 := [(0, .ref (gAd G 0)), (1, .int x1), (2, .int r1), (3, .int (-1))]) rfl ?_
    refine g_bipush (v := 11) dX11_ask_22 (by decide) ?_
    refine g_istore dX11_ask_24 (by decide) (lv1 := [(0, .ref (gAd G 0)), (1, .int x1), (2, .int r1), (3, .int (-1)), (4, .int 11)]) rfl ?_
    refine g_iconst (v := 0) dX11_ask_26 (by decide) ?_
    refine g_istore dX11_ask_27 (by decide) (lv1 := [(0, .ref (gAd G 0)), (1, .int x1), (2, .int r1), (3, .int (-1)), (4, .int 11), (5, .int 0)]) rfl ?_
    obtain ⟨n9, hw⟩ := hw
    refine g_lv [0, 2, 3, 4, 5] rfl ?_
    refine gl_C_ask_L29   _ _ _ _ _ hw
  · have hw := hw.2 hc
    refine g_iload_n dX11_ask_10 rfl rfl ?_
    refine g_if_ne 18 dX11_ask_11 rfl (fun hc => ?_) (fun hc => ?_)
    · have hw := hw.1 hc
      refine g_iload_n dX11_ask_18 rfl rfl ?_
      exact g_iret dX11_ask_19 hw
    · have hw := hw.2 hc
      refine g_iconst (v := (-1)) dX11_ask_14 (by decide) ?_
      refine g_goto 19 dX11_ask_15 rfl ?_
      exact g_iret dX11_ask_19 hw
theorem dX7_firstBits_0 : decode cX7_firstBits 0 = .ok (.iload_n 0, 1) := by decide +kernel
theorem dX7_firstBits_1 : decode cX7_firstBits 1 = .ok (.istore_n 2, 1) := by decide +kernel
theorem dX7_firstBits_2 : decode cX7_firstBits 2 = .ok (.iconst 0, 1) := by decide +kernel
theorem dX7_firstBits_3 : decode cX7_firstBits 3 = .ok (.istore_n 3, 1) := by decide +kernel
theorem dX7_firstBits_4 : decode cX7_firstBits 4 = .ok (.iload_n 3, 1) := by decide +kernel
theorem dX7_firstBits_5 : decode cX7_firstBits 5 = .ok (.iload_n 1, 1) := by decide +kernel
theorem dX7_firstBits_6 : decode cX7_firstBits 6 = .ok (.if_icmp .ge 15, 3) := by decide +kernel
theorem dX7_firstBits_9 : decode cX7_firstBits 9 = .ok (.iload_n 2, 1) := by decide +kernel
theorem dX7_firstBits_10 : decode cX7_firstBits 10 = .ok (.iload_n 2, 1) := by decide +kernel
theorem dX7_firstBits_11 : decode cX7_firstBits 11 = .ok (.iconst 1, 1) := by decide +kernel
theorem dX7_firstBits_12 : decode cX7_firstBits 12 = .ok (.isub, 1) := by decide +kernel
theorem dX7_firstBits_13 : decode cX7_firstBits 13 = .ok (.iand, 1) := by decide +kernel
theorem dX7_firstBits_14 : decode cX7_firstBits 14 = .ok (.istore_n 2, 1) := by decide +kernel
theorem dX7_firstBits_15 : decode cX7_firstBits 15 = .ok (.iinc 3 1, 3) := by decide +kernel
theorem dX7_firstBits_18 : decode cX7_firstBits 18 = .ok (.goto (-14), 3) := by decide +kernel
theorem dX7_firstBits_21 : decode cX7_firstBits 21 = .ok (.iload_n 0, 1) := by decide +kernel
theorem dX7_firstBits_22 : decode cX7_firstBits 22 = .ok (.iload_n 2, 1) := by decide +kernel
theorem dX7_firstBits_23 : decode cX7_firstBits 23 = .ok (.iconst (-1), 1) := by decide +kernel
theorem dX7_firstBits_24 : decode cX7_firstBits 24 = .ok (.ixor, 1) := by decide +kernel
theorem dX7_firstBits_25 : decode cX7_firstBits 25 = .ok (.iand, 1) := by decide +kernel
theorem dX7_firstBits_26 : decode cX7_firstBits 26 = .ok (.ireturn, 1) := by decide +kernel
def Sums_firstBits_L4 (x0 : Int32) (x1 : Int32) (Q : Int32 → Hp → Prop) : Nat → Int32 → Int32 → Hp → Prop
  | 0, _, _, _ => False
  | n + 1, x2, x3, h => (x1 ≤ x3 → Q (x0 &&& (x2 ^^^ (-1))) h) ∧ (¬ x1 ≤ x3 → ∀ v1 : Int32, v1 = (x2 &&& (x2 - 1)) → ∀ v2 : Int32, v2 = (x3 + 1) → Sums_firstBits_L4 x0 x1 Q n v1 v2 h)
set_option maxHeartbeats 4000000 in
set_option maxRecDepth 20000 in
theorem gl_Sums_firstBits_L4 {G : Gx}  {x0 : Int32} {x1 : Int32} {Q : Int32 → Hp → Prop} : ∀ (n : Nat) (x2 : Int32) (x3 : Int32) (h : Hp), Sums_firstBits_L4 x0 x1 Q n x2 x3 h → Go cX7_firstBits 4 RX7 (some .int) 1 G (QI G Q) 4 [(0, .int x0), (1, .int x1), (2, .int x2), (3, .int x3)] [] h := by
  intro n
  induction n with
  | zero => intro _ _ h hw; exact False.elim hw
  | succ n ih =>
    intro x2 x3 h hw
    refine g_iload_n dX7_firstBits_4 rfl rfl ?_
    refine g_iload_n dX7_firstBits_5 rfl rfl ?_
    refine g_icmp_ge 21 dX7_firstBits_6 rfl (fun hc => ?_) (fun hc => ?_)
    · have hw := hw.1 hc
      refine g_iload_n dX7_firstBits_21 rfl rfl ?_
      refine g_iload_n dX7_firstBits_22 rfl rfl ?_
      refine g_iconst (v := (-1)) dX7_firstBits_23 (by decide) ?_
      refine g_ixor dX7_firstBits_24 ?_
      refine g_iand dX7_firstBits_25 ?_
      exact g_iret dX7_firstBits_26 hw
    · have hw := hw.2 hc
      refine g_iload_n dX7_firstBits_9 rfl rfl ?_
      refine g_iload_n dX7_firstBits_10 rfl rfl ?_
      refine g_iconst (v := 1) dX7_firstBits_11 (by decide) ?_
      refine g_isub dX7_firstBits_12 ?_
      refine g_iand dX7_firstBits_13 ?_
      refine g_topi (fun v1 ev1 => ?_)
      have hw := hw v1 ev1
      refine g_istore_n dX7_firstBits_14 rfl (by decide) (lv1 := [(0, .int x0), (1, .int x1), (2, .int v1), (3, .int x3)]) rfl ?_
      obtain ⟨v2, ev2⟩ : ∃ y : Int32, y = (x3 + 1) := ⟨_, rfl⟩
      have hw := hw v2 ev2
      refine g_iinc dX7_firstBits_15 rfl (by rw [ev2]; rfl) (by decide) (lv1 := [(0, .int x0), (1, .int x1), (2, .int v1), (3, .int v2)]) rfl ?_
      refine g_goto 4 dX7_firstBits_18 rfl ?_
      exact ih _ _ _ hw
def Sums_firstBits (x0 : Int32) (x1 : Int32) (h : Hp) (Q : Int32 → Hp → Prop) : Prop := ∃ n3, Sums_firstBits_L4 x0 x1 Q n3 x0 0 h
set_option maxHeartbeats 4000000 in
set_option maxRecDepth 20000 in
theorem c_Sums_firstBits {G : Gx}  {x0 : Int32} {x1 : Int32} {h : Hp} {Q : Int32 → Hp → Prop} (hw : Sums_firstBits x0 x1 h Q) : Ct yX7_firstBits cX7_firstBits 4 (some .int) 1 G [.int x0, .int x1] h (QI G Q) := by
  refine ct_go [(0, .int x0), (1, .int x1)] (plainFor_of_name (by decide)) rfl (Nat.le_of_ble_eq_true rfl) rfl ?_
  refine g_iload_n dX7_firstBits_0 rfl rfl ?_
  refine g_istore_n dX7_firstBits_1 rfl (by decide) (lv1 := [(0, .int x0), (1, .int x1), (2, .int x0)]) rfl ?_
  refine g_iconst (v := 0) dX7_firstBits_2 (by decide) ?_
  refine g_istore_n dX7_firstBits_3 rfl (by decide) (lv1 := [(0, .int x0), (1, .int x1), (2, .int x0), (3, .int 0)]) rfl ?_
  obtain ⟨n3, hw⟩ := hw
  refine gl_Sums_firstBits_L4   _ _ _ _ hw
theorem dX7_stepByLots_0 : decode cX7_stepByLots 0 = .ok (.iconst 0, 1) := by decide +kernel
theorem dX7_stepByLots_1 : decode cX7_stepByLots 1 = .ok (.istore_n 3, 1) := by decide +kernel
theorem dX7_stepByLots_2 : decode cX7_stepByLots 2 = .ok (.iconst 0, 1) := by decide +kernel
theorem dX7_stepByLots_3 : decode cX7_stepByLots 3 = .ok (.istore 4, 2) := by decide +kernel
theorem dX7_stepByLots_5 : decode cX7_stepByLots 5 = .ok (.iload 4, 2) := by decide +kernel
theorem dX7_stepByLots_7 : decode cX7_stepByLots 7 = .ok (.bipush 8, 2) := by decide +kernel
theorem dX7_stepByLots_9 : decode cX7_stepByLots 9 = .ok (.if_icmp .ge 43, 3) := by decide +kernel
theorem dX7_stepByLots_12 : decode cX7_stepByLots 12 = .ok (.aload_n 1, 1) := by decide +kernel
theorem dX7_stepByLots_13 : decode cX7_stepByLots 13 = .ok (.iload_n 2, 1) := by decide +kernel
theorem dX7_stepByLots_14 : decode cX7_stepByLots 14 = .ok (.iload 4, 2) := by decide +kernel
theorem dX7_stepByLots_16 : decode cX7_stepByLots 16 = .ok (.invokevirtual 28, 3) := by decide +kernel
theorem dX7_stepByLots_19 : decode cX7_stepByLots 19 = .ok (.bipush 10, 2) := by decide +kernel
theorem dX7_stepByLots_21 : decode cX7_stepByLots 21 = .ok (.invokestatic 42, 3) := by decide +kernel
theorem dX7_stepByLots_24 : decode cX7_stepByLots 24 = .ok (.istore 5, 2) := by decide +kernel
theorem dX7_stepByLots_26 : decode cX7_stepByLots 26 = .ok (.aload_n 0, 1) := by decide +kernel
theorem dX7_stepByLots_27 : decode cX7_stepByLots 27 = .ok (.getfield 15, 3) := by decide +kernel
theorem dX7_stepByLots_30 : decode cX7_stepByLots 30 = .ok (.iload 4, 2) := by decide +kernel
theorem dX7_stepByLots_32 : decode cX7_stepByLots 32 = .ok (.bipush 10, 2) := by decide +kernel
theorem dX7_stepByLots_34 : decode cX7_stepByLots 34 = .ok (.iload 5, 2) := by decide +kernel
theorem dX7_stepByLots_36 : decode cX7_stepByLots 36 = .ok (.invokestatic 45, 3) := by decide +kernel
theorem dX7_stepByLots_39 : decode cX7_stepByLots 39 = .ok (.isub, 1) := by decide +kernel
theorem dX7_stepByLots_40 : decode cX7_stepByLots 40 = .ok (.iastore, 1) := by decide +kernel
theorem dX7_stepByLots_41 : decode cX7_stepByLots 41 = .ok (.iload_n 3, 1) := by decide +kernel
theorem dX7_stepByLots_42 : decode cX7_stepByLots 42 = .ok (.iload 5, 2) := by decide +kernel
theorem dX7_stepByLots_44 : decode cX7_stepByLots 44 = .ok (.ior, 1) := by decide +kernel
theorem dX7_stepByLots_45 : decode cX7_stepByLots 45 = .ok (.istore_n 3, 1) := by decide +kernel
theorem dX7_stepByLots_46 : decode cX7_stepByLots 46 = .ok (.iinc 4 1, 3) := by decide +kernel
theorem dX7_stepByLots_49 : decode cX7_stepByLots 49 = .ok (.goto (-44), 3) := by decide +kernel
theorem dX7_stepByLots_52 : decode cX7_stepByLots 52 = .ok (.aload_n 0, 1) := by decide +kernel
theorem dX7_stepByLots_53 : decode cX7_stepByLots 53 = .ok (.aload_n 1, 1) := by decide +kernel
theorem dX7_stepByLots_54 : decode cX7_stepByLots 54 = .ok (.iload_n 2, 1) := by decide +kernel
theorem dX7_stepByLots_55 : decode cX7_stepByLots 55 = .ok (.iload_n 3, 1) := by decide +kernel
theorem dX7_stepByLots_56 : decode cX7_stepByLots 56 = .ok (.invokevirtual 38, 3) := by decide +kernel
theorem dX7_stepByLots_59 : decode cX7_stepByLots 59 = .ok (.return_, 1) := by decide +kernel
theorem ml_X7_42 : Cond.methodLink RX7 42 yX7_firstBits ∈ Wd := mW 1300 (by decide +kernel) rfl
theorem mk_X7_firstBits : MokS yX7_firstBits cX7_firstBits 4 (some .int) 2 := ⟨⟨mW 12 (by decide +kernel) rfl, mW 1302 (by decide +kernel) rfl, ⟨by decide, by decide, by decide +kernel⟩, by decide⟩, mW 1301 (by decide +kernel) rfl⟩
theorem ml_X7_45 : Cond.methodLink RX7 45 yJ6_bitCount_0f7a4 ∈ Wd := mW 1303 (by decide +kernel) rfl
def Sums_stepByLots_L5 (x2 : Int32) (Q : Hp → Prop) : Nat → Int32 → Int32 → Hp → Prop
  | 0, _, _, _ => False
  | n + 1, x3, x4, h => (8 ≤ x4 → Sums_step x2 x3 h (fun h1 => Q h1)) ∧ (¬ 8 ≤ x4 → Land_openFrom x2 x4 h (fun r2 h3 => Sums_firstBits r2 10 h3 (fun r4 h5 => J6_bitCount_0f7a4 r4 h5 (fun r6 h7 => vp_in x4 8 ∧ ∀ h8 : Hp, h8 = sI h7 94 (x4).toNatClampNeg ((10 : Int32) - r6) → ∀ v9 : Int32, v9 = (x3 ||| r4) → ∀ v10 : Int32, v10 = (x4 + 1) → Sums_stepByLots_L5 x2 Q n v9 v10 h8))))
set_option maxHeartbeats 4000000 in
set_option maxRecDepth 20000 in
theorem gl_Sums_stepByLots_L5 {G : Gx}  {x2 : Int32} {Q : Hp → Prop} : ∀ (n : Nat) (x3 : Int32) (x4 : Int32) (h : Hp), Sums_stepByLots_L5 x2 Q n x3 x4 h → Go cX7_stepByLots 6 RX7 none 5 G (QV G Q) 5 [(0, .ref (gAd G 92)), (1, .ref (gAd G 14)), (2, .int x2), (3, .int x3), (4, .int x4)] [] h := by
  intro n
  induction n with
  | zero => intro _ _ h hw; exact False.elim hw
  | succ n ih =>
    intro x3 x4 h hw
    refine g_iload dX7_stepByLots_5 rfl ?_
    refine g_bipush (v := 8) dX7_stepByLots_7 (by decide) ?_
    refine g_icmp_ge 52 dX7_stepByLots_9 rfl (fun hc => ?_) (fun hc => ?_)
    · have hw := hw.1 hc
      refine g_aload_n dX7_stepByLots_52 rfl rfl ?_
      refine g_aload_n dX7_stepByLots_53 rfl rfl ?_
      refine g_iload_n dX7_stepByLots_54 rfl rfl ?_
      refine g_iload_n dX7_stepByLots_55 rfl rfl ?_
      refine g_callVV [.ref (gAd G 14), .int x2, .int x3] (ci := 7) dX7_stepByLots_56 ml_X7_38 mk_X7_step rfl rfl sh92 (Nat.le_of_ble_eq_true rfl) (Nat.le_of_ble_eq_true rfl) rfl (c_Sums_step hw) (fun h1 hw => ?_)
      exact g_vret dX7_stepByLots_59 hw
    · have hw := hw.2 hc
      refine g_aload_n dX7_stepByLots_12 rfl rfl ?_
      refine g_iload_n dX7_stepByLots_13 rfl rfl ?_
      refine g_iload dX7_stepByLots_14 rfl ?_
      refine g_callVI [.int x2, .int x4] (ci := 2) dX7_stepByLots_16 ml_X7_28 mk_X2_openFrom rfl rfl sh14 (Nat.le_of_ble_eq_true rfl) (Nat.le_of_ble_eq_true rfl) rfl (c_Land_openFrom hw) (fun r2 h3 hw => ?_)
      refine g_bipush (v := 10) dX7_stepByLots_19 (by decide) ?_
      refine g_callSI [.int r2, .int 10] dX7_stepByLots_21 ml_X7_42 mk_X7_firstBits rfl (Nat.le_of_ble_eq_true rfl) (Nat.le_of_ble_eq_true rfl) rfl (c_Sums_firstBits hw) (fun r4 h5 hw => ?_)
      refine g_istore dX7_stepByLots_24 (by decide) (lv1 := [(0, .ref (gAd G 92)), (1, .ref (gAd G 14)), (2, .int x2), (3, .int x3), (4, .int x4), (5, .int r4)]) rfl ?_
      refine g_aload_n dX7_stepByLots_26 rfl rfl ?_
      refine g_getA dX7_stepByLots_27 fl_X7_15 sh92 rfl ?_
      refine g_iload dX7_stepByLots_30 rfl ?_
      refine g_bipush (v := 10) dX7_stepByLots_32 (by decide) ?_
      refine g_iload dX7_stepByLots_34 rfl ?_
      refine g_callSI [.int r4] dX7_stepByLots_36 ml_X7_45 mk_J6_bitCount_0f7a4 rfl (Nat.le_of_ble_eq_true rfl) (Nat.le_of_ble_eq_true rfl) rfl (c_J6_bitCount_0f7a4 hw) (fun r6 h7 hw => ?_)
      refine g_isub dX7_stepByLots_39 ?_
      refine g_iast dX7_stepByLots_40 ia94 al94 hw.1 ?_
      have hw := hw.2
      refine g_heap (fun h8 eh8 => ?_)
      have hw := hw h8 eh8
      refine g_iload_n dX7_stepByLots_41 rfl rfl ?_
      refine g_iload dX7_stepByLots_42 rfl ?_
      refine g_ior dX7_stepByLots_44 ?_
      refine g_topi (fun v9 ev9 => ?_)
      have hw := hw v9 ev9
      refine g_istore_n dX7_stepByLots_45 rfl (by decide) (lv1 := [(0, .ref (gAd G 92)), (1, .ref (gAd G 14)), (2, .int x2), (3, .int v9), (4, .int x4), (5, .int r4)]) rfl ?_
      obtain ⟨v10, ev10⟩ : ∃ y : Int32, y = (x4 + 1) := ⟨_, rfl⟩
      have hw := hw v10 ev10
      refine g_iinc dX7_stepByLots_46 rfl (by rw [ev10]; rfl) (by decide) (lv1 := [(0, .ref (gAd G 92)), (1, .ref (gAd G 14)), (2, .int x2), (3, .int v9), (4, .int v10), (5, .int r4)]) rfl ?_
      refine g_goto 5 dX7_stepByLots_49 rfl ?_
      refine g_lv [0, 1, 2, 3, 4] rfl ?_
      exact ih _ _ _ hw
def Sums_stepByLots (x2 : Int32) (h : Hp) (Q : Hp → Prop) : Prop := ∃ n11, Sums_stepByLots_L5 x2 Q n11 0 0 h
set_option maxHeartbeats 4000000 in
set_option maxRecDepth 20000 in
theorem c_Sums_stepByLots {G : Gx}  {x2 : Int32} {h : Hp} {Q : Hp → Prop} (hw : Sums_stepByLots x2 h Q) : Ct yX7_stepByLots cX7_stepByLots 6 none 5 G [.ref (gAd G 92), .ref (gAd G 14), .int x2] h (QV G Q) := by
  refine ct_go [(0, .ref (gAd G 92)), (1, .ref (gAd G 14)), (2, .int x2)] (plainFor_of_name (by decide)) rfl (Nat.le_of_ble_eq_true rfl) rfl ?_
  refine g_iconst (v := 0) dX7_stepByLots_0 (by decide) ?_
  refine g_istore_n dX7_stepByLots_1 rfl (by decide) (lv1 := [(0, .ref (gAd G 92)), (1, .ref (gAd G 14)), (2, .int x2), (3, .int 0)]) rfl ?_
  refine g_iconst (v := 0) dX7_stepByLots_2 (by decide) ?_
  refine g_istore dX7_stepByLots_3 (by decide) (lv1 := [(0, .ref (gAd G 92)), (1, .ref (gAd G 14)), (2, .int x2), (3, .int 0), (4, .int 0)]) rfl ?_
  obtain ⟨n11, hw⟩ := hw
  refine gl_Sums_stepByLots_L5   _ _ _ _ hw
theorem dX11_drawLots_0 : decode cX11_drawLots 0 = .ok (.aload_n 0, 1) := by decide +kernel
theorem dX11_drawLots_1 : decode cX11_drawLots 1 = .ok (.getfield 86, 3) := by decide +kernel
theorem dX11_drawLots_4 : decode cX11_drawLots 4 = .ok (.aload_n 0, 1) := by decide +kernel
theorem dX11_drawLots_5 : decode cX11_drawLots 5 = .ok (.getfield 34, 3) := by decide +kernel
theorem dX11_drawLots_8 : decode cX11_drawLots 8 = .ok (.getfield 238, 3) := by decide +kernel
theorem dX11_drawLots_11 : decode cX11_drawLots 11 = .ok (.invokevirtual 352, 3) := by decide +kernel
theorem dX11_drawLots_14 : decode cX11_drawLots 14 = .ok (.lconst 1, 1) := by decide +kernel
theorem dX11_drawLots_15 : decode cX11_drawLots 15 = .ok (.lstore_n 2, 1) := by decide +kernel
theorem dX11_drawLots_16 : decode cX11_drawLots 16 = .ok (.iconst 0, 1) := by decide +kernel
theorem dX11_drawLots_17 : decode cX11_drawLots 17 = .ok (.istore 4, 2) := by decide +kernel
theorem dX11_drawLots_19 : decode cX11_drawLots 19 = .ok (.iload 4, 2) := by decide +kernel
theorem dX11_drawLots_21 : decode cX11_drawLots 21 = .ok (.iload_n 1, 1) := by decide +kernel
theorem dX11_drawLots_22 : decode cX11_drawLots 22 = .ok (.if_icmp .ge 33, 3) := by decide +kernel
theorem dX11_drawLots_25 : decode cX11_drawLots 25 = .ok (.aload_n 0, 1) := by decide +kernel
theorem dX11_drawLots_26 : decode cX11_drawLots 26 = .ok (.getfield 86, 3) := by decide +kernel
theorem dX11_drawLots_29 : decode cX11_drawLots 29 = .ok (.aload_n 0, 1) := by decide +kernel
theorem dX11_drawLots_30 : decode cX11_drawLots 30 = .ok (.getfield 27, 3) := by decide +kernel
theorem dX11_drawLots_33 : decode cX11_drawLots 33 = .ok (.aload_n 0, 1) := by decide +kernel
theorem dX11_drawLots_34 : decode cX11_drawLots 34 = .ok (.getfield 34, 3) := by decide +kernel
theorem dX11_drawLots_37 : decode cX11_drawLots 37 = .ok (.getfield 140, 3) := by decide +kernel
theorem dX11_drawLots_40 : decode cX11_drawLots 40 = .ok (.invokevirtual 386, 3) := by decide +kernel
theorem dX11_drawLots_43 : decode cX11_drawLots 43 = .ok (.lload_n 2, 1) := by decide +kernel
theorem dX11_drawLots_44 : decode cX11_drawLots 44 = .ok (.ldc2_w 389, 3) := by decide +kernel
theorem dX11_drawLots_47 : decode cX11_drawLots 47 = .ok (.lmul, 1) := by decide +kernel
theorem dX11_drawLots_48 : decode cX11_drawLots 48 = .ok (.lstore_n 2, 1) := by decide +kernel
theorem dX11_drawLots_49 : decode cX11_drawLots 49 = .ok (.iinc 4 1, 3) := by decide +kernel
theorem dX11_drawLots_52 : decode cX11_drawLots 52 = .ok (.goto (-33), 3) := by decide +kernel
theorem dX11_drawLots_55 : decode cX11_drawLots 55 = .ok (.lload_n 2, 1) := by decide +kernel
theorem dX11_drawLots_56 : decode cX11_drawLots 56 = .ok (.lreturn, 1) := by decide +kernel
theorem ml_X11_386 : Cond.methodLink RX11 386 yX7_stepByLots ∈ Wd := mW 1296 (by decide +kernel) rfl
theorem mk_X7_stepByLots : MokV yX7_stepByLots cX7_stepByLots 6 none 2 := ⟨⟨mW 12 (by decide +kernel) rfl, mW 1299 (by decide +kernel) rfl, ⟨by decide, by decide, by decide +kernel⟩, by decide⟩, mW 1297 (by decide +kernel) rfl, mW 1298 (by decide +kernel) rfl⟩
theorem kl_X11_389 : Cond.constantLong RX11 389 (10) ∈ Wd := mW 1304 (by decide +kernel) rfl
def C_drawLots_L19 (x1 : Int32) (Q : Int64 → Hp → Prop) : Nat → Int64 → Int32 → Hp → Prop
  | 0, _, _, _ => False
  | n + 1, x2, x4, h => (x1 ≤ x4 → Q x2 h) ∧ (¬ x1 ≤ x4 → Sums_stepByLots (gI h 20 3) h (fun h2 => ∀ v3 : Int64, v3 = (x2 * (10 : Int64)) → ∀ v4 : Int32, v4 = (x4 + 1) → C_drawLots_L19 x1 Q n v3 v4 h2))
set_option maxHeartbeats 4000000 in
set_option maxRecDepth 20000 in
theorem gl_C_drawLots_L19 {G : Gx}  {x1 : Int32} {Q : Int64 → Hp → Prop} : ∀ (n : Nat) (x2 : Int64) (x4 : Int32) (h : Hp), C_drawLots_L19 x1 Q n x2 x4 h → Go cX11_drawLots 5 RX11 (some .long) 6 G (QJ G Q) 19 [(0, .ref (gAd G 0)), (1, .int x1), (2, .long x2), (4, .int x4)] [] h := by
  intro n
  induction n with
  | zero => intro _ _ h hw; exact False.elim hw
  | succ n ih =>
    intro x2 x4 h hw
    refine g_iload dX11_drawLots_19 rfl ?_
    refine g_iload_n dX11_drawLots_21 rfl rfl ?_
    refine g_icmp_ge 55 dX11_drawLots_22 rfl (fun hc => ?_) (fun hc => ?_)
    · have hw := hw.1 hc
      refine g_lload_n dX11_drawLots_55 rfl rfl ?_
      exact g_lret dX11_drawLots_56 hw
    · have hw := hw.2 hc
      refine g_aload_n dX11_drawLots_25 rfl rfl ?_
      refine g_getO dX11_drawLots_26 fl_X11_86 sh0 rfl ?_
      refine g_aload_n dX11_drawLots_29 rfl rfl ?_
      refine g_getO dX11_drawLots_30 fl_X11_27 sh0 rfl ?_
      refine g_aload_n dX11_drawLots_33 rfl rfl ?_
      refine g_getO dX11_drawLots_34 fl_X11_34 sh0 rfl ?_
      refine g_getI dX11_drawLots_37 fl_X11_140 sh20 rfl ?_
      refine g_callVV [.ref (gAd G 14), .int (gI h 20 3)] (ci := 7) dX11_drawLots_40 ml_X11_386 mk_X7_stepByLots rfl rfl sh92 (Nat.le_of_ble_eq_true rfl) (Nat.le_of_ble_eq_true rfl) rfl (c_Sums_stepByLots hw) (fun h2 hw => ?_)
      refine g_lload_n dX11_drawLots_43 rfl rfl ?_
      refine g_ldc2 dX11_drawLots_44 kl_X11_389 ?_
      refine g_lmul dX11_drawLots_47 ?_
      refine g_topj (fun v3 ev3 => ?_)
      have hw := hw v3 ev3
      refine g_lstore_n dX11_drawLots_48 rfl (by decide) (lv1 := [(0, .ref (gAd G 0)), (1, .int x1), (2, .long v3), (4, .int x4)]) rfl ?_
      obtain ⟨v4, ev4⟩ : ∃ y : Int32, y = (x4 + 1) := ⟨_, rfl⟩
      have hw := hw v4 ev4
      refine g_iinc dX11_drawLots_49 rfl (by rw [ev4]; rfl) (by decide) (lv1 := [(0, .ref (gAd G 0)), (1, .int x1), (2, .long v3), (4, .int v4)]) rfl ?_
      refine g_goto 19 dX11_drawLots_52 rfl ?_
      exact ih _ _ _ hw
def C_drawLots (x1 : Int32) (h : Hp) (Q : Int64 → Hp → Prop) : Prop := Sums_begin (gI h 20 0) h (fun h1 => ∃ n5, C_drawLots_L19 x1 Q n5 (1 : Int64) 0 h1)
set_option maxHeartbeats 4000000 in
set_option maxRecDepth 20000 in
theorem c_C_drawLots {G : Gx}  {x1 : Int32} {h : Hp} {Q : Int64 → Hp → Prop} (hw : C_drawLots x1 h Q) : Ct yX11_drawLots cX11_drawLots 5 (some .long) 6 G [.ref (gAd G 0), .int x1] h (QJ G Q) := by
  refine ct_go [(0, .ref (gAd G 0)), (1, .int x1)] (plainFor_of_name (by decide)) rfl (Nat.le_of_ble_eq_true rfl) rfl ?_
  refine g_aload_n dX11_drawLots_0 rfl rfl ?_
  refine g_getO dX11_drawLots_1 fl_X11_86 sh0 rfl ?_
  refine g_aload_n dX11_drawLots_4 rfl rfl ?_
  refine g_getO dX11_drawLots_5 fl_X11_34 sh0 rfl ?_
  refine g_getI dX11_drawLots_8 fl_X11_238 sh20 rfl ?_
  refine g_callVV [.int (gI h 20 0)] (ci := 7) dX11_drawLots_11 ml_X11_352 mk_X7_begin rfl rfl sh92 (Nat.le_of_ble_eq_true rfl) (Nat.le_of_ble_eq_true rfl) rfl (c_Sums_begin hw) (fun h1 hw => ?_)
  refine g_lconst (v := (1 : Int64)) dX11_drawLots_14 (by decide) ?_
  refine g_lstore_n dX11_drawLots_15 rfl (by decide) (lv1 := [(0, .ref (gAd G 0)), (1, .int x1), (2, .long (1 : Int64))]) rfl ?_
  refine g_iconst (v := 0) dX11_drawLots_16 (by decide) ?_
  refine g_istore dX11_drawLots_17 (by decide) (lv1 := [(0, .ref (gAd G 0)), (1, .int x1), (2, .long (1 : Int64)), (4, .int 0)]) rfl ?_
  obtain ⟨n5, hw⟩ := hw
  refine gl_C_drawLots_L19   _ _ _ _ hw
theorem dX7_rowsKeeping_0 : decode cX7_rowsKeeping 0 = .ok (.lconst 0, 1) := by decide +kernel
theorem dX7_rowsKeeping_1 : decode cX7_rowsKeeping 1 = .ok (.lstore_n 3, 1) := by decide +kernel
theorem dX7_rowsKeeping_2 : decode cX7_rowsKeeping 2 = .ok (.iconst 0, 1) := by decide +kernel
theorem dX7_rowsKeeping_3 : decode cX7_rowsKeeping 3 = .ok (.istore 5, 2) := by decide +kernel
theorem dX7_rowsKeeping_5 : decode cX7_rowsKeeping 5 = .ok (.iload 5, 2) := by decide +kernel
theorem dX7_rowsKeeping_7 : decode cX7_rowsKeeping 7 = .ok (.aload_n 0, 1) := by decide +kernel
theorem dX7_rowsKeeping_8 : decode cX7_rowsKeeping 8 = .ok (.getfield 25, 3) := by decide +kernel
theorem dX7_rowsKeeping_11 : decode cX7_rowsKeeping 11 = .ok (.if_icmp .ge 35, 3) := by decide +kernel
theorem dX7_rowsKeeping_14 : decode cX7_rowsKeeping 14 = .ok (.lload_n 1, 1) := by decide +kernel
theorem dX7_rowsKeeping_15 : decode cX7_rowsKeeping 15 = .ok (.aload_n 0, 1) := by decide +kernel
theorem dX7_rowsKeeping_16 : decode cX7_rowsKeeping 16 = .ok (.getfield 21, 3) := by decide +kernel
theorem dX7_rowsKeeping_19 : decode cX7_rowsKeeping 19 = .ok (.i2l, 1) := by decide +kernel
theorem dX7_rowsKeeping_20 : decode cX7_rowsKeeping 20 = .ok (.ladd, 1) := by decide +kernel
theorem dX7_rowsKeeping_21 : decode cX7_rowsKeeping 21 = .ok (.iload 5, 2) := by decide +kernel
theorem dX7_rowsKeeping_23 : decode cX7_rowsKeeping 23 = .ok (.i2l, 1) := by decide +kernel
theorem dX7_rowsKeeping_24 : decode cX7_rowsKeeping 24 = .ok (.ladd, 1) := by decide +kernel
theorem dX7_rowsKeeping_25 : decode cX7_rowsKeeping 25 = .ok (.lconst 0, 1) := by decide +kernel
theorem dX7_rowsKeeping_26 : decode cX7_rowsKeeping 26 = .ok (.lcmp, 1) := by decide +kernel
theorem dX7_rowsKeeping_27 : decode cX7_rowsKeeping 27 = .ok (.ifCond .lt 13, 3) := by decide +kernel
theorem dX7_rowsKeeping_30 : decode cX7_rowsKeeping 30 = .ok (.lload_n 3, 1) := by decide +kernel
theorem dX7_rowsKeeping_31 : decode cX7_rowsKeeping 31 = .ok (.aload_n 0, 1) := by decide +kernel
theorem dX7_rowsKeeping_32 : decode cX7_rowsKeeping 32 = .ok (.iload 5, 2) := by decide +kernel
theorem dX7_rowsKeeping_34 : decode cX7_rowsKeeping 34 = .ok (.invokevirtual 86, 3) := by decide +kernel
theorem dX7_rowsKeeping_37 : decode cX7_rowsKeeping 37 = .ok (.i2l, 1) := by decide +kernel
theorem dX7_rowsKeeping_38 : decode cX7_rowsKeeping 38 = .ok (.ladd, 1) := by decide +kernel
theorem dX7_rowsKeeping_39 : decode cX7_rowsKeeping 39 = .ok (.lstore_n 3, 1) := by decide +kernel
theorem dX7_rowsKeeping_40 : decode cX7_rowsKeeping 40 = .ok (.iinc 5 1, 3) := by decide +kernel
theorem dX7_rowsKeeping_43 : decode cX7_rowsKeeping 43 = .ok (.goto (-38), 3) := by decide +kernel
theorem dX7_rowsKeeping_46 : decode cX7_rowsKeeping 46 = .ok (.lload_n 3, 1) := by decide +kernel
theorem dX7_rowsKeeping_47 : decode cX7_rowsKeeping 47 = .ok (.lreturn, 1) := by decide +kernel
def Sums_rowsKeeping_L5 (x1 : Int64) (Q : Int64 → Hp → Prop) : Nat → Int64 → Int32 → Hp → Prop
  | 0, _, _, _ => False
  | n + 1, x3, x5, h => ((gI h 92 4) ≤ x5 → Q x3 h) ∧ (¬ (gI h 92 4) ≤ x5 → ∀ J40 : Int64 → Hp → Prop, J40 = (fun x3_1 h2 => ∀ v3 : Int32, v3 = (x5 + 1) → Sums_rowsKeeping_L5 x1 Q n x3_1 v3 h2) → (((x1 + (((gI h 92 3)).toInt64)) + ((x5).toInt64)) < (0 : Int64) → J40 x3 h) ∧ (¬ ((x1 + (((gI h 92 3)).toInt64)) + ((x5).toInt64)) < (0 : Int64) → Sums_rowsWith x5 h (fun r4 h5 => ∀ v6 : Int64, v6 = (x3 + ((r4).toInt64)) → J40 v6 h5)))
set_option maxHeartbeats 4000000 in
set_option maxRecDepth 20000 in
theorem gl_Sums_rowsKeeping_L5 {G : Gx}  {x1 : Int64} {Q : Int64 → Hp → Prop} : ∀ (n : Nat) (x3 : Int64) (x5 : Int32) (h : Hp), Sums_rowsKeeping_L5 x1 Q n x3 x5 h → Go cX7_rowsKeeping 6 RX7 (some .long) 3 G (QJ G Q) 5 [(0, .ref (gAd G 92)), (1, .long x1), (3, .long x3), (5, .int x5)] [] h := by
  intro n
  induction n with
  | zero => intro _ _ h hw; exact False.elim hw
  | succ n ih =>
    intro x3 x5 h hw
    refine g_iload dX7_rowsKeeping_5 rfl ?_
    refine g_aload_n dX7_rowsKeeping_7 rfl rfl ?_
    refine g_getI dX7_rowsKeeping_8 fl_X7_25 sh92 rfl ?_
    refine g_icmp_ge 46 dX7_rowsKeeping_11 rfl (fun hc => ?_) (fun hc => ?_)
    · have hw := hw.1 hc
      refine g_lload_n dX7_rowsKeeping_46 rfl rfl ?_
      exact g_lret dX7_rowsKeeping_47 hw
    · have hw := hw.2 hc
      refine g_lload_n dX7_rowsKeeping_14 rfl rfl ?_
      refine g_aload_n dX7_rowsKeeping_15 rfl rfl ?_
      refine g_getI dX7_rowsKeeping_16 fl_X7_21 sh92 rfl ?_
      refine g_i2l dX7_rowsKeeping_19 ?_
      refine g_ladd dX7_rowsKeeping_20 ?_
      refine g_iload dX7_rowsKeeping_21 rfl ?_
      refine g_i2l dX7_rowsKeeping_23 ?_
      refine g_ladd dX7_rowsKeeping_24 ?_
      refine g_lconst (v := (0 : Int64)) dX7_rowsKeeping_25 (by decide) ?_
      refine jn_el hw (fun J40 eJ40 hw => ?_)
      have hJ40 : ∀ (x3_1 : Int64) (h2 : Hp), J40 x3_1 h2 → Go cX7_rowsKeeping 6 RX7 (some .long) 3 G (QJ G Q) 40 [(0, .ref (gAd G 92)), (1, .long x1), (3, .long x3_1), (5, .int x5)] [] h2 := by
        intro x3_1 h2 hw
        subst eJ40
        obtain ⟨v3, ev3⟩ : ∃ y : Int32, y = (x5 + 1) := ⟨_, rfl⟩
        have hw := hw v3 ev3
        refine g_iinc dX7_rowsKeeping_40 rfl (by rw [ev3]; rfl) (by decide) (lv1 := [(0, .ref (gAd G 92)), (1, .long x1), (3, .long x3_1), (5, .int v3)]) rfl ?_
        refine g_goto 5 dX7_rowsKeeping_43 rfl ?_
        exact ih _ _ _ hw
      refine g_lc_lt 40 dX7_rowsKeeping_26 dX7_rowsKeeping_27 rfl (fun hc => ?_) (fun hc => ?_)
      · have hw := hw.1 hc
        exact hJ40 _ _ hw
      · have hw := hw.2 hc
        refine g_lload_n dX7_rowsKeeping_30 rfl rfl ?_
        refine g_aload_n dX7_rowsKeeping_31 rfl rfl ?_
        refine g_iload dX7_rowsKeeping_32 rfl ?_
        refine g_callVI [.int x5] (ci := 7) dX7_rowsKeeping_34 ml_X7_86 mk_X7_rowsWith rfl rfl sh92 (Nat.le_of_ble_eq_true rfl) (Nat.le_of_ble_eq_true rfl) rfl (c_Sums_rowsWith hw) (fun r4 h5 hw => ?_)
        refine g_i2l dX7_rowsKeeping_37 ?_
        refine g_ladd dX7_rowsKeeping_38 ?_
        refine g_topj (fun v6 ev6 => ?_)
        have hw := hw v6 ev6
        refine g_lstore_n dX7_rowsKeeping_39 rfl (by decide) (lv1 := [(0, .ref (gAd G 92)), (1, .long x1), (3, .long v6), (5, .int x5)]) rfl ?_
        exact hJ40 _ _ hw
def Sums_rowsKeeping (x1 : Int64) (h : Hp) (Q : Int64 → Hp → Prop) : Prop := ∃ n7, Sums_rowsKeeping_L5 x1 Q n7 (0 : Int64) 0 h
set_option maxHeartbeats 4000000 in
set_option maxRecDepth 20000 in
theorem c_Sums_rowsKeeping {G : Gx}  {x1 : Int64} {h : Hp} {Q : Int64 → Hp → Prop} (hw : Sums_rowsKeeping x1 h Q) : Ct yX7_rowsKeeping cX7_rowsKeeping 6 (some .long) 3 G [.ref (gAd G 92), .long x1] h (QJ G Q) := by
  refine ct_go [(0, .ref (gAd G 92)), (1, .long x1)] (plainFor_of_name (by decide)) rfl (Nat.le_of_ble_eq_true rfl) rfl ?_
  refine g_lconst (v := (0 : Int64)) dX7_rowsKeeping_0 (by decide) ?_
  refine g_lstore_n dX7_rowsKeeping_1 rfl (by decide) (lv1 := [(0, .ref (gAd G 92)), (1, .long x1), (3, .long (0 : Int64))]) rfl ?_
  refine g_iconst (v := 0) dX7_rowsKeeping_2 (by decide) ?_
  refine g_istore dX7_rowsKeeping_3 (by decide) (lv1 := [(0, .ref (gAd G 92)), (1, .long x1), (3, .long (0 : Int64)), (5, .int 0)]) rfl ?_
  obtain ⟨n7, hw⟩ := hw
  refine gl_Sums_rowsKeeping_L5   _ _ _ _ hw
theorem dX11_chance_0 : decode cX11_chance 0 = .ok (.iload_n 2, 1) := by decide +kernel
theorem dX11_chance_1 : decode cX11_chance 1 = .ok (.invokestatic 262, 3) := by decide +kernel
theorem dX11_chance_4 : decode cX11_chance 4 = .ok (.ifCond .ne 6, 3) := by decide +kernel
theorem dX11_chance_7 : decode cX11_chance 7 = .ok (.bipush (-2), 2) := by decide +kernel
theorem dX11_chance_9 : decode cX11_chance 9 = .ok (.ireturn, 1) := by decide +kernel
theorem dX11_chance_10 : decode cX11_chance 10 = .ok (.iload_n 1, 1) := by decide +kernel
theorem dX11_chance_11 : decode cX11_chance 11 = .ok (.ifCond .lt 8, 3) := by decide +kernel
theorem dX11_chance_14 : decode cX11_chance 14 = .ok (.iload_n 1, 1) := by decide +kernel
theorem dX11_chance_15 : decode cX11_chance 15 = .ok (.iconst 5, 1) := by decide +kernel
theorem dX11_chance_16 : decode cX11_chance 16 = .ok (.if_icmp .le 6, 3) := by decide +kernel
theorem dX11_chance_19 : decode cX11_chance 19 = .ok (.bipush (-3), 2) := by decide +kernel
theorem dX11_chance_21 : decode cX11_chance 21 = .ok (.ireturn, 1) := by decide +kernel
theorem dX11_chance_22 : decode cX11_chance 22 = .ok (.aload_n 0, 1) := by decide +kernel
theorem dX11_chance_23 : decode cX11_chance 23 = .ok (.iload_n 1, 1) := by decide +kernel
theorem dX11_chance_24 : decode cX11_chance 24 = .ok (.invokevirtual 376, 3) := by decide +kernel
theorem dX11_chance_27 : decode cX11_chance 27 = .ok (.lstore_n 3, 1) := by decide +kernel
theorem dX11_chance_28 : decode cX11_chance 28 = .ok (.aload_n 0, 1) := by decide +kernel
theorem dX11_chance_29 : decode cX11_chance 29 = .ok (.getfield 86, 3) := by decide +kernel
theorem dX11_chance_32 : decode cX11_chance 32 = .ok (.aload_n 0, 1) := by decide +kernel
theorem dX11_chance_33 : decode cX11_chance 33 = .ok (.getfield 34, 3) := by decide +kernel
theorem dX11_chance_36 : decode cX11_chance 36 = .ok (.getfield 181, 3) := by decide +kernel
theorem dX11_chance_39 : decode cX11_chance 39 = .ok (.invokevirtual 379, 3) := by decide +kernel
theorem dX11_chance_42 : decode cX11_chance 42 = .ok (.lload_n 3, 1) := by decide +kernel
theorem dX11_chance_43 : decode cX11_chance 43 = .ok (.iload_n 2, 1) := by decide +kernel
theorem dX11_chance_44 : decode cX11_chance 44 = .ok (.invokestatic 273, 3) := by decide +kernel
theorem dX11_chance_47 : decode cX11_chance 47 = .ok (.l2i, 1) := by decide +kernel
theorem dX11_chance_48 : decode cX11_chance 48 = .ok (.ireturn, 1) := by decide +kernel
theorem ml_X11_376 : Cond.methodLink RX11 376 yX11_drawLots ∈ Wd := mW 1292 (by decide +kernel) rfl
theorem mk_X11_drawLots : MokV yX11_drawLots cX11_drawLots 5 (some .long) 1 := ⟨⟨mW 1 (by decide +kernel) rfl, mW 1295 (by decide +kernel) rfl, ⟨by decide, by decide, by decide +kernel⟩, by decide⟩, mW 1294 (by decide +kernel) rfl, mS (q := (yX11_drawLots, 16)) 47 (by decide +kernel)⟩
theorem ml_X11_379 : Cond.methodLink RX11 379 yX7_rowsKeeping ∈ Wd := mW 1305 (by decide +kernel) rfl
theorem mk_X7_rowsKeeping : MokV yX7_rowsKeeping cX7_rowsKeeping 6 (some .long) 1 := ⟨⟨mW 12 (by decide +kernel) rfl, mW 1308 (by decide +kernel) rfl, ⟨by decide, by decide, by decide +kernel⟩, by decide⟩, mW 1306 (by decide +kernel) rfl, mW 1307 (by decide +kernel) rfl⟩
def C_chance (x1 : Int32) (x2 : Int32) (h : Hp) (Q : Int32 → Hp → Prop) : Prop := C_isEither x2 h (fun r1 h2 => (¬ r1 = 0 → (x1 < 0 → Q (-3) h2) ∧ (¬ x1 < 0 → (x1 ≤ 5 → C_drawLots x1 h2 (fun r3 h4 => Sums_rowsKeeping (gJ h4 20 1) h4 (fun r5 h6 => C_lowestTerms r5 r3 x2 h6 (fun r7 h8 => Q ((r7).toInt32) h8)))) ∧ (¬ x1 ≤ 5 → Q (-3) h2))) ∧ (r1 = 0 → Q (-2) h2))
set_option maxHeartbeats 4000000 in
set_option maxRecDepth 20000 in
theorem c_C_chance {G : Gx}  {x1 : Int32} {x2 : Int32} {h : Hp} {Q : Int32 → Hp → Prop} (hw : C_chance x1 x2 h Q) : Ct yX11_chance cX11_chance 5 (some .int) 7 G [.ref (gAd G 0), .int x1, .int x2] h (QI G Q) := by
  refine ct_go [(0, .ref (gAd G 0)), (1, .int x1), (2, .int x2)] (plainFor_of_name (by decide)) rfl (Nat.le_of_ble_eq_true rfl) rfl ?_
  refine g_iload_n dX11_chance_0 rfl rfl ?_
  refine g_callSI [.int x2] dX11_chance_1 ml_X11_262 mk_X11_isEither rfl (Nat.le_of_ble_eq_true rfl) (Nat.le_of_ble_eq_true rfl) rfl (c_C_isEither hw) (fun r1 h2 hw => ?_)
  refine g_if_ne 10 dX11_chance_4 rfl (fun hc => ?_) (fun hc => ?_)
  · have hw := hw.1 hc
    refine g_iload_n dX11_chance_10 rfl rfl ?_
    refine g_if_lt 19 dX11_chance_11 rfl (fun hc => ?_) (fun hc => ?_)
    · have hw := hw.1 hc
      refine g_bipush (v := (-3)) dX11_chance_19 (by decide) ?_
      exact g_iret dX11_chance_21 hw
    · have hw := hw.2 hc
      refine g_iload_n dX11_chance_14 rfl rfl ?_
      refine g_iconst (v := 5) dX11_chance_15 (by decide) ?_
      refine g_icmp_le 22 dX11_chance_16 rfl (fun hc => ?_) (fun hc => ?_)
      · have hw := hw.1 hc
        refine g_aload_n dX11_chance_22 rfl rfl ?_
        refine g_iload_n dX11_chance_23 rfl rfl ?_
        refine g_callVJ [.int x1] (ci := 11) dX11_chance_24 ml_X11_376 mk_X11_drawLots rfl rfl sh0 (Nat.le_of_ble_eq_true rfl) (Nat.le_of_ble_eq_true rfl) rfl (c_C_drawLots hw) (fun r3 h4 hw => ?_)
        refine g_lstore_n dX11_chance_27 rfl (by decide) (lv1 := [(0, .ref (gAd G 0)), (1, .int x1), (2, .int x2), (3, .long r3)]) rfl ?_
        refine g_aload_n dX11_chance_28 rfl rfl ?_
        refine g_getO dX11_chance_29 fl_X11_86 sh0 rfl ?_
        refine g_aload_n dX11_chance_32 rfl rfl ?_
        refine g_getO dX11_chance_33 fl_X11_34 sh0 rfl ?_
        refine g_getJ dX11_chance_36 fl_X11_181 sh20 rfl ?_
        refine g_callVJ [.long (gJ h4 20 1)] (ci := 7) dX11_chance_39 ml_X11_379 mk_X7_rowsKeeping rfl rfl sh92 (Nat.le_of_ble_eq_true rfl) (Nat.le_of_ble_eq_true rfl) rfl (c_Sums_rowsKeeping hw) (fun r5 h6 hw => ?_)
        refine g_lload_n dX11_chance_42 rfl rfl ?_
        refine g_iload_n dX11_chance_43 rfl rfl ?_
        refine g_callSJ [.long r5, .long r3, .int x2] dX11_chance_44 ml_X11_273 mk_X11_lowestTerms rfl (Nat.le_of_ble_eq_true rfl) (Nat.le_of_ble_eq_true rfl) rfl (c_C_lowestTerms hw) (fun r7 h8 hw => ?_)
        refine g_l2i dX11_chance_47 ?_
        exact g_iret dX11_chance_48 hw
      · have hw := hw.2 hc
        refine g_bipush (v := (-3)) dX11_chance_19 (by decide) ?_
        exact g_iret dX11_chance_21 hw
  · have hw := hw.2 hc
    refine g_bipush (v := (-2)) dX11_chance_7 (by decide) ?_
    exact g_iret dX11_chance_9 hw
theorem dX7_allPaid_0 : decode cX7_allPaid 0 = .ok (.lconst 0, 1) := by decide +kernel
theorem dX7_allPaid_1 : decode cX7_allPaid 1 = .ok (.lstore_n 1, 1) := by decide +kernel
theorem dX7_allPaid_2 : decode cX7_allPaid 2 = .ok (.iconst 0, 1) := by decide +kernel
theorem dX7_allPaid_3 : decode cX7_allPaid 3 = .ok (.istore_n 3, 1) := by decide +kernel
theorem dX7_allPaid_4 : decode cX7_allPaid 4 = .ok (.iload_n 3, 1) := by decide +kernel
theorem dX7_allPaid_5 : decode cX7_allPaid 5 = .ok (.aload_n 0, 1) := by decide +kernel
theorem dX7_allPaid_6 : decode cX7_allPaid 6 = .ok (.getfield 25, 3) := by decide +kernel
theorem dX7_allPaid_9 : decode cX7_allPaid 9 = .ok (.if_icmp .ge 26, 3) := by decide +kernel
theorem dX7_allPaid_12 : decode cX7_allPaid 12 = .ok (.lload_n 1, 1) := by decide +kernel
theorem dX7_allPaid_13 : decode cX7_allPaid 13 = .ok (.aload_n 0, 1) := by decide +kernel
theorem dX7_allPaid_14 : decode cX7_allPaid 14 = .ok (.getfield 21, 3) := by decide +kernel
theorem dX7_allPaid_17 : decode cX7_allPaid 17 = .ok (.iload_n 3, 1) := by decide +kernel
theorem dX7_allPaid_18 : decode cX7_allPaid 18 = .ok (.iadd, 1) := by decide +kernel
theorem dX7_allPaid_19 : decode cX7_allPaid 19 = .ok (.i2l, 1) := by decide +kernel
theorem dX7_allPaid_20 : decode cX7_allPaid 20 = .ok (.aload_n 0, 1) := by decide +kernel
theorem dX7_allPaid_21 : decode cX7_allPaid 21 = .ok (.iload_n 3, 1) := by decide +kernel
theorem dX7_allPaid_22 : decode cX7_allPaid 22 = .ok (.invokevirtual 86, 3) := by decide +kernel
theorem dX7_allPaid_25 : decode cX7_allPaid 25 = .ok (.i2l, 1) := by decide +kernel
theorem dX7_allPaid_26 : decode cX7_allPaid 26 = .ok (.lmul, 1) := by decide +kernel
theorem dX7_allPaid_27 : decode cX7_allPaid 27 = .ok (.ladd, 1) := by decide +kernel
theorem dX7_allPaid_28 : decode cX7_allPaid 28 = .ok (.lstore_n 1, 1) := by decide +kernel
theorem dX7_allPaid_29 : decode cX7_allPaid 29 = .ok (.iinc 3 1, 3) := by decide +kernel
theorem dX7_allPaid_32 : decode cX7_allPaid 32 = .ok (.goto (-28), 3) := by decide +kernel
theorem dX7_allPaid_35 : decode cX7_allPaid 35 = .ok (.lload_n 1, 1) := by decide +kernel
theorem dX7_allPaid_36 : decode cX7_allPaid 36 = .ok (.lreturn, 1) := by decide +kernel
def Sums_allPaid_L4 (Q : Int64 → Hp → Prop) : Nat → Int64 → Int32 → Hp → Prop
  | 0, _, _, _ => False
  | n + 1, x1, x3, h => ((gI h 92 4) ≤ x3 → Q x1 h) ∧ (¬ (gI h 92 4) ≤ x3 → Sums_rowsWith x3 h (fun r1 h2 => ∀ v3 : Int64, v3 = (x1 + (((((gI h 92 3) + x3)).toInt64) * ((r1).toInt64))) → ∀ v4 : Int32, v4 = (x3 + 1) → Sums_allPaid_L4 Q n v3 v4 h2))
set_option maxHeartbeats 4000000 in
set_option maxRecDepth 20000 in
theorem gl_Sums_allPaid_L4 {G : Gx}  {Q : Int64 → Hp → Prop} : ∀ (n : Nat) (x1 : Int64) (x3 : Int32) (h : Hp), Sums_allPaid_L4 Q n x1 x3 h → Go cX7_allPaid 4 RX7 (some .long) 3 G (QJ G Q) 4 [(0, .ref (gAd G 92)), (1, .long x1), (3, .int x3)] [] h := by
  intro n
  induction n with
  | zero => intro _ _ h hw; exact False.elim hw
  | succ n ih =>
    intro x1 x3 h hw
    refine g_iload_n dX7_allPaid_4 rfl rfl ?_
    refine g_aload_n dX7_allPaid_5 rfl rfl ?_
    refine g_getI dX7_allPaid_6 fl_X7_25 sh92 rfl ?_
    refine g_icmp_ge 35 dX7_allPaid_9 rfl (fun hc => ?_) (fun hc => ?_)
    · have hw := hw.1 hc
      refine g_lload_n dX7_allPaid_35 rfl rfl ?_
      exact g_lret dX7_allPaid_36 hw
    · have hw := hw.2 hc
      refine g_lload_n dX7_allPaid_12 rfl rfl ?_
      refine g_aload_n dX7_allPaid_13 rfl rfl ?_
      refine g_getI dX7_allPaid_14 fl_X7_21 sh92 rfl ?_
      refine g_iload_n dX7_allPaid_17 rfl rfl ?_
      refine g_iadd dX7_allPaid_18 ?_
      refine g_i2l dX7_allPaid_19 ?_
      refine g_aload_n dX7_allPaid_20 rfl rfl ?_
      refine g_iload_n dX7_allPaid_21 rfl rfl ?_
      refine g_callVI [.int x3] (ci := 7) dX7_allPaid_22 ml_X7_86 mk_X7_rowsWith rfl rfl sh92 (Nat.le_of_ble_eq_true rfl) (Nat.le_of_ble_eq_true rfl) rfl (c_Sums_rowsWith hw) (fun r1 h2 hw => ?_)
      refine g_i2l dX7_allPaid_25 ?_
      refine g_lmul dX7_allPaid_26 ?_
      refine g_ladd dX7_allPaid_27 ?_
      refine g_topj (fun v3 ev3 => ?_)
      have hw := hw v3 ev3
      refine g_lstore_n dX7_allPaid_28 rfl (by decide) (lv1 := [(0, .ref (gAd G 92)), (1, .long v3), (3, .int x3)]) rfl ?_
      obtain ⟨v4, ev4⟩ : ∃ y : Int32, y = (x3 + 1) := ⟨_, rfl⟩
      have hw := hw v4 ev4
      refine g_iinc dX7_allPaid_29 rfl (by rw [ev4]; rfl) (by decide) (lv1 := [(0, .ref (gAd G 92)), (1, .long v3), (3, .int v4)]) rfl ?_
      refine g_goto 4 dX7_allPaid_32 rfl ?_
      exact ih _ _ _ hw
def Sums_allPaid  (h : Hp) (Q : Int64 → Hp → Prop) : Prop := ∃ n5, Sums_allPaid_L4 Q n5 (0 : Int64) 0 h
set_option maxHeartbeats 4000000 in
set_option maxRecDepth 20000 in
theorem c_Sums_allPaid {G : Gx}   {h : Hp} {Q : Int64 → Hp → Prop} (hw : Sums_allPaid  h Q) : Ct yX7_allPaid cX7_allPaid 4 (some .long) 3 G [.ref (gAd G 92)] h (QJ G Q) := by
  refine ct_go [(0, .ref (gAd G 92))] (plainFor_of_name (by decide)) rfl (Nat.le_of_ble_eq_true rfl) rfl ?_
  refine g_lconst (v := (0 : Int64)) dX7_allPaid_0 (by decide) ?_
  refine g_lstore_n dX7_allPaid_1 rfl (by decide) (lv1 := [(0, .ref (gAd G 92)), (1, .long (0 : Int64))]) rfl ?_
  refine g_iconst (v := 0) dX7_allPaid_2 (by decide) ?_
  refine g_istore_n dX7_allPaid_3 rfl (by decide) (lv1 := [(0, .ref (gAd G 92)), (1, .long (0 : Int64)), (3, .int 0)]) rfl ?_
  obtain ⟨n5, hw⟩ := hw
  refine gl_Sums_allPaid_L4   _ _ _ _ hw
theorem dX11_mean_0 : decode cX11_mean 0 = .ok (.iload_n 2, 1) := by decide +kernel
theorem dX11_mean_1 : decode cX11_mean 1 = .ok (.invokestatic 262, 3) := by decide +kernel
theorem dX11_mean_4 : decode cX11_mean 4 = .ok (.ifCond .ne 7, 3) := by decide +kernel
theorem dX11_mean_7 : decode cX11_mean 7 = .ok (.ldc2_w 170, 3) := by decide +kernel
theorem dX11_mean_10 : decode cX11_mean 10 = .ok (.lreturn, 1) := by decide +kernel
theorem dX11_mean_11 : decode cX11_mean 11 = .ok (.iload_n 1, 1) := by decide +kernel
theorem dX11_mean_12 : decode cX11_mean 12 = .ok (.ifCond .lt 8, 3) := by decide +kernel
theorem dX11_mean_15 : decode cX11_mean 15 = .ok (.iload_n 1, 1) := by decide +kernel
theorem dX11_mean_16 : decode cX11_mean 16 = .ok (.iconst 5, 1) := by decide +kernel
theorem dX11_mean_17 : decode cX11_mean 17 = .ok (.if_icmp .le 7, 3) := by decide +kernel
theorem dX11_mean_20 : decode cX11_mean 20 = .ok (.ldc2_w 189, 3) := by decide +kernel
theorem dX11_mean_23 : decode cX11_mean 23 = .ok (.lreturn, 1) := by decide +kernel
theorem dX11_mean_24 : decode cX11_mean 24 = .ok (.aload_n 0, 1) := by decide +kernel
theorem dX11_mean_25 : decode cX11_mean 25 = .ok (.iload_n 1, 1) := by decide +kernel
theorem dX11_mean_26 : decode cX11_mean 26 = .ok (.invokevirtual 376, 3) := by decide +kernel
theorem dX11_mean_29 : decode cX11_mean 29 = .ok (.lstore_n 3, 1) := by decide +kernel
theorem dX11_mean_30 : decode cX11_mean 30 = .ok (.aload_n 0, 1) := by decide +kernel
theorem dX11_mean_31 : decode cX11_mean 31 = .ok (.getfield 34, 3) := by decide +kernel
theorem dX11_mean_34 : decode cX11_mean 34 = .ok (.getfield 181, 3) := by decide +kernel
theorem dX11_mean_37 : decode cX11_mean 37 = .ok (.lload_n 3, 1) := by decide +kernel
theorem dX11_mean_38 : decode cX11_mean 38 = .ok (.lmul, 1) := by decide +kernel
theorem dX11_mean_39 : decode cX11_mean 39 = .ok (.aload_n 0, 1) := by decide +kernel
theorem dX11_mean_40 : decode cX11_mean 40 = .ok (.getfield 86, 3) := by decide +kernel
theorem dX11_mean_43 : decode cX11_mean 43 = .ok (.invokevirtual 382, 3) := by decide +kernel
theorem dX11_mean_46 : decode cX11_mean 46 = .ok (.ladd, 1) := by decide +kernel
theorem dX11_mean_47 : decode cX11_mean 47 = .ok (.lload_n 3, 1) := by decide +kernel
theorem dX11_mean_48 : decode cX11_mean 48 = .ok (.iload_n 2, 1) := by decide +kernel
theorem dX11_mean_49 : decode cX11_mean 49 = .ok (.invokestatic 273, 3) := by decide +kernel
theorem dX11_mean_52 : decode cX11_mean 52 = .ok (.lreturn, 1) := by decide +kernel
theorem ml_X11_382 : Cond.methodLink RX11 382 yX7_allPaid ∈ Wd := mW 1313 (by decide +kernel) rfl
theorem mk_X7_allPaid : MokV yX7_allPaid cX7_allPaid 4 (some .long) 0 := ⟨⟨mW 12 (by decide +kernel) rfl, mW 1316 (by decide +kernel) rfl, ⟨by decide, by decide, by decide +kernel⟩, by decide⟩, mW 1314 (by decide +kernel) rfl, mW 1315 (by decide +kernel) rfl⟩
def C_mean (x1 : Int32) (x2 : Int32) (h : Hp) (Q : Int64 → Hp → Prop) : Prop := C_isEither x2 h (fun r1 h2 => (¬ r1 = 0 → (x1 < 0 → Q (-9000000000000000003 : Int64) h2) ∧ (¬ x1 < 0 → (x1 ≤ 5 → C_drawLots x1 h2 (fun r3 h4 => Sums_allPaid  h4 (fun r5 h6 => C_lowestTerms (((gJ h4 20 1) * r3) + r5) r3 x2 h6 (fun r7 h8 => Q r7 h8)))) ∧ (¬ x1 ≤ 5 → Q (-9000000000000000003 : Int64) h2))) ∧ (r1 = 0 → Q (-9000000000000000002 : Int64) h2))
set_option maxHeartbeats 4000000 in
set_option maxRecDepth 20000 in
theorem c_C_mean {G : Gx}  {x1 : Int32} {x2 : Int32} {h : Hp} {Q : Int64 → Hp → Prop} (hw : C_mean x1 x2 h Q) : Ct yX11_mean cX11_mean 5 (some .long) 7 G [.ref (gAd G 0), .int x1, .int x2] h (QJ G Q) := by
  refine ct_go [(0, .ref (gAd G 0)), (1, .int x1), (2, .int x2)] (plainFor_of_name (by decide)) rfl (Nat.le_of_ble_eq_true rfl) rfl ?_
  refine g_iload_n dX11_mean_0 rfl rfl ?_
  refine g_callSI [.int x2] dX11_mean_1 ml_X11_262 mk_X11_isEither rfl (Nat.le_of_ble_eq_true rfl) (Nat.le_of_ble_eq_true rfl) rfl (c_C_isEither hw) (fun r1 h2 hw => ?_)
  refine g_if_ne 11 dX11_mean_4 rfl (fun hc => ?_) (fun hc => ?_)
  · have hw := hw.1 hc
    refine g_iload_n dX11_mean_11 rfl rfl ?_
    refine g_if_lt 20 dX11_mean_12 rfl (fun hc => ?_) (fun hc => ?_)
    · have hw := hw.1 hc
      refine g_ldc2 dX11_mean_20 kl_X11_189 ?_
      exact g_lret dX11_mean_23 hw
    · have hw := hw.2 hc
      refine g_iload_n dX11_mean_15 rfl rfl ?_
      refine g_iconst (v := 5) dX11_mean_16 (by decide) ?_
      refine g_icmp_le 24 dX11_mean_17 rfl (fun hc => ?_) (fun hc => ?_)
      · have hw := hw.1 hc
        refine g_aload_n dX11_mean_24 rfl rfl ?_
        refine g_iload_n dX11_mean_25 rfl rfl ?_
        refine g_callVJ [.int x1] (ci := 11) dX11_mean_26 ml_X11_376 mk_X11_drawLots rfl rfl sh0 (Nat.le_of_ble_eq_true rfl) (Nat.le_of_ble_eq_true rfl) rfl (c_C_drawLots hw) (fun r3 h4 hw => ?_)
        refine g_lstore_n dX11_mean_29 rfl (by decide) (lv1 := [(0, .ref (gAd G 0)), (1, .int x1), (2, .int x2), (3, .long r3)]) rfl ?_
        refine g_aload_n dX11_mean_30 rfl rfl ?_
        refine g_getO dX11_mean_31 fl_X11_34 sh0 rfl ?_
        refine g_getJ dX11_mean_34 fl_X11_181 sh20 rfl ?_
        refine g_lload_n dX11_mean_37 rfl rfl ?_
        refine g_lmul dX11_mean_38 ?_
        refine g_aload_n dX11_mean_39 rfl rfl ?_
        refine g_getO dX11_mean_40 fl_X11_86 sh0 rfl ?_
        refine g_callVJ [] (ci := 7) dX11_mean_43 ml_X11_382 mk_X7_allPaid rfl rfl sh92 (Nat.le_of_ble_eq_true rfl) (Nat.le_of_ble_eq_true rfl) rfl (c_Sums_allPaid hw) (fun r5 h6 hw => ?_)
        refine g_ladd dX11_mean_46 ?_
        refine g_lload_n dX11_mean_47 rfl rfl ?_
        refine g_iload_n dX11_mean_48 rfl rfl ?_
        refine g_callSJ [.long (((gJ h4 20 1) * r3) + r5), .long r3, .int x2] dX11_mean_49 ml_X11_273 mk_X11_lowestTerms rfl (Nat.le_of_ble_eq_true rfl) (Nat.le_of_ble_eq_true rfl) rfl (c_C_lowestTerms hw) (fun r7 h8 hw => ?_)
        exact g_lret dX11_mean_52 hw
      · have hw := hw.2 hc
        refine g_ldc2 dX11_mean_20 kl_X11_189 ?_
        exact g_lret dX11_mean_23 hw
  · have hw := hw.2 hc
    refine g_ldc2 dX11_mean_7 kl_X11_170 ?_
    exact g_lret dX11_mean_10 hw
theorem dJ7_fill_d0a16_0 : decode cJ7_fill_d0a16 0 = .ok (.iconst 0, 1) := by decide +kernel
theorem dJ7_fill_d0a16_1 : decode cJ7_fill_d0a16 1 = .ok (.istore_n 3, 1) := by decide +kernel
theorem dJ7_fill_d0a16_2 : decode cJ7_fill_d0a16 2 = .ok (.aload_n 0, 1) := by decide +kernel
theorem dJ7_fill_d0a16_3 : decode cJ7_fill_d0a16 3 = .ok (.arraylength, 1) := by decide +kernel
theorem dJ7_fill_d0a16_4 : decode cJ7_fill_d0a16 4 = .ok (.istore 4, 2) := by decide +kernel
theorem dJ7_fill_d0a16_6 : decode cJ7_fill_d0a16 6 = .ok (.iload_n 3, 1) := by decide +kernel
theorem dJ7_fill_d0a16_7 : decode cJ7_fill_d0a16 7 = .ok (.iload 4, 2) := by decide +kernel
theorem dJ7_fill_d0a16_9 : decode cJ7_fill_d0a16 9 = .ok (.if_icmp .ge 13, 3) := by decide +kernel
theorem dJ7_fill_d0a16_12 : decode cJ7_fill_d0a16 12 = .ok (.aload_n 0, 1) := by decide +kernel
theorem dJ7_fill_d0a16_13 : decode cJ7_fill_d0a16 13 = .ok (.iload_n 3, 1) := by decide +kernel
theorem dJ7_fill_d0a16_14 : decode cJ7_fill_d0a16 14 = .ok (.lload_n 1, 1) := by decide +kernel
theorem dJ7_fill_d0a16_15 : decode cJ7_fill_d0a16 15 = .ok (.lastore, 1) := by decide +kernel
theorem dJ7_fill_d0a16_16 : decode cJ7_fill_d0a16 16 = .ok (.iinc 3 1, 3) := by decide +kernel
theorem dJ7_fill_d0a16_19 : decode cJ7_fill_d0a16 19 = .ok (.goto (-13), 3) := by decide +kernel
theorem dJ7_fill_d0a16_22 : decode cJ7_fill_d0a16 22 = .ok (.return_, 1) := by decide +kernel
def J7_fill_d0a16_L6 (o0 : Nat) (x1 : Int64) (x4 : Int32) (Q : Hp → Prop) : Nat → Int32 → Hp → Prop
  | 0, _, _ => False
  | n + 1, x3, h => (x4 ≤ x3 → Q h) ∧ (¬ x4 ≤ x3 → vp_in x3 (alen o0) ∧ ∀ h2 : Hp, h2 = sJ h o0 (x3).toNatClampNeg x1 → ∀ v3 : Int32, v3 = (x3 + 1) → J7_fill_d0a16_L6 o0 x1 x4 Q n v3 h2)
set_option maxHeartbeats 4000000 in
set_option maxRecDepth 20000 in
theorem gl_J7_fill_d0a16_L6 {G : Gx} {o0 : Nat} (ho0 : isA o0 1) {x1 : Int64} {x4 : Int32} {Q : Hp → Prop} : ∀ (n : Nat) (x3 : Int32) (h : Hp), J7_fill_d0a16_L6 o0 x1 x4 Q n x3 h → Go cJ7_fill_d0a16 5 RJ7 none 1 G (QV G Q) 6 [(0, .ref (gAd G o0)), (1, .long x1), (3, .int x3), (4, .int x4)] [] h := by
  intro n
  induction n with
  | zero => intro _ h hw; exact False.elim hw
  | succ n ih =>
    intro x3 h hw
    refine g_iload_n dJ7_fill_d0a16_6 rfl rfl ?_
    refine g_iload dJ7_fill_d0a16_7 rfl ?_
    refine g_icmp_ge 22 dJ7_fill_d0a16_9 rfl (fun hc => ?_) (fun hc => ?_)
    · have hw := hw.1 hc
      exact g_vret dJ7_fill_d0a16_22 hw
    · have hw := hw.2 hc
      refine g_aload_n dJ7_fill_d0a16_12 rfl rfl ?_
      refine g_iload_n dJ7_fill_d0a16_13 rfl rfl ?_
      refine g_lload_n dJ7_fill_d0a16_14 rfl rfl ?_
      refine g_last dJ7_fill_d0a16_15 ho0 rfl hw.1 ?_
      have hw := hw.2
      refine g_heap (fun h2 eh2 => ?_)
      have hw := hw h2 eh2
      obtain ⟨v3, ev3⟩ : ∃ y : Int32, y = (x3 + 1) := ⟨_, rfl⟩
      have hw := hw v3 ev3
      refine g_iinc dJ7_fill_d0a16_16 rfl (by rw [ev3]; rfl) (by decide) (lv1 := [(0, .ref (gAd G o0)), (1, .long x1), (3, .int v3), (4, .int x4)]) rfl ?_
      refine g_goto 6 dJ7_fill_d0a16_19 rfl ?_
      exact ih _ _ hw
def J7_fill_d0a16 (o0 : Nat) (x1 : Int64) (h : Hp) (Q : Hp → Prop) : Prop := ∀ v1 : Int32, v1 = (Int32.ofNat (alen o0)) → ∃ n4, J7_fill_d0a16_L6 o0 x1 v1 Q n4 0 h
set_option maxHeartbeats 4000000 in
set_option maxRecDepth 20000 in
theorem c_J7_fill_d0a16 {G : Gx} {o0 : Nat} (ho0 : isA o0 1) {x1 : Int64} {h : Hp} {Q : Hp → Prop} (hw : J7_fill_d0a16 o0 x1 h Q) : Ct yJ7_fill_d0a16 cJ7_fill_d0a16 5 none 1 G [.ref (gAd G o0), .long x1] h (QV G Q) := by
  refine ct_go [(0, .ref (gAd G o0)), (1, .long x1)] (plainFor_of_name (by decide)) rfl (Nat.le_of_ble_eq_true rfl) rfl ?_
  refine g_iconst (v := 0) dJ7_fill_d0a16_0 (by decide) ?_
  refine g_istore_n dJ7_fill_d0a16_1 rfl (by decide) (lv1 := [(0, .ref (gAd G o0)), (1, .long x1), (3, .int 0)]) rfl ?_
  refine g_aload_n dJ7_fill_d0a16_2 rfl rfl ?_
  refine g_alen dJ7_fill_d0a16_3 ho0 (by decide) rfl rfl ?_
  refine g_topi (fun v1 ev1 => ?_)
  have hw := hw v1 ev1
  refine g_istore dJ7_fill_d0a16_4 (by decide) (lv1 := [(0, .ref (gAd G o0)), (1, .long x1), (3, .int 0), (4, .int v1)]) rfl ?_
  obtain ⟨n4, hw⟩ := hw
  refine gl_J7_fill_d0a16_L6 ho0  _ _ _ hw
theorem dX10_renew_0 : decode cX10_renew 0 = .ok (.aload_n 0, 1) := by decide +kernel
theorem dX10_renew_1 : decode cX10_renew 1 = .ok (.iload_n 1, 1) := by decide +kernel
theorem dX10_renew_2 : decode cX10_renew 2 = .ok (.putfield 9, 3) := by decide +kernel
theorem dX10_renew_5 : decode cX10_renew 5 = .ok (.aload_n 0, 1) := by decide +kernel
theorem dX10_renew_6 : decode cX10_renew 6 = .ok (.iload_n 2, 1) := by decide +kernel
theorem dX10_renew_7 : decode cX10_renew 7 = .ok (.bipush 40, 2) := by decide +kernel
theorem dX10_renew_9 : decode cX10_renew 9 = .ok (.invokestatic 22, 3) := by decide +kernel
theorem dX10_renew_12 : decode cX10_renew 12 = .ok (.putfield 15, 3) := by decide +kernel
theorem dX10_renew_15 : decode cX10_renew 15 = .ok (.aload_n 0, 1) := by decide +kernel
theorem dX10_renew_16 : decode cX10_renew 16 = .ok (.getfield 18, 3) := by decide +kernel
theorem dX10_renew_19 : decode cX10_renew 19 = .ok (.lconst 0, 1) := by decide +kernel
theorem dX10_renew_20 : decode cX10_renew 20 = .ok (.invokestatic 28, 3) := by decide +kernel
theorem dX10_renew_23 : decode cX10_renew 23 = .ok (.return_, 1) := by decide +kernel
theorem pf_10_0 : parseFieldDescriptor (uD 10 0) = some .int := by decide +kernel
theorem ml_X10_22 : Cond.methodLink RX10 22 yJ9_min_7cf53 ∈ Wd := mW 1325 (by decide +kernel) rfl
theorem fl_X10_15 : FLk RX10 15 10 1 := ⟨_, rfl, by decide, mW 367 (by decide +kernel) rfl⟩
theorem pf_10_1 : parseFieldDescriptor (uD 10 1) = some .int := by decide +kernel
theorem ml_X10_28 : Cond.methodLink RX10 28 yJ7_fill_d0a16 ∈ Wd := mW 1326 (by decide +kernel) rfl
theorem mk_J7_fill_d0a16 : MokS yJ7_fill_d0a16 cJ7_fill_d0a16 5 none 2 := ⟨⟨mW 7 (by decide +kernel) rfl, mW 1328 (by decide +kernel) rfl, ⟨by decide, by decide, by decide +kernel⟩, by decide⟩, mW 1327 (by decide +kernel) rfl⟩
def Tray_renew (o0 : Nat) (x1 : Int32) (x2 : Int32) (h : Hp) (Q : Hp → Prop) : Prop := ∀ h1 : Hp, h1 = sI h o0 0 x1 → J9_min_7cf53 x2 40 h1 (fun r2 h3 => ∀ h4 : Hp, h4 = sI h3 o0 1 r2 → J7_fill_d0a16 (rf o0 2) (0 : Int64) h4 (fun h5 => Q h5))
set_option maxHeartbeats 4000000 in
set_option maxRecDepth 20000 in
theorem c_Tray_renew {G : Gx} {o0 : Nat} (ho0 : SH o0 = .inl 10) {x1 : Int32} {x2 : Int32} {h : Hp} {Q : Hp → Prop} (hw : Tray_renew o0 x1 x2 h Q) : Ct yX10_renew cX10_renew 3 none 2 G [.ref (gAd G o0), .int x1, .int x2] h (QV G Q) := by
  refine ct_go [(0, .ref (gAd G o0)), (1, .int x1), (2, .int x2)] (plainFor_of_name (by decide)) rfl (Nat.le_of_ble_eq_true rfl) rfl ?_
  refine g_aload_n dX10_renew_0 rfl rfl ?_
  refine g_iload_n dX10_renew_1 rfl rfl ?_
  refine g_putI dX10_renew_2 fl_X10_9 ho0 rfl rfl pf_10_0 ?_
  refine g_heap (fun h1 eh1 => ?_)
  have hw := hw h1 eh1
  refine g_aload_n dX10_renew_5 rfl rfl ?_
  refine g_iload_n dX10_renew_6 rfl rfl ?_
  refine g_bipush (v := 40) dX10_renew_7 (by decide) ?_
  refine g_callSI [.int x2, .int 40] dX10_renew_9 ml_X10_22 mk_J9_min_7cf53 rfl (Nat.le_of_ble_eq_true rfl) (Nat.le_of_ble_eq_true rfl) rfl (c_J9_min_7cf53 hw) (fun r2 h3 hw => ?_)
  refine g_putI dX10_renew_12 fl_X10_15 ho0 rfl rfl pf_10_1 ?_
  refine g_heap (fun h4 eh4 => ?_)
  have hw := hw h4 eh4
  refine g_aload_n dX10_renew_15 rfl rfl ?_
  refine g_getA dX10_renew_16 fl_X10_18 ho0 rfl ?_
  refine g_lconst (v := (0 : Int64)) dX10_renew_19 (by decide) ?_
  refine g_callSV [.ref (gAd G (rf o0 2)), .long (0 : Int64)] dX10_renew_20 ml_X10_28 mk_J7_fill_d0a16 rfl (Nat.le_of_ble_eq_true rfl) (Nat.le_of_ble_eq_true rfl) rfl (c_J7_fill_d0a16 (rf_a ho0 (k := 2) rfl) hw) (fun h5 hw => ?_)
  exact g_vret dX10_renew_23 hw
