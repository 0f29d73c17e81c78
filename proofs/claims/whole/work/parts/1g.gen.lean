theorem dX12_laysSecured_0 : decode cX12_laysSecured 0 = .ok (.iconst 0, 1) := by decide +kernel
theorem dX12_laysSecured_1 : decode cX12_laysSecured 1 = .ok (.istore_n 3, 1) := by decide +kernel
theorem dX12_laysSecured_2 : decode cX12_laysSecured 2 = .ok (.iload_n 3, 1) := by decide +kernel
theorem dX12_laysSecured_3 : decode cX12_laysSecured 3 = .ok (.aload_n 0, 1) := by decide +kernel
theorem dX12_laysSecured_4 : decode cX12_laysSecured 4 = .ok (.getfield 13, 3) := by decide +kernel
theorem dX12_laysSecured_7 : decode cX12_laysSecured 7 = .ok (.iconst 1, 1) := by decide +kernel
theorem dX12_laysSecured_8 : decode cX12_laysSecured 8 = .ok (.iaload, 1) := by decide +kernel
theorem dX12_laysSecured_9 : decode cX12_laysSecured 9 = .ok (.if_icmp .ge 35, 3) := by decide +kernel
theorem dX12_laysSecured_12 : decode cX12_laysSecured 12 = .ok (.aload_n 0, 1) := by decide +kernel
theorem dX12_laysSecured_13 : decode cX12_laysSecured 13 = .ok (.getfield 72, 3) := by decide +kernel
theorem dX12_laysSecured_16 : decode cX12_laysSecured 16 = .ok (.iload_n 3, 1) := by decide +kernel
theorem dX12_laysSecured_17 : decode cX12_laysSecured 17 = .ok (.aload_n 0, 1) := by decide +kernel
theorem dX12_laysSecured_18 : decode cX12_laysSecured 18 = .ok (.aload_n 0, 1) := by decide +kernel
theorem dX12_laysSecured_19 : decode cX12_laysSecured 19 = .ok (.iload_n 3, 1) := by decide +kernel
theorem dX12_laysSecured_20 : decode cX12_laysSecured 20 = .ok (.iload_n 2, 1) := by decide +kernel
theorem dX12_laysSecured_21 : decode cX12_laysSecured 21 = .ok (.invokevirtual 385, 3) := by decide +kernel
theorem dX12_laysSecured_24 : decode cX12_laysSecured 24 = .ok (.iload_n 2, 1) := by decide +kernel
theorem dX12_laysSecured_25 : decode cX12_laysSecured 25 = .ok (.iload_n 1, 1) := by decide +kernel
theorem dX12_laysSecured_26 : decode cX12_laysSecured 26 = .ok (.ifCond .ne 7, 3) := by decide +kernel
theorem dX12_laysSecured_29 : decode cX12_laysSecured 29 = .ok (.iconst 1, 1) := by decide +kernel
theorem dX12_laysSecured_30 : decode cX12_laysSecured 30 = .ok (.goto 4, 3) := by decide +kernel
theorem dX12_laysSecured_33 : decode cX12_laysSecured 33 = .ok (.iconst 0, 1) := by decide +kernel
theorem dX12_laysSecured_34 : decode cX12_laysSecured 34 = .ok (.invokevirtual 388, 3) := by decide +kernel
theorem dX12_laysSecured_37 : decode cX12_laysSecured 37 = .ok (.iastore, 1) := by decide +kernel
theorem dX12_laysSecured_38 : decode cX12_laysSecured 38 = .ok (.iinc 3 1, 3) := by decide +kernel
theorem dX12_laysSecured_41 : decode cX12_laysSecured 41 = .ok (.goto (-39), 3) := by decide +kernel
theorem dX12_laysSecured_44 : decode cX12_laysSecured 44 = .ok (.return_, 1) := by decide +kernel
theorem fl_X12_72 : FLk RX12 72 12 32 := ⟨_, rfl, by decide, mW 1414 (by decide +kernel) rfl⟩
theorem ml_X12_385 : Cond.methodLink RX12 385 yX12_comesBy ∈ Wd := mW 1765 (by decide +kernel) rfl
theorem mk_X12_comesBy : MokV yX12_comesBy cX12_comesBy 6 (some .int) 2 := ⟨⟨mW 14 (by decide +kernel) rfl, mW 1768 (by decide +kernel) rfl, ⟨by decide, by decide, by decide +kernel⟩, by decide⟩, mW 1767 (by decide +kernel) rfl, mS (q := (yX12_comesBy, 46)) 90 (by decide +kernel)⟩
theorem ml_X12_388 : Cond.methodLink RX12 388 yX12_ringBy ∈ Wd := mW 1769 (by decide +kernel) rfl
theorem mk_X12_ringBy : MokV yX12_ringBy cX12_ringBy 6 (some .int) 3 := ⟨⟨mW 14 (by decide +kernel) rfl, mW 1772 (by decide +kernel) rfl, ⟨by decide, by decide, by decide +kernel⟩, by decide⟩, mW 1771 (by decide +kernel) rfl, mS (q := (yX12_ringBy, 46)) 91 (by decide +kernel)⟩
def M_laysSecured_L2 (x1 : Int32) (x2 : Int32) (Q : Hp → Prop) : Nat → Int32 → Hp → Prop
  | 0, _, _ => False
  | n + 1, x3, h => ((gI h 99 1) ≤ x3 → Q h) ∧ (¬ (gI h 99 1) ≤ x3 → M_comesBy x3 x2 h (fun r1 h2 => ∀ J34 : Int32 → Hp → Prop, J34 = (fun s3 h4 => M_ringBy r1 x2 s3 h4 (fun r5 h6 => vp_in x3 8 ∧ ∀ h7 : Hp, h7 = sI h6 117 (x3).toNatClampNeg r5 → ∀ v8 : Int32, v8 = (x3 + 1) → M_laysSecured_L2 x1 x2 Q n v8 h7)) → (¬ x1 = 0 → J34 0 h2) ∧ (x1 = 0 → J34 1 h2)))
set_option maxHeartbeats 4000000 in
set_option maxRecDepth 20000 in
theorem gl_M_laysSecured_L2 {G : Gx}  {x1 : Int32} {x2 : Int32} {Q : Hp → Prop} : ∀ (n : Nat) (x3 : Int32) (h : Hp), M_laysSecured_L2 x1 x2 Q n x3 h → Go cX12_laysSecured 4 RX12 none 3 G (QV G Q) 2 [(0, .ref (gAd G 98)), (1, .int x1), (2, .int x2), (3, .int x3)] [] h := by
  intro n
  induction n with
  | zero => intro _ h hw; exact False.elim hw
  | succ n ih =>
    intro x3 h hw
    refine g_iload_n dX12_laysSecured_2 rfl rfl ?_
    refine g_aload_n dX12_laysSecured_3 rfl rfl ?_
    refine g_getA dX12_laysSecured_4 fl_X12_13 sh98 rfl ?_
    refine g_iconst (v := 1) dX12_laysSecured_7 (by decide) ?_
    refine g_ialdK dX12_laysSecured_8 ia99 al99 (by unfold vp_in; decide) (k := 1) (by decide) ?_
    refine g_icmp_ge 44 dX12_laysSecured_9 rfl (fun hc => ?_) (fun hc => ?_)
    · have hw := hw.1 hc
      exact g_vret dX12_laysSecured_44 hw
    · have hw := hw.2 hc
      refine g_aload_n dX12_laysSecured_12 rfl rfl ?_
      refine g_getA dX12_laysSecured_13 fl_X12_72 sh98 rfl ?_
      refine g_iload_n dX12_laysSecured_16 rfl rfl ?_
      refine g_aload_n dX12_laysSecured_17 rfl rfl ?_
      refine g_aload_n dX12_laysSecured_18 rfl rfl ?_
      refine g_iload_n dX12_laysSecured_19 rfl rfl ?_
      refine g_iload_n dX12_laysSecured_20 rfl rfl ?_
      refine g_callVI [.int x3, .int x2] (ci := 12) dX12_laysSecured_21 ml_X12_385 mk_X12_comesBy rfl rfl sh98 (Nat.le_of_ble_eq_true rfl) (Nat.le_of_ble_eq_true rfl) rfl (c_M_comesBy hw) (fun r1 h2 hw => ?_)
      refine g_iload_n dX12_laysSecured_24 rfl rfl ?_
      refine g_iload_n dX12_laysSecured_25 rfl rfl ?_
      refine jn_el hw (fun J34 eJ34 hw => ?_)
      have hJ34 : ∀ (s3 : Int32) (h4 : Hp), J34 s3 h4 → Go cX12_laysSecured 4 RX12 none 3 G (QV G Q) 34 [(0, .ref (gAd G 98)), (1, .int x1), (2, .int x2), (3, .int x3)] [.int s3, .int x2, .int r1, .ref (gAd G 98), .int x3, .ref (gAd G 117)] h4 := by
        intro s3 h4 hw
        subst eJ34
        refine g_callVI [.int r1, .int x2, .int s3] (ci := 12) dX12_laysSecured_34 ml_X12_388 mk_X12_ringBy rfl rfl sh98 (Nat.le_of_ble_eq_true rfl) (Nat.le_of_ble_eq_true rfl) rfl (c_M_ringBy hw) (fun r5 h6 hw => ?_)
        refine g_iast dX12_laysSecured_37 ia117 al117 hw.1 ?_
        have hw := hw.2
        refine g_heap (fun h7 eh7 => ?_)
        have hw := hw h7 eh7
        obtain ⟨v8, ev8⟩ : ∃ y : Int32, y = (x3 + 1) := ⟨_, rfl⟩
        have hw := hw v8 ev8
        refine g_iinc dX12_laysSecured_38 rfl (by rw [ev8]; rfl) (by decide) (lv1 := [(0, .ref (gAd G 98)), (1, .int x1), (2, .int x2), (3, .int v8)]) rfl ?_
        refine g_goto 2 dX12_laysSecured_41 rfl ?_
        exact ih _ _ hw
      refine g_if_ne 33 dX12_laysSecured_26 rfl (fun hc => ?_) (fun hc => ?_)
      · have hw := hw.1 hc
        refine g_iconst (v := 0) dX12_laysSecured_33 (by decide) ?_
        exact hJ34 _ _ hw
      · have hw := hw.2 hc
        refine g_iconst (v := 1) dX12_laysSecured_29 (by decide) ?_
        refine g_goto 34 dX12_laysSecured_30 rfl ?_
        exact hJ34 _ _ hw
def M_laysSecured (x1 : Int32) (x2 : Int32) (h : Hp) (Q : Hp → Prop) : Prop := ∃ n9, M_laysSecured_L2 x1 x2 Q n9 0 h
set_option maxHeartbeats 4000000 in
set_option maxRecDepth 20000 in
theorem c_M_laysSecured {G : Gx}  {x1 : Int32} {x2 : Int32} {h : Hp} {Q : Hp → Prop} (hw : M_laysSecured x1 x2 h Q) : Ct yX12_laysSecured cX12_laysSecured 4 none 3 G [.ref (gAd G 98), .int x1, .int x2] h (QV G Q) := by
  refine ct_go [(0, .ref (gAd G 98)), (1, .int x1), (2, .int x2)] (plainFor_of_name (by decide)) rfl (Nat.le_of_ble_eq_true rfl) rfl ?_
  refine g_iconst (v := 0) dX12_laysSecured_0 (by decide) ?_
  refine g_istore_n dX12_laysSecured_1 rfl (by decide) (lv1 := [(0, .ref (gAd G 98)), (1, .int x1), (2, .int x2), (3, .int 0)]) rfl ?_
  obtain ⟨n9, hw⟩ := hw
  refine gl_M_laysSecured_L2   _ _ _ hw
theorem dX12_gathers_0 : decode cX12_gathers 0 = .ok (.iconst 0, 1) := by decide +kernel
theorem dX12_gathers_1 : decode cX12_gathers 1 = .ok (.istore_n 1, 1) := by decide +kernel
theorem dX12_gathers_2 : decode cX12_gathers 2 = .ok (.iload_n 1, 1) := by decide +kernel
theorem dX12_gathers_3 : decode cX12_gathers 3 = .ok (.aload_n 0, 1) := by decide +kernel
theorem dX12_gathers_4 : decode cX12_gathers 4 = .ok (.getfield 13, 3) := by decide +kernel
theorem dX12_gathers_7 : decode cX12_gathers 7 = .ok (.iconst 1, 1) := by decide +kernel
theorem dX12_gathers_8 : decode cX12_gathers 8 = .ok (.iaload, 1) := by decide +kernel
theorem dX12_gathers_9 : decode cX12_gathers 9 = .ok (.if_icmp .ge 50, 3) := by decide +kernel
theorem dX12_gathers_12 : decode cX12_gathers 12 = .ok (.aload_n 0, 1) := by decide +kernel
theorem dX12_gathers_13 : decode cX12_gathers 13 = .ok (.getfield 66, 3) := by decide +kernel
theorem dX12_gathers_16 : decode cX12_gathers 16 = .ok (.iload_n 1, 1) := by decide +kernel
theorem dX12_gathers_17 : decode cX12_gathers 17 = .ok (.iaload, 1) := by decide +kernel
theorem dX12_gathers_18 : decode cX12_gathers 18 = .ok (.iconst (-1), 1) := by decide +kernel
theorem dX12_gathers_19 : decode cX12_gathers 19 = .ok (.if_icmp .eq 22, 3) := by decide +kernel
theorem dX12_gathers_22 : decode cX12_gathers 22 = .ok (.aload_n 0, 1) := by decide +kernel
theorem dX12_gathers_23 : decode cX12_gathers 23 = .ok (.aload_n 0, 1) := by decide +kernel
theorem dX12_gathers_24 : decode cX12_gathers 24 = .ok (.getfield 66, 3) := by decide +kernel
theorem dX12_gathers_27 : decode cX12_gathers 27 = .ok (.iload_n 1, 1) := by decide +kernel
theorem dX12_gathers_28 : decode cX12_gathers 28 = .ok (.iaload, 1) := by decide +kernel
theorem dX12_gathers_29 : decode cX12_gathers 29 = .ok (.aload_n 0, 1) := by decide +kernel
theorem dX12_gathers_30 : decode cX12_gathers 30 = .ok (.getfield 72, 3) := by decide +kernel
theorem dX12_gathers_33 : decode cX12_gathers 33 = .ok (.iload_n 1, 1) := by decide +kernel
theorem dX12_gathers_34 : decode cX12_gathers 34 = .ok (.iaload, 1) := by decide +kernel
theorem dX12_gathers_35 : decode cX12_gathers 35 = .ok (.invokevirtual 367, 3) := by decide +kernel
theorem dX12_gathers_38 : decode cX12_gathers 38 = .ok (.ifCond .eq 15, 3) := by decide +kernel
theorem dX12_gathers_41 : decode cX12_gathers 41 = .ok (.aload_n 0, 1) := by decide +kernel
theorem dX12_gathers_42 : decode cX12_gathers 42 = .ok (.getfield 66, 3) := by decide +kernel
theorem dX12_gathers_45 : decode cX12_gathers 45 = .ok (.iload_n 1, 1) := by decide +kernel
theorem dX12_gathers_46 : decode cX12_gathers 46 = .ok (.aload_n 0, 1) := by decide +kernel
theorem dX12_gathers_47 : decode cX12_gathers 47 = .ok (.getfield 72, 3) := by decide +kernel
theorem dX12_gathers_50 : decode cX12_gathers 50 = .ok (.iload_n 1, 1) := by decide +kernel
theorem dX12_gathers_51 : decode cX12_gathers 51 = .ok (.iaload, 1) := by decide +kernel
theorem dX12_gathers_52 : decode cX12_gathers 52 = .ok (.iastore, 1) := by decide +kernel
theorem dX12_gathers_53 : decode cX12_gathers 53 = .ok (.iinc 1 1, 3) := by decide +kernel
theorem dX12_gathers_56 : decode cX12_gathers 56 = .ok (.goto (-54), 3) := by decide +kernel
theorem dX12_gathers_59 : decode cX12_gathers 59 = .ok (.return_, 1) := by decide +kernel
theorem fl_X12_66 : FLk RX12 66 12 30 := ⟨_, rfl, by decide, mW 1412 (by decide +kernel) rfl⟩
def M_gathers_L2 (Q : Hp → Prop) : Nat → Int32 → Hp → Prop
  | 0, _, _ => False
  | n + 1, x1, h => ((gI h 99 1) ≤ x1 → Q h) ∧ (¬ (gI h 99 1) ≤ x1 → vp_in x1 8 ∧ ∀ J53 : Hp → Prop, J53 = (fun h1 => ∀ v2 : Int32, v2 = (x1 + 1) → M_gathers_L2 Q n v2 h1) → ∀ J41 : Hp → Prop, J41 = (fun h3 => vp_in x1 8 ∧ vp_in x1 8 ∧ ∀ h4 : Hp, h4 = sI h3 115 (x1).toNatClampNeg (gI h3 117 (x1).toNatClampNeg) → J53 h4) → ((gI h 115 (x1).toNatClampNeg) = (-1) → J41 h) ∧ (¬ (gI h 115 (x1).toNatClampNeg) = (-1) → vp_in x1 8 ∧ vp_in x1 8 ∧ M_isLess (gI h 115 (x1).toNatClampNeg) (gI h 117 (x1).toNatClampNeg) h (fun r5 h6 => (r5 = 0 → J53 h6) ∧ (¬ r5 = 0 → J41 h6))))
set_option maxHeartbeats 4000000 in
set_option maxRecDepth 20000 in
theorem gl_M_gathers_L2 {G : Gx}  {Q : Hp → Prop} : ∀ (n : Nat) (x1 : Int32) (h : Hp), M_gathers_L2 Q n x1 h → Go cX12_gathers 2 RX12 none 2 G (QV G Q) 2 [(0, .ref (gAd G 98)), (1, .int x1)] [] h := by
  intro n
  induction n with
  | zero => intro _ h hw; exact False.elim hw
  | succ n ih =>
    intro x1 h hw
    refine g_iload_n dX12_gathers_2 rfl rfl ?_
    refine g_aload_n dX12_gathers_3 rfl rfl ?_
    refine g_getA dX12_gathers_4 fl_X12_13 sh98 rfl ?_
    refine g_iconst (v := 1) dX12_gathers_7 (by decide) ?_
    refine g_ialdK dX12_gathers_8 ia99 al99 (by unfold vp_in; decide) (k := 1) (by decide) ?_
    refine g_icmp_ge 59 dX12_gathers_9 rfl (fun hc => ?_) (fun hc => ?_)
    · have hw := hw.1 hc
      exact g_vret dX12_gathers_59 hw
    · have hw := hw.2 hc
      refine g_aload_n dX12_gathers_12 rfl rfl ?_
      refine g_getA dX12_gathers_13 fl_X12_66 sh98 rfl ?_
      refine g_iload_n dX12_gathers_16 rfl rfl ?_
      refine g_iald dX12_gathers_17 ia115 al115 hw.1 ?_
      have hw := hw.2
      refine g_iconst (v := (-1)) dX12_gathers_18 (by decide) ?_
      refine jn_el hw (fun J53 eJ53 hw => ?_)
      have hJ53 : ∀ (h1 : Hp), J53 h1 → Go cX12_gathers 2 RX12 none 2 G (QV G Q) 53 [(0, .ref (gAd G 98)), (1, .int x1)] [] h1 := by
        intro h1 hw
        subst eJ53
        obtain ⟨v2, ev2⟩ : ∃ y : Int32, y = (x1 + 1) := ⟨_, rfl⟩
        have hw := hw v2 ev2
        refine g_iinc dX12_gathers_53 rfl (by rw [ev2]; rfl) (by decide) (lv1 := [(0, .ref (gAd G 98)), (1, .int v2)]) rfl ?_
        refine g_goto 2 dX12_gathers_56 rfl ?_
        exact ih _ _ hw
      refine jn_el hw (fun J41 eJ41 hw => ?_)
      have hJ41 : ∀ (h3 : Hp), J41 h3 → Go cX12_gathers 2 RX12 none 2 G (QV G Q) 41 [(0, .ref (gAd G 98)), (1, .int x1)] [] h3 := by
        intro h3 hw
        subst eJ41
        refine g_aload_n dX12_gathers_41 rfl rfl ?_
        refine g_getA dX12_gathers_42 fl_X12_66 sh98 rfl ?_
        refine g_iload_n dX12_gathers_45 rfl rfl ?_
        refine g_aload_n dX12_gathers_46 rfl rfl ?_
        refine g_getA dX12_gathers_47 fl_X12_72 sh98 rfl ?_
        refine g_iload_n dX12_gathers_50 rfl rfl ?_
        refine g_iald dX12_gathers_51 ia117 al117 hw.1 ?_
        have hw := hw.2
        refine g_iast dX12_gathers_52 ia115 al115 hw.1 ?_
        have hw := hw.2
        refine g_heap (fun h4 eh4 => ?_)
        have hw := hw h4 eh4
        exact hJ53 _ hw
      refine g_icmp_eq 41 dX12_gathers_19 rfl (fun hc => ?_) (fun hc => ?_)
      · have hw := hw.1 hc
        exact hJ41 _ hw
      · have hw := hw.2 hc
        refine g_aload_n dX12_gathers_22 rfl rfl ?_
        refine g_aload_n dX12_gathers_23 rfl rfl ?_
        refine g_getA dX12_gathers_24 fl_X12_66 sh98 rfl ?_
        refine g_iload_n dX12_gathers_27 rfl rfl ?_
        refine g_iald dX12_gathers_28 ia115 al115 hw.1 ?_
        have hw := hw.2
        refine g_aload_n dX12_gathers_29 rfl rfl ?_
        refine g_getA dX12_gathers_30 fl_X12_72 sh98 rfl ?_
        refine g_iload_n dX12_gathers_33 rfl rfl ?_
        refine g_iald dX12_gathers_34 ia117 al117 hw.1 ?_
        have hw := hw.2
        refine g_callVI [.int (gI h 115 (x1).toNatClampNeg), .int (gI h 117 (x1).toNatClampNeg)] (ci := 12) dX12_gathers_35 ml_X12_367 mk_X12_isLess rfl rfl sh98 (Nat.le_of_ble_eq_true rfl) (Nat.le_of_ble_eq_true rfl) rfl (c_M_isLess hw) (fun r5 h6 hw => ?_)
        refine g_if_eq 53 dX12_gathers_38 rfl (fun hc => ?_) (fun hc => ?_)
        · have hw := hw.1 hc
          exact hJ53 _ hw
        · have hw := hw.2 hc
          exact hJ41 _ hw
def M_gathers  (h : Hp) (Q : Hp → Prop) : Prop := ∃ n7, M_gathers_L2 Q n7 0 h
set_option maxHeartbeats 4000000 in
set_option maxRecDepth 20000 in
theorem c_M_gathers {G : Gx}   {h : Hp} {Q : Hp → Prop} (hw : M_gathers  h Q) : Ct yX12_gathers cX12_gathers 2 none 2 G [.ref (gAd G 98)] h (QV G Q) := by
  refine ct_go [(0, .ref (gAd G 98))] (plainFor_of_name (by decide)) rfl (Nat.le_of_ble_eq_true rfl) rfl ?_
  refine g_iconst (v := 0) dX12_gathers_0 (by decide) ?_
  refine g_istore_n dX12_gathers_1 rfl (by decide) (lv1 := [(0, .ref (gAd G 98)), (1, .int 0)]) rfl ?_
  obtain ⟨n7, hw⟩ := hw
  refine gl_M_gathers_L2   _ _ _ hw
theorem dX12_counts_0 : decode cX12_counts 0 = .ok (.iconst 1, 1) := by decide +kernel
theorem dX12_counts_1 : decode cX12_counts 1 = .ok (.istore_n 3, 1) := by decide +kernel
theorem dX12_counts_2 : decode cX12_counts 2 = .ok (.iconst 0, 1) := by decide +kernel
theorem dX12_counts_3 : decode cX12_counts 3 = .ok (.istore 4, 2) := by decide +kernel
theorem dX12_counts_5 : decode cX12_counts 5 = .ok (.iload 4, 2) := by decide +kernel
theorem dX12_counts_7 : decode cX12_counts 7 = .ok (.aload_n 0, 1) := by decide +kernel
theorem dX12_counts_8 : decode cX12_counts 8 = .ok (.getfield 13, 3) := by decide +kernel
theorem dX12_counts_11 : decode cX12_counts 11 = .ok (.iconst 1, 1) := by decide +kernel
theorem dX12_counts_12 : decode cX12_counts 12 = .ok (.iaload, 1) := by decide +kernel
theorem dX12_counts_13 : decode cX12_counts 13 = .ok (.if_icmp .ge 88, 3) := by decide +kernel
theorem dX12_counts_16 : decode cX12_counts 16 = .ok (.aload_n 0, 1) := by decide +kernel
theorem dX12_counts_17 : decode cX12_counts 17 = .ok (.aload_n 0, 1) := by decide +kernel
theorem dX12_counts_18 : decode cX12_counts 18 = .ok (.getfield 66, 3) := by decide +kernel
theorem dX12_counts_21 : decode cX12_counts 21 = .ok (.iload 4, 2) := by decide +kernel
theorem dX12_counts_23 : decode cX12_counts 23 = .ok (.iaload, 1) := by decide +kernel
theorem dX12_counts_24 : decode cX12_counts 24 = .ok (.aload_n 0, 1) := by decide +kernel
theorem dX12_counts_25 : decode cX12_counts 25 = .ok (.getfield 72, 3) := by decide +kernel
theorem dX12_counts_28 : decode cX12_counts 28 = .ok (.iload 4, 2) := by decide +kernel
theorem dX12_counts_30 : decode cX12_counts 30 = .ok (.iaload, 1) := by decide +kernel
theorem dX12_counts_31 : decode cX12_counts 31 = .ok (.invokevirtual 367, 3) := by decide +kernel
theorem dX12_counts_34 : decode cX12_counts 34 = .ok (.ifCond .ne 28, 3) := by decide +kernel
theorem dX12_counts_37 : decode cX12_counts 37 = .ok (.aload_n 0, 1) := by decide +kernel
theorem dX12_counts_38 : decode cX12_counts 38 = .ok (.aload_n 0, 1) := by decide +kernel
theorem dX12_counts_39 : decode cX12_counts 39 = .ok (.getfield 72, 3) := by decide +kernel
theorem dX12_counts_42 : decode cX12_counts 42 = .ok (.iload 4, 2) := by decide +kernel
theorem dX12_counts_44 : decode cX12_counts 44 = .ok (.iaload, 1) := by decide +kernel
theorem dX12_counts_45 : decode cX12_counts 45 = .ok (.aload_n 0, 1) := by decide +kernel
theorem dX12_counts_46 : decode cX12_counts 46 = .ok (.getfield 66, 3) := by decide +kernel
theorem dX12_counts_49 : decode cX12_counts 49 = .ok (.iload 4, 2) := by decide +kernel
theorem dX12_counts_51 : decode cX12_counts 51 = .ok (.iaload, 1) := by decide +kernel
theorem dX12_counts_52 : decode cX12_counts 52 = .ok (.invokevirtual 367, 3) := by decide +kernel
theorem dX12_counts_55 : decode cX12_counts 55 = .ok (.ifCond .ne 7, 3) := by decide +kernel
theorem dX12_counts_58 : decode cX12_counts 58 = .ok (.iconst 1, 1) := by decide +kernel
theorem dX12_counts_59 : decode cX12_counts 59 = .ok (.goto 4, 3) := by decide +kernel
theorem dX12_counts_62 : decode cX12_counts 62 = .ok (.iconst 0, 1) := by decide +kernel
theorem dX12_counts_63 : decode cX12_counts 63 = .ok (.istore 5, 2) := by decide +kernel
theorem dX12_counts_65 : decode cX12_counts 65 = .ok (.aload_n 0, 1) := by decide +kernel
theorem dX12_counts_66 : decode cX12_counts 66 = .ok (.getfield 69, 3) := by decide +kernel
theorem dX12_counts_69 : decode cX12_counts 69 = .ok (.bipush 8, 2) := by decide +kernel
theorem dX12_counts_71 : decode cX12_counts 71 = .ok (.iload_n 1, 1) := by decide +kernel
theorem dX12_counts_72 : decode cX12_counts 72 = .ok (.imul, 1) := by decide +kernel
theorem dX12_counts_73 : decode cX12_counts 73 = .ok (.iload 4, 2) := by decide +kernel
theorem dX12_counts_75 : decode cX12_counts 75 = .ok (.iadd, 1) := by decide +kernel
theorem dX12_counts_76 : decode cX12_counts 76 = .ok (.dup2, 1) := by decide +kernel
theorem dX12_counts_77 : decode cX12_counts 77 = .ok (.iaload, 1) := by decide +kernel
theorem dX12_counts_78 : decode cX12_counts 78 = .ok (.iload 5, 2) := by decide +kernel
theorem dX12_counts_80 : decode cX12_counts 80 = .ok (.ifCond .eq 7, 3) := by decide +kernel
theorem dX12_counts_83 : decode cX12_counts 83 = .ok (.iconst 1, 1) := by decide +kernel
theorem dX12_counts_84 : decode cX12_counts 84 = .ok (.goto 4, 3) := by decide +kernel
theorem dX12_counts_87 : decode cX12_counts 87 = .ok (.iconst 0, 1) := by decide +kernel
theorem dX12_counts_88 : decode cX12_counts 88 = .ok (.iadd, 1) := by decide +kernel
theorem dX12_counts_89 : decode cX12_counts 89 = .ok (.iastore, 1) := by decide +kernel
theorem dX12_counts_90 : decode cX12_counts 90 = .ok (.iload_n 3, 1) := by decide +kernel
theorem dX12_counts_91 : decode cX12_counts 91 = .ok (.iload 5, 2) := by decide +kernel
theorem dX12_counts_93 : decode cX12_counts 93 = .ok (.iand, 1) := by decide +kernel
theorem dX12_counts_94 : decode cX12_counts 94 = .ok (.istore_n 3, 1) := by decide +kernel
theorem dX12_counts_95 : decode cX12_counts 95 = .ok (.iinc 4 1, 3) := by decide +kernel
theorem dX12_counts_98 : decode cX12_counts 98 = .ok (.goto (-93), 3) := by decide +kernel
theorem dX12_counts_101 : decode cX12_counts 101 = .ok (.iload_n 3, 1) := by decide +kernel
theorem dX12_counts_102 : decode cX12_counts 102 = .ok (.ifCond .eq 19, 3) := by decide +kernel
theorem dX12_counts_105 : decode cX12_counts 105 = .ok (.aload_n 0, 1) := by decide +kernel
theorem dX12_counts_106 : decode cX12_counts 106 = .ok (.getfield 63, 3) := by decide +kernel
theorem dX12_counts_109 : decode cX12_counts 109 = .ok (.iload_n 1, 1) := by decide +kernel
theorem dX12_counts_110 : decode cX12_counts 110 = .ok (.iaload, 1) := by decide +kernel
theorem dX12_counts_111 : decode cX12_counts 111 = .ok (.ifCond .ne 10, 3) := by decide +kernel
theorem dX12_counts_114 : decode cX12_counts 114 = .ok (.aload_n 0, 1) := by decide +kernel
theorem dX12_counts_115 : decode cX12_counts 115 = .ok (.getfield 63, 3) := by decide +kernel
theorem dX12_counts_118 : decode cX12_counts 118 = .ok (.iload_n 1, 1) := by decide +kernel
theorem dX12_counts_119 : decode cX12_counts 119 = .ok (.iload_n 2, 1) := by decide +kernel
theorem dX12_counts_120 : decode cX12_counts 120 = .ok (.iastore, 1) := by decide +kernel
theorem dX12_counts_121 : decode cX12_counts 121 = .ok (.return_, 1) := by decide +kernel
theorem fl_X12_69 : FLk RX12 69 12 31 := ⟨_, rfl, by decide, mW 1413 (by decide +kernel) rfl⟩
theorem fl_X12_63 : FLk RX12 63 12 29 := ⟨_, rfl, by decide, mW 1411 (by decide +kernel) rfl⟩
def M_counts_L5 (x1 : Int32) (x2 : Int32) (K101 : Int32 → Hp → Prop) : Nat → Int32 → Int32 → Hp → Prop
  | 0, _, _, _ => False
  | n + 1, x3, x4, h => ((gI h 99 1) ≤ x4 → K101 x3 h) ∧ (¬ (gI h 99 1) ≤ x4 → vp_in x4 8 ∧ vp_in x4 8 ∧ M_isLess (gI h 115 (x4).toNatClampNeg) (gI h 117 (x4).toNatClampNeg) h (fun r1 h2 => ∀ J63 : Int32 → Hp → Prop, J63 = (fun s3 h4 => vp_in (((8 : Int32) * x1) + x4) 16 ∧ ∀ J88 : Int32 → Hp → Prop, J88 = (fun s5 h6 => vp_in (((8 : Int32) * x1) + x4) 16 ∧ ∀ h7 : Hp, h7 = sI h6 116 ((((8 : Int32) * x1) + x4)).toNatClampNeg ((gI h4 116 ((((8 : Int32) * x1) + x4)).toNatClampNeg) + s5) → ∀ v8 : Int32, v8 = (x3 &&& s3) → ∀ v9 : Int32, v9 = (x4 + 1) → M_counts_L5 x1 x2 K101 n v8 v9 h7) → (s3 = 0 → J88 0 h4) ∧ (¬ s3 = 0 → J88 1 h4)) → ∀ J62 : Hp → Prop, J62 = (fun h10 => J63 0 h10) → (¬ r1 = 0 → J62 h2) ∧ (r1 = 0 → vp_in x4 8 ∧ vp_in x4 8 ∧ M_isLess (gI h2 117 (x4).toNatClampNeg) (gI h2 115 (x4).toNatClampNeg) h2 (fun r11 h12 => (¬ r11 = 0 → J62 h12) ∧ (r11 = 0 → J63 1 h12)))))
set_option maxHeartbeats 4000000 in
set_option maxRecDepth 20000 in
theorem gl_M_counts_L5 {G : Gx}  {x1 : Int32} {x2 : Int32} {Q : Hp → Prop} {K101 : Int32 → Hp → Prop} (hK101 : ∀ (y3 : Int32) (h1 : Hp), K101 y3 h1 → Go cX12_counts 6 RX12 none 2 G (QV G Q) 101 [(0, .ref (gAd G 98)), (1, .int x1), (2, .int x2), (3, .int y3)] [] h1) : ∀ (n : Nat) (x3 : Int32) (x4 : Int32) (h : Hp), M_counts_L5 x1 x2 K101 n x3 x4 h → Go cX12_counts 6 RX12 none 2 G (QV G Q) 5 [(0, .ref (gAd G 98)), (1, .int x1), (2, .int x2), (3, .int x3), (4, .int x4)] [] h := by
  intro n
  induction n with
  | zero => intro _ _ h hw; exact False.elim hw
  | succ n ih =>
    intro x3 x4 h hw
    refine g_iload dX12_counts_5 rfl ?_
    refine g_aload_n dX12_counts_7 rfl rfl ?_
    refine g_getA dX12_counts_8 fl_X12_13 sh98 rfl ?_
    refine g_iconst (v := 1) dX12_counts_11 (by decide) ?_
    refine g_ialdK dX12_counts_12 ia99 al99 (by unfold vp_in; decide) (k := 1) (by decide) ?_
    refine g_icmp_ge 101 dX12_counts_13 rfl (fun hc => ?_) (fun hc => ?_)
    · have hw := hw.1 hc
      refine g_lv [0, 1, 2, 3] rfl ?_
      exact hK101 _ _ hw
    · have hw := hw.2 hc
      refine g_aload_n dX12_counts_16 rfl rfl ?_
      refine g_aload_n dX12_counts_17 rfl rfl ?_
      refine g_getA dX12_counts_18 fl_X12_66 sh98 rfl ?_
      refine g_iload dX12_counts_21 rfl ?_
      refine g_iald dX12_counts_23 ia115 al115 hw.1 ?_
      have hw := hw.2
      refine g_aload_n dX12_counts_24 rfl rfl ?_
      refine g_getA dX12_counts_25 fl_X12_72 sh98 rfl ?_
      refine g_iload dX12_counts_28 rfl ?_
      refine g_iald dX12_counts_30 ia117 al117 hw.1 ?_
      have hw := hw.2
      refine g_callVI [.int (gI h 115 (x4).toNatClampNeg), .int (gI h 117 (x4).toNatClampNeg)] (ci := 12) dX12_counts_31 ml_X12_367 mk_X12_isLess rfl rfl sh98 (Nat.le_of_ble_eq_true rfl) (Nat.le_of_ble_eq_true rfl) rfl (c_M_isLess hw) (fun r1 h2 hw => ?_)
      refine jn_el hw (fun J63 eJ63 hw => ?_)
      have hJ63 : ∀ (s3 : Int32) (h4 : Hp), J63 s3 h4 → Go cX12_counts 6 RX12 none 2 G (QV G Q) 63 [(0, .ref (gAd G 98)), (1, .int x1), (2, .int x2), (3, .int x3), (4, .int x4)] [.int s3] h4 := by
        intro s3 h4 hw
        subst eJ63
        refine g_istore dX12_counts_63 (by decide) (lv1 := [(0, .ref (gAd G 98)), (1, .int x1), (2, .int x2), (3, .int x3), (4, .int x4), (5, .int s3)]) rfl ?_
        refine g_aload_n dX12_counts_65 rfl rfl ?_
        refine g_getA dX12_counts_66 fl_X12_69 sh98 rfl ?_
        refine g_bipush (v := 8) dX12_counts_69 (by decide) ?_
        refine g_iload_n dX12_counts_71 rfl rfl ?_
        refine g_imul dX12_counts_72 ?_
        refine g_iload dX12_counts_73 rfl ?_
        refine g_iadd dX12_counts_75 ?_
        refine g_dup2_11 dX12_counts_76 rfl rfl ?_
        refine g_iald dX12_counts_77 ia116 al116 hw.1 ?_
        have hw := hw.2
        refine g_iload dX12_counts_78 rfl ?_
        refine jn_el hw (fun J88 eJ88 hw => ?_)
        have hJ88 : ∀ (s5 : Int32) (h6 : Hp), J88 s5 h6 → Go cX12_counts 6 RX12 none 2 G (QV G Q) 88 [(0, .ref (gAd G 98)), (1, .int x1), (2, .int x2), (3, .int x3), (4, .int x4), (5, .int s3)] [.int s5, .int (gI h4 116 ((((8 : Int32) * x1) + x4)).toNatClampNeg), .int (((8 : Int32) * x1) + x4), .ref (gAd G 116)] h6 := by
          intro s5 h6 hw
          subst eJ88
          refine g_iadd dX12_counts_88 ?_
          refine g_iast dX12_counts_89 ia116 al116 hw.1 ?_
          have hw := hw.2
          refine g_heap (fun h7 eh7 => ?_)
          have hw := hw h7 eh7
          refine g_iload_n dX12_counts_90 rfl rfl ?_
          refine g_iload dX12_counts_91 rfl ?_
          refine g_iand dX12_counts_93 ?_
          refine g_topi (fun v8 ev8 => ?_)
          have hw := hw v8 ev8
          refine g_istore_n dX12_counts_94 rfl (by decide) (lv1 := [(0, .ref (gAd G 98)), (1, .int x1), (2, .int x2), (3, .int v8), (4, .int x4), (5, .int s3)]) rfl ?_
          obtain ⟨v9, ev9⟩ : ∃ y : Int32, y = (x4 + 1) := ⟨_, rfl⟩
          have hw := hw v9 ev9
          refine g_iinc dX12_counts_95 rfl (by rw [ev9]; rfl) (by decide) (lv1 := [(0, .ref (gAd G 98)), (1, .int x1), (2, .int x2), (3, .int v8), (4, .int v9), (5, .int s3)]) rfl ?_
          refine g_goto 5 dX12_counts_98 rfl ?_
          refine g_lv [0, 1, 2, 3, 4] rfl ?_
          exact ih _ _ _ hw
        refine g_if_eq 87 dX12_counts_80 rfl (fun hc => ?_) (fun hc => ?_)
        · have hw := hw.1 hc
          refine g_iconst (v := 0) dX12_counts_87 (by decide) ?_
          exact hJ88 _ _ hw
        · have hw := hw.2 hc
          refine g_iconst (v := 1) dX12_counts_83 (by decide) ?_
          refine g_goto 88 dX12_counts_84 rfl ?_
          exact hJ88 _ _ hw
      refine jn_el hw (fun J62 eJ62 hw => ?_)
      have hJ62 : ∀ (h10 : Hp), J62 h10 → Go cX12_counts 6 RX12 none 2 G (QV G Q) 62 [(0, .ref (gAd G 98)), (1, .int x1), (2, .int x2), (3, .int x3), (4, .int x4)] [] h10 := by
        intro h10 hw
        subst eJ62
        refine g_iconst (v := 0) dX12_counts_62 (by decide) ?_
        exact hJ63 _ _ hw
      refine g_if_ne 62 dX12_counts_34 rfl (fun hc => ?_) (fun hc => ?_)
      · have hw := hw.1 hc
        exact hJ62 _ hw
      · have hw := hw.2 hc
        refine g_aload_n dX12_counts_37 rfl rfl ?_
        refine g_aload_n dX12_counts_38 rfl rfl ?_
        refine g_getA dX12_counts_39 fl_X12_72 sh98 rfl ?_
        refine g_iload dX12_counts_42 rfl ?_
        refine g_iald dX12_counts_44 ia117 al117 hw.1 ?_
        have hw := hw.2
        refine g_aload_n dX12_counts_45 rfl rfl ?_
        refine g_getA dX12_counts_46 fl_X12_66 sh98 rfl ?_
        refine g_iload dX12_counts_49 rfl ?_
        refine g_iald dX12_counts_51 ia115 al115 hw.1 ?_
        have hw := hw.2
        refine g_callVI [.int (gI h2 117 (x4).toNatClampNeg), .int (gI h2 115 (x4).toNatClampNeg)] (ci := 12) dX12_counts_52 ml_X12_367 mk_X12_isLess rfl rfl sh98 (Nat.le_of_ble_eq_true rfl) (Nat.le_of_ble_eq_true rfl) rfl (c_M_isLess hw) (fun r11 h12 hw => ?_)
        refine g_if_ne 62 dX12_counts_55 rfl (fun hc => ?_) (fun hc => ?_)
        · have hw := hw.1 hc
          exact hJ62 _ hw
        · have hw := hw.2 hc
          refine g_iconst (v := 1) dX12_counts_58 (by decide) ?_
          refine g_goto 63 dX12_counts_59 rfl ?_
          exact hJ63 _ _ hw
def M_counts (x1 : Int32) (x2 : Int32) (h : Hp) (Q : Hp → Prop) : Prop := ∃ n13, M_counts_L5 x1 x2 (fun x3_14 h15 => (x3_14 = 0 → Q h15) ∧ (¬ x3_14 = 0 → vp_in x1 2 ∧ (¬ (gI h15 114 (x1).toNatClampNeg) = 0 → Q h15) ∧ ((gI h15 114 (x1).toNatClampNeg) = 0 → vp_in x1 2 ∧ ∀ h16 : Hp, h16 = sI h15 114 (x1).toNatClampNeg x2 → Q h16))) n13 1 0 h
set_option maxHeartbeats 4000000 in
set_option maxRecDepth 20000 in
theorem c_M_counts {G : Gx}  {x1 : Int32} {x2 : Int32} {h : Hp} {Q : Hp → Prop} (hw : M_counts x1 x2 h Q) : Ct yX12_counts cX12_counts 6 none 2 G [.ref (gAd G 98), .int x1, .int x2] h (QV G Q) := by
  refine ct_go [(0, .ref (gAd G 98)), (1, .int x1), (2, .int x2)] (plainFor_of_name (by decide)) rfl (Nat.le_of_ble_eq_true rfl) rfl ?_
  refine g_iconst (v := 1) dX12_counts_0 (by decide) ?_
  refine g_istore_n dX12_counts_1 rfl (by decide) (lv1 := [(0, .ref (gAd G 98)), (1, .int x1), (2, .int x2), (3, .int 1)]) rfl ?_
  refine g_iconst (v := 0) dX12_counts_2 (by decide) ?_
  refine g_istore dX12_counts_3 (by decide) (lv1 := [(0, .ref (gAd G 98)), (1, .int x1), (2, .int x2), (3, .int 1), (4, .int 0)]) rfl ?_
  obtain ⟨n13, hw⟩ := hw
  refine gl_M_counts_L5  ?_ _ _ _ _ hw
  · intro x3_14 h15 hw
    refine g_iload_n dX12_counts_101 rfl rfl ?_
    refine g_if_eq 121 dX12_counts_102 rfl (fun hc => ?_) (fun hc => ?_)
    · have hw := hw.1 hc
      exact g_vret dX12_counts_121 hw
    · have hw := hw.2 hc
      refine g_aload_n dX12_counts_105 rfl rfl ?_
      refine g_getA dX12_counts_106 fl_X12_63 sh98 rfl ?_
      refine g_iload_n dX12_counts_109 rfl rfl ?_
      refine g_iald dX12_counts_110 ia114 al114 hw.1 ?_
      have hw := hw.2
      refine g_if_ne 121 dX12_counts_111 rfl (fun hc => ?_) (fun hc => ?_)
      · have hw := hw.1 hc
        exact g_vret dX12_counts_121 hw
      · have hw := hw.2 hc
        refine g_aload_n dX12_counts_114 rfl rfl ?_
        refine g_getA dX12_counts_115 fl_X12_63 sh98 rfl ?_
        refine g_iload_n dX12_counts_118 rfl rfl ?_
        refine g_iload_n dX12_counts_119 rfl rfl ?_
        refine g_iast dX12_counts_120 ia114 al114 hw.1 ?_
        have hw := hw.2
        refine g_heap (fun h16 eh16 => ?_)
        have hw := hw h16 eh16
        exact g_vret dX12_counts_121 hw
theorem dX12_goesPlans_0 : decode cX12_goesPlans 0 = .ok (.iload_n 2, 1) := by decide +kernel
theorem dX12_goesPlans_1 : decode cX12_goesPlans 1 = .ok (.aload_n 0, 1) := by decide +kernel
theorem dX12_goesPlans_2 : decode cX12_goesPlans 2 = .ok (.getfield 13, 3) := by decide +kernel
theorem dX12_goesPlans_5 : decode cX12_goesPlans 5 = .ok (.iconst 1, 1) := by decide +kernel
theorem dX12_goesPlans_6 : decode cX12_goesPlans 6 = .ok (.iaload, 1) := by decide +kernel
theorem dX12_goesPlans_7 : decode cX12_goesPlans 7 = .ok (.if_icmp .ge 42, 3) := by decide +kernel
theorem dX12_goesPlans_10 : decode cX12_goesPlans 10 = .ok (.aload_n 0, 1) := by decide +kernel
theorem dX12_goesPlans_11 : decode cX12_goesPlans 11 = .ok (.iload_n 2, 1) := by decide +kernel
theorem dX12_goesPlans_12 : decode cX12_goesPlans 12 = .ok (.invokevirtual 263, 3) := by decide +kernel
theorem dX12_goesPlans_15 : decode cX12_goesPlans 15 = .ok (.iload_n 1, 1) := by decide +kernel
theorem dX12_goesPlans_16 : decode cX12_goesPlans 16 = .ok (.iconst 1, 1) := by decide +kernel
theorem dX12_goesPlans_17 : decode cX12_goesPlans 17 = .ok (.if_icmp .ne 7, 3) := by decide +kernel
theorem dX12_goesPlans_20 : decode cX12_goesPlans 20 = .ok (.iconst 1, 1) := by decide +kernel
theorem dX12_goesPlans_21 : decode cX12_goesPlans 21 = .ok (.goto 4, 3) := by decide +kernel
theorem dX12_goesPlans_24 : decode cX12_goesPlans 24 = .ok (.iconst 0, 1) := by decide +kernel
theorem dX12_goesPlans_25 : decode cX12_goesPlans 25 = .ok (.if_icmp .eq 24, 3) := by decide +kernel
theorem dX12_goesPlans_28 : decode cX12_goesPlans 28 = .ok (.aload_n 0, 1) := by decide +kernel
theorem dX12_goesPlans_29 : decode cX12_goesPlans 29 = .ok (.iload_n 1, 1) := by decide +kernel
theorem dX12_goesPlans_30 : decode cX12_goesPlans 30 = .ok (.iload_n 2, 1) := by decide +kernel
theorem dX12_goesPlans_31 : decode cX12_goesPlans 31 = .ok (.iconst 1, 1) := by decide +kernel
theorem dX12_goesPlans_32 : decode cX12_goesPlans 32 = .ok (.iadd, 1) := by decide +kernel
theorem dX12_goesPlans_33 : decode cX12_goesPlans 33 = .ok (.iload_n 3, 1) := by decide +kernel
theorem dX12_goesPlans_34 : decode cX12_goesPlans 34 = .ok (.aload_n 0, 1) := by decide +kernel
theorem dX12_goesPlans_35 : decode cX12_goesPlans 35 = .ok (.getfield 45, 3) := by decide +kernel
theorem dX12_goesPlans_38 : decode cX12_goesPlans 38 = .ok (.iload_n 2, 1) := by decide +kernel
theorem dX12_goesPlans_39 : decode cX12_goesPlans 39 = .ok (.iaload, 1) := by decide +kernel
theorem dX12_goesPlans_40 : decode cX12_goesPlans 40 = .ok (.ior, 1) := by decide +kernel
theorem dX12_goesPlans_41 : decode cX12_goesPlans 41 = .ok (.iload 4, 2) := by decide +kernel
theorem dX12_goesPlans_43 : decode cX12_goesPlans 43 = .ok (.invokevirtual 396, 3) := by decide +kernel
theorem dX12_goesPlans_46 : decode cX12_goesPlans 46 = .ok (.goto 87, 3) := by decide +kernel
theorem dX12_goesPlans_49 : decode cX12_goesPlans 49 = .ok (.iload_n 2, 1) := by decide +kernel
theorem dX12_goesPlans_50 : decode cX12_goesPlans 50 = .ok (.aload_n 0, 1) := by decide +kernel
theorem dX12_goesPlans_51 : decode cX12_goesPlans 51 = .ok (.getfield 13, 3) := by decide +kernel
theorem dX12_goesPlans_54 : decode cX12_goesPlans 54 = .ok (.iconst 1, 1) := by decide +kernel
theorem dX12_goesPlans_55 : decode cX12_goesPlans 55 = .ok (.iaload, 1) := by decide +kernel
theorem dX12_goesPlans_56 : decode cX12_goesPlans 56 = .ok (.if_icmp .ge 53, 3) := by decide +kernel
theorem dX12_goesPlans_59 : decode cX12_goesPlans 59 = .ok (.iconst 0, 1) := by decide +kernel
theorem dX12_goesPlans_60 : decode cX12_goesPlans 60 = .ok (.istore 5, 2) := by decide +kernel
theorem dX12_goesPlans_62 : decode cX12_goesPlans 62 = .ok (.iload 5, 2) := by decide +kernel
theorem dX12_goesPlans_64 : decode cX12_goesPlans 64 = .ok (.bipush 24, 2) := by decide +kernel
theorem dX12_goesPlans_66 : decode cX12_goesPlans 66 = .ok (.if_icmp .ge 40, 3) := by decide +kernel
theorem dX12_goesPlans_69 : decode cX12_goesPlans 69 = .ok (.aload_n 0, 1) := by decide +kernel
theorem dX12_goesPlans_70 : decode cX12_goesPlans 70 = .ok (.getfield 45, 3) := by decide +kernel
theorem dX12_goesPlans_73 : decode cX12_goesPlans 73 = .ok (.iload_n 2, 1) := by decide +kernel
theorem dX12_goesPlans_74 : decode cX12_goesPlans 74 = .ok (.iaload, 1) := by decide +kernel
theorem dX12_goesPlans_75 : decode cX12_goesPlans 75 = .ok (.i2l, 1) := by decide +kernel
theorem dX12_goesPlans_76 : decode cX12_goesPlans 76 = .ok (.iload 5, 2) := by decide +kernel
theorem dX12_goesPlans_78 : decode cX12_goesPlans 78 = .ok (.invokestatic 228, 3) := by decide +kernel
theorem dX12_goesPlans_81 : decode cX12_goesPlans 81 = .ok (.ifCond .eq 19, 3) := by decide +kernel
theorem dX12_goesPlans_84 : decode cX12_goesPlans 84 = .ok (.aload_n 0, 1) := by decide +kernel
theorem dX12_goesPlans_85 : decode cX12_goesPlans 85 = .ok (.iload_n 1, 1) := by decide +kernel
theorem dX12_goesPlans_86 : decode cX12_goesPlans 86 = .ok (.iload_n 2, 1) := by decide +kernel
theorem dX12_goesPlans_87 : decode cX12_goesPlans 87 = .ok (.iconst 1, 1) := by decide +kernel
theorem dX12_goesPlans_88 : decode cX12_goesPlans 88 = .ok (.iadd, 1) := by decide +kernel
theorem dX12_goesPlans_89 : decode cX12_goesPlans 89 = .ok (.iload_n 3, 1) := by decide +kernel
theorem dX12_goesPlans_90 : decode cX12_goesPlans 90 = .ok (.iconst 1, 1) := by decide +kernel
theorem dX12_goesPlans_91 : decode cX12_goesPlans 91 = .ok (.iload 5, 2) := by decide +kernel
theorem dX12_goesPlans_93 : decode cX12_goesPlans 93 = .ok (.ishl, 1) := by decide +kernel
theorem dX12_goesPlans_94 : decode cX12_goesPlans 94 = .ok (.ior, 1) := by decide +kernel
theorem dX12_goesPlans_95 : decode cX12_goesPlans 95 = .ok (.iload 4, 2) := by decide +kernel
theorem dX12_goesPlans_97 : decode cX12_goesPlans 97 = .ok (.invokevirtual 396, 3) := by decide +kernel
theorem dX12_goesPlans_100 : decode cX12_goesPlans 100 = .ok (.iinc 5 1, 3) := by decide +kernel
theorem dX12_goesPlans_103 : decode cX12_goesPlans 103 = .ok (.goto (-41), 3) := by decide +kernel
theorem dX12_goesPlans_106 : decode cX12_goesPlans 106 = .ok (.goto 27, 3) := by decide +kernel
theorem dX12_goesPlans_109 : decode cX12_goesPlans 109 = .ok (.aload_n 0, 1) := by decide +kernel
theorem dX12_goesPlans_110 : decode cX12_goesPlans 110 = .ok (.iload_n 1, 1) := by decide +kernel
theorem dX12_goesPlans_111 : decode cX12_goesPlans 111 = .ok (.iload_n 3, 1) := by decide +kernel
theorem dX12_goesPlans_112 : decode cX12_goesPlans 112 = .ok (.invokevirtual 400, 3) := by decide +kernel
theorem dX12_goesPlans_115 : decode cX12_goesPlans 115 = .ok (.iload 4, 2) := by decide +kernel
theorem dX12_goesPlans_117 : decode cX12_goesPlans 117 = .ok (.ifCond .ne 10, 3) := by decide +kernel
theorem dX12_goesPlans_120 : decode cX12_goesPlans 120 = .ok (.aload_n 0, 1) := by decide +kernel
theorem dX12_goesPlans_121 : decode cX12_goesPlans 121 = .ok (.invokevirtual 403, 3) := by decide +kernel
theorem dX12_goesPlans_124 : decode cX12_goesPlans 124 = .ok (.goto 9, 3) := by decide +kernel
theorem dX12_goesPlans_127 : decode cX12_goesPlans 127 = .ok (.aload_n 0, 1) := by decide +kernel
theorem dX12_goesPlans_128 : decode cX12_goesPlans 128 = .ok (.iload_n 1, 1) := by decide +kernel
theorem dX12_goesPlans_129 : decode cX12_goesPlans 129 = .ok (.iload_n 3, 1) := by decide +kernel
theorem dX12_goesPlans_130 : decode cX12_goesPlans 130 = .ok (.invokevirtual 406, 3) := by decide +kernel
theorem dX12_goesPlans_133 : decode cX12_goesPlans 133 = .ok (.return_, 1) := by decide +kernel
theorem ml_X12_400 : Cond.methodLink RX12 400 yX12_laysSecured ∈ Wd := mW 1761 (by decide +kernel) rfl
theorem mk_X12_laysSecured : MokV yX12_laysSecured cX12_laysSecured 4 none 2 := ⟨⟨mW 14 (by decide +kernel) rfl, mW 1764 (by decide +kernel) rfl, ⟨by decide, by decide, by decide +kernel⟩, by decide⟩, mW 1763 (by decide +kernel) rfl, mS (q := (yX12_laysSecured, 46)) 89 (by decide +kernel)⟩
theorem ml_X12_406 : Cond.methodLink RX12 406 yX12_counts ∈ Wd := mW 1781 (by decide +kernel) rfl
theorem mk_X12_counts : MokV yX12_counts cX12_counts 6 none 2 := ⟨⟨mW 14 (by decide +kernel) rfl, mW 1784 (by decide +kernel) rfl, ⟨by decide, by decide, by decide +kernel⟩, by decide⟩, mW 1783 (by decide +kernel) rfl, mS (q := (yX12_counts, 46)) 94 (by decide +kernel)⟩
theorem ml_X12_403 : Cond.methodLink RX12 403 yX12_gathers ∈ Wd := mW 1777 (by decide +kernel) rfl
theorem mk_X12_gathers : MokV yX12_gathers cX12_gathers 2 none 0 := ⟨⟨mW 14 (by decide +kernel) rfl, mW 1780 (by decide +kernel) rfl, ⟨by decide, by decide, by decide +kernel⟩, by decide⟩, mW 1779 (by decide +kernel) rfl, mS (q := (yX12_gathers, 46)) 93 (by decide +kernel)⟩
theorem ml_X12_396 : Cond.methodLink RX12 396 yX12_goesPlans ∈ Wd := mW 1757 (by decide +kernel) rfl
theorem mk_X12_goesPlans : MokV yX12_goesPlans cX12_goesPlans 6 none 4 := ⟨⟨mW 14 (by decide +kernel) rfl, mW 1760 (by decide +kernel) rfl, ⟨by decide, by decide, by decide +kernel⟩, by decide⟩, mW 1759 (by decide +kernel) rfl, mS (q := (yX12_goesPlans, 46)) 88 (by decide +kernel)⟩
def M_goesPlans_L62 (x1 : Int32) (x2 : Int32) (x3 : Int32) (x4 : Int32) (R_goesPlans : Int32 → Int32 → Int32 → Int32 → Hp → (Hp → Prop) → Prop) (Q : Hp → Prop) : Nat → Int32 → Hp → Prop
  | 0, _, _ => False
  | n + 1, x5, h => (24 ≤ x5 → Q h) ∧ (¬ 24 ≤ x5 → vp_in x2 8 ∧ M_isIn (((gI h 108 (x2).toNatClampNeg)).toInt64) x5 h (fun r5 h6 => ∀ J100 : Hp → Prop, J100 = (fun h7 => ∀ v8 : Int32, v8 = (x5 + 1) → M_goesPlans_L62 x1 x2 x3 x4 R_goesPlans Q n v8 h7) → (r5 = 0 → J100 h6) ∧ (¬ r5 = 0 → R_goesPlans x1 (x2 + 1) (x3 ||| ((1 : Int32) <<< (x5 &&& 31))) x4 h6 (fun h9 => J100 h9))))
set_option maxHeartbeats 4000000 in
set_option maxRecDepth 20000 in
theorem gl_M_goesPlans_L62 {G : Gx}  {d d1 : Nat} (hdd : d1 + 1 ≤ d) (hD : 4 ≤ d) {R_goesPlans : Int32 → Int32 → Int32 → Int32 → Hp → (Hp → Prop) → Prop} (hR_goesPlans : ∀ (y0 : Int32) (y1 : Int32) (y2 : Int32) (y3 : Int32) (h : Hp) (Q : Hp → Prop), R_goesPlans y0 y1 y2 y3 h Q → Ct yX12_goesPlans cX12_goesPlans 6 none d1 G [.ref (gAd G 98), .int y0, .int y1, .int y2, .int y3] h (QV G Q)) {x1 : Int32} {x2 : Int32} {x3 : Int32} {x4 : Int32} {Q : Hp → Prop} : ∀ (n : Nat) (x5 : Int32) (h : Hp), M_goesPlans_L62 x1 x2 x3 x4 R_goesPlans Q n x5 h → Go cX12_goesPlans 6 RX12 none d G (QV G Q) 62 [(0, .ref (gAd G 98)), (1, .int x1), (2, .int x2), (3, .int x3), (4, .int x4), (5, .int x5)] [] h := by
  intro n
  induction n with
  | zero => intro _ h hw; exact False.elim hw
  | succ n ih =>
    intro x5 h hw
    refine g_iload dX12_goesPlans_62 rfl ?_
    refine g_bipush (v := 24) dX12_goesPlans_64 (by decide) ?_
    refine g_icmp_ge 106 dX12_goesPlans_66 rfl (fun hc => ?_) (fun hc => ?_)
    · have hw := hw.1 hc
      refine g_goto 133 dX12_goesPlans_106 rfl ?_
      exact g_vret dX12_goesPlans_133 hw
    · have hw := hw.2 hc
      refine g_aload_n dX12_goesPlans_69 rfl rfl ?_
      refine g_getA dX12_goesPlans_70 fl_X12_45 sh98 rfl ?_
      refine g_iload_n dX12_goesPlans_73 rfl rfl ?_
      refine g_iald dX12_goesPlans_74 ia108 al108 hw.1 ?_
      have hw := hw.2
      refine g_i2l dX12_goesPlans_75 ?_
      refine g_iload dX12_goesPlans_76 rfl ?_
      refine g_callSI [.long (((gI h 108 (x2).toNatClampNeg)).toInt64), .int x5] dX12_goesPlans_78 ml_X12_228 mk_X12_isIn rfl (by omega) (Nat.le_of_ble_eq_true rfl) rfl (c_M_isIn hw) (fun r5 h6 hw => ?_)
      refine jn_el hw (fun J100 eJ100 hw => ?_)
      have hJ100 : ∀ (h7 : Hp), J100 h7 → Go cX12_goesPlans 6 RX12 none d G (QV G Q) 100 [(0, .ref (gAd G 98)), (1, .int x1), (2, .int x2), (3, .int x3), (4, .int x4), (5, .int x5)] [] h7 := by
        intro h7 hw
        subst eJ100
        obtain ⟨v8, ev8⟩ : ∃ y : Int32, y = (x5 + 1) := ⟨_, rfl⟩
        have hw := hw v8 ev8
        refine g_iinc dX12_goesPlans_100 rfl (by rw [ev8]; rfl) (by decide) (lv1 := [(0, .ref (gAd G 98)), (1, .int x1), (2, .int x2), (3, .int x3), (4, .int x4), (5, .int v8)]) rfl ?_
        refine g_goto 62 dX12_goesPlans_103 rfl ?_
        exact ih _ _ hw
      refine g_if_eq 100 dX12_goesPlans_81 rfl (fun hc => ?_) (fun hc => ?_)
      · have hw := hw.1 hc
        exact hJ100 _ hw
      · have hw := hw.2 hc
        refine g_aload_n dX12_goesPlans_84 rfl rfl ?_
        refine g_iload_n dX12_goesPlans_85 rfl rfl ?_
        refine g_iload_n dX12_goesPlans_86 rfl rfl ?_
        refine g_iconst (v := 1) dX12_goesPlans_87 (by decide) ?_
        refine g_iadd dX12_goesPlans_88 ?_
        refine g_iload_n dX12_goesPlans_89 rfl rfl ?_
        refine g_iconst (v := 1) dX12_goesPlans_90 (by decide) ?_
        refine g_iload dX12_goesPlans_91 rfl ?_
        refine g_ishl dX12_goesPlans_93 ?_
        refine g_ior dX12_goesPlans_94 ?_
        refine g_iload dX12_goesPlans_95 rfl ?_
        refine g_callVV [.int x1, .int (x2 + 1), .int (x3 ||| ((1 : Int32) <<< (x5 &&& 31))), .int x4] (ci := 12) dX12_goesPlans_97 ml_X12_396 mk_X12_goesPlans rfl rfl sh98 hdd (Nat.le_of_ble_eq_true rfl) rfl (hR_goesPlans _ _ _ _ _ _ hw) (fun h9 hw => ?_)
        exact hJ100 _ hw
def M_goesPlans_B  (R_goesPlans : Int32 → Int32 → Int32 → Int32 → Hp → (Hp → Prop) → Prop) (x1 : Int32) (x2 : Int32) (x3 : Int32) (x4 : Int32) (h : Hp) (Q : Hp → Prop) : Prop := ∀ J49 : Hp → Prop, J49 = (fun h1 => ((gI h1 99 1) ≤ x2 → M_laysSecured x1 x3 h1 (fun h2 => (¬ x4 = 0 → M_counts x1 x3 h2 (fun h3 => Q h3)) ∧ (x4 = 0 → M_gathers  h2 (fun h4 => Q h4)))) ∧ (¬ (gI h1 99 1) ≤ x2 → ∃ n10, M_goesPlans_L62 x1 x2 x3 x4 R_goesPlans Q n10 0 h1)) → ((gI h 99 1) ≤ x2 → J49 h) ∧ (¬ (gI h 99 1) ≤ x2 → M_isMine x2 h (fun r11 h12 => ∀ J25 : Int32 → Hp → Prop, J25 = (fun s13 h14 => (r11 = s13 → J49 h14) ∧ (¬ r11 = s13 → vp_in x2 8 ∧ R_goesPlans x1 (x2 + 1) (x3 ||| (gI h14 108 (x2).toNatClampNeg)) x4 h14 (fun h15 => Q h15))) → (¬ x1 = 1 → J25 0 h12) ∧ (x1 = 1 → J25 1 h12)))
set_option maxHeartbeats 4000000 in
set_option maxRecDepth 20000 in
theorem cb_M_goesPlans {G : Gx}  {d d1 : Nat} (hdd : d1 + 1 ≤ d) (hD : 4 ≤ d) {R_goesPlans : Int32 → Int32 → Int32 → Int32 → Hp → (Hp → Prop) → Prop} (hR_goesPlans : ∀ (y0 : Int32) (y1 : Int32) (y2 : Int32) (y3 : Int32) (h : Hp) (Q : Hp → Prop), R_goesPlans y0 y1 y2 y3 h Q → Ct yX12_goesPlans cX12_goesPlans 6 none d1 G [.ref (gAd G 98), .int y0, .int y1, .int y2, .int y3] h (QV G Q)) {x1 : Int32} {x2 : Int32} {x3 : Int32} {x4 : Int32} {h : Hp} {Q : Hp → Prop} (hw : M_goesPlans_B  R_goesPlans x1 x2 x3 x4 h Q) : Ct yX12_goesPlans cX12_goesPlans 6 none d G [.ref (gAd G 98), .int x1, .int x2, .int x3, .int x4] h (QV G Q) := by
  refine ct_go [(0, .ref (gAd G 98)), (1, .int x1), (2, .int x2), (3, .int x3), (4, .int x4)] (plainFor_of_name (by decide)) rfl (Nat.le_of_ble_eq_true rfl) rfl ?_
  refine g_iload_n dX12_goesPlans_0 rfl rfl ?_
  refine g_aload_n dX12_goesPlans_1 rfl rfl ?_
  refine g_getA dX12_goesPlans_2 fl_X12_13 sh98 rfl ?_
  refine g_iconst (v := 1) dX12_goesPlans_5 (by decide) ?_
  refine g_ialdK dX12_goesPlans_6 ia99 al99 (by unfold vp_in; decide) (k := 1) (by decide) ?_
  refine jn_el hw (fun J49 eJ49 hw => ?_)
  have hJ49 : ∀ (h1 : Hp), J49 h1 → Go cX12_goesPlans 6 RX12 none d G (QV G Q) 49 [(0, .ref (gAd G 98)), (1, .int x1), (2, .int x2), (3, .int x3), (4, .int x4)] [] h1 := by
    intro h1 hw
    subst eJ49
    refine g_iload_n dX12_goesPlans_49 rfl rfl ?_
    refine g_aload_n dX12_goesPlans_50 rfl rfl ?_
    refine g_getA dX12_goesPlans_51 fl_X12_13 sh98 rfl ?_
    refine g_iconst (v := 1) dX12_goesPlans_54 (by decide) ?_
    refine g_ialdK dX12_goesPlans_55 ia99 al99 (by unfold vp_in; decide) (k := 1) (by decide) ?_
    refine g_icmp_ge 109 dX12_goesPlans_56 rfl (fun hc => ?_) (fun hc => ?_)
    · have hw := hw.1 hc
      refine g_aload_n dX12_goesPlans_109 rfl rfl ?_
      refine g_iload_n dX12_goesPlans_110 rfl rfl ?_
      refine g_iload_n dX12_goesPlans_111 rfl rfl ?_
      refine g_callVV [.int x1, .int x3] (ci := 12) dX12_goesPlans_112 ml_X12_400 mk_X12_laysSecured rfl rfl sh98 (by omega) (Nat.le_of_ble_eq_true rfl) rfl (c_M_laysSecured hw) (fun h2 hw => ?_)
      refine g_iload dX12_goesPlans_115 rfl ?_
      refine g_if_ne 127 dX12_goesPlans_117 rfl (fun hc => ?_) (fun hc => ?_)
      · have hw := hw.1 hc
        refine g_aload_n dX12_goesPlans_127 rfl rfl ?_
        refine g_iload_n dX12_goesPlans_128 rfl rfl ?_
        refine g_iload_n dX12_goesPlans_129 rfl rfl ?_
        refine g_callVV [.int x1, .int x3] (ci := 12) dX12_goesPlans_130 ml_X12_406 mk_X12_counts rfl rfl sh98 (by omega) (Nat.le_of_ble_eq_true rfl) rfl (c_M_counts hw) (fun h3 hw => ?_)
        exact g_vret dX12_goesPlans_133 hw
      · have hw := hw.2 hc
        refine g_aload_n dX12_goesPlans_120 rfl rfl ?_
        refine g_callVV [] (ci := 12) dX12_goesPlans_121 ml_X12_403 mk_X12_gathers rfl rfl sh98 (by omega) (Nat.le_of_ble_eq_true rfl) rfl (c_M_gathers hw) (fun h4 hw => ?_)
        refine g_goto 133 dX12_goesPlans_124 rfl ?_
        exact g_vret dX12_goesPlans_133 hw
    · have hw := hw.2 hc
      refine g_iconst (v := 0) dX12_goesPlans_59 (by decide) ?_
      refine g_istore dX12_goesPlans_60 (by decide) (lv1 := [(0, .ref (gAd G 98)), (1, .int x1), (2, .int x2), (3, .int x3), (4, .int x4), (5, .int 0)]) rfl ?_
      obtain ⟨n10, hw⟩ := hw
      refine gl_M_goesPlans_L62  hdd hD hR_goesPlans  _ _ _ hw
  refine g_icmp_ge 49 dX12_goesPlans_7 rfl (fun hc => ?_) (fun hc => ?_)
  · have hw := hw.1 hc
    exact hJ49 _ hw
  · have hw := hw.2 hc
    refine g_aload_n dX12_goesPlans_10 rfl rfl ?_
    refine g_iload_n dX12_goesPlans_11 rfl rfl ?_
    refine g_callVI [.int x2] (ci := 12) dX12_goesPlans_12 ml_X12_263 mk_X12_isMine rfl rfl sh98 (by omega) (Nat.le_of_ble_eq_true rfl) rfl (c_M_isMine hw) (fun r11 h12 hw => ?_)
    refine g_iload_n dX12_goesPlans_15 rfl rfl ?_
    refine g_iconst (v := 1) dX12_goesPlans_16 (by decide) ?_
    refine jn_el hw (fun J25 eJ25 hw => ?_)
    have hJ25 : ∀ (s13 : Int32) (h14 : Hp), J25 s13 h14 → Go cX12_goesPlans 6 RX12 none d G (QV G Q) 25 [(0, .ref (gAd G 98)), (1, .int x1), (2, .int x2), (3, .int x3), (4, .int x4)] [.int s13, .int r11] h14 := by
      intro s13 h14 hw
      subst eJ25
      refine g_icmp_eq 49 dX12_goesPlans_25 rfl (fun hc => ?_) (fun hc => ?_)
      · have hw := hw.1 hc
        exact hJ49 _ hw
      · have hw := hw.2 hc
        refine g_aload_n dX12_goesPlans_28 rfl rfl ?_
        refine g_iload_n dX12_goesPlans_29 rfl rfl ?_
        refine g_iload_n dX12_goesPlans_30 rfl rfl ?_
        refine g_iconst (v := 1) dX12_goesPlans_31 (by decide) ?_
        refine g_iadd dX12_goesPlans_32 ?_
        refine g_iload_n dX12_goesPlans_33 rfl rfl ?_
        refine g_aload_n dX12_goesPlans_34 rfl rfl ?_
        refine g_getA dX12_goesPlans_35 fl_X12_45 sh98 rfl ?_
        refine g_iload_n dX12_goesPlans_38 rfl rfl ?_
        refine g_iald dX12_goesPlans_39 ia108 al108 hw.1 ?_
        have hw := hw.2
        refine g_ior dX12_goesPlans_40 ?_
        refine g_iload dX12_goesPlans_41 rfl ?_
        refine g_callVV [.int x1, .int (x2 + 1), .int (x3 ||| (gI h14 108 (x2).toNatClampNeg)), .int x4] (ci := 12) dX12_goesPlans_43 ml_X12_396 mk_X12_goesPlans rfl rfl sh98 hdd (Nat.le_of_ble_eq_true rfl) rfl (hR_goesPlans _ _ _ _ _ _ hw) (fun h15 hw => ?_)
        refine g_goto 133 dX12_goesPlans_46 rfl ?_
        exact g_vret dX12_goesPlans_133 hw
    refine g_icmp_ne 24 dX12_goesPlans_17 rfl (fun hc => ?_) (fun hc => ?_)
    · have hw := hw.1 hc
      refine g_iconst (v := 0) dX12_goesPlans_24 (by decide) ?_
      exact hJ25 _ _ hw
    · have hw := hw.2 hc
      refine g_iconst (v := 1) dX12_goesPlans_20 (by decide) ?_
      refine g_goto 25 dX12_goesPlans_21 rfl ?_
      exact hJ25 _ _ hw
def M_goesPlans  : Nat → Int32 → Int32 → Int32 → Int32 → Hp → (Hp → Prop) → Prop
  | 0, _, _, _, _, _, _ => False
  | n + 1, x1, x2, x3, x4, h, Q => M_goesPlans_B  (M_goesPlans  n) x1 x2 x3 x4 h Q
theorem cn_M_goesPlans {G : Gx}  : ∀ (n : Nat) (x1 : Int32) (x2 : Int32) (x3 : Int32) (x4 : Int32) (h : Hp) (Q : Hp → Prop), M_goesPlans  n x1 x2 x3 x4 h Q → Ct yX12_goesPlans cX12_goesPlans 6 none (4 + n) G [.ref (gAd G 98), .int x1, .int x2, .int x3, .int x4] h (QV G Q) := by
  intro n
  induction n with
  | zero => intro _ _ _ _ _ _ hw; exact False.elim hw
  | succ n ih =>
    intro x1 x2 x3 x4 h Q hw
    exact cb_M_goesPlans  (d := 4 + (n + 1)) (d1 := 4 + n) (by omega) (by omega) ih hw
theorem c_M_goesPlans {G : Gx}  {x1 : Int32} {x2 : Int32} {x3 : Int32} {x4 : Int32} {h : Hp} {Q : Hp → Prop} (hw : M_goesPlans  10 x1 x2 x3 x4 h Q) : Ct yX12_goesPlans cX12_goesPlans 6 none 14 G [.ref (gAd G 98), .int x1, .int x2, .int x3, .int x4] h (QV G Q) := cn_M_goesPlans  10 _ _ _ _ _ _ hw
theorem dX12_laysGame_0 : decode cX12_laysGame 0 = .ok (.aload_n 0, 1) := by decide +kernel
theorem dX12_laysGame_1 : decode cX12_laysGame 1 = .ok (.invokevirtual 379, 3) := by decide +kernel
theorem dX12_laysGame_4 : decode cX12_laysGame 4 = .ok (.iconst 0, 1) := by decide +kernel
theorem dX12_laysGame_5 : decode cX12_laysGame 5 = .ok (.istore_n 1, 1) := by decide +kernel
theorem dX12_laysGame_6 : decode cX12_laysGame 6 = .ok (.iload_n 1, 1) := by decide +kernel
theorem dX12_laysGame_7 : decode cX12_laysGame 7 = .ok (.bipush 8, 2) := by decide +kernel
theorem dX12_laysGame_9 : decode cX12_laysGame 9 = .ok (.if_icmp .ge 16, 3) := by decide +kernel
theorem dX12_laysGame_12 : decode cX12_laysGame 12 = .ok (.aload_n 0, 1) := by decide +kernel
theorem dX12_laysGame_13 : decode cX12_laysGame 13 = .ok (.getfield 66, 3) := by decide +kernel
theorem dX12_laysGame_16 : decode cX12_laysGame 16 = .ok (.iload_n 1, 1) := by decide +kernel
theorem dX12_laysGame_17 : decode cX12_laysGame 17 = .ok (.iconst (-1), 1) := by decide +kernel
theorem dX12_laysGame_18 : decode cX12_laysGame 18 = .ok (.iastore, 1) := by decide +kernel
theorem dX12_laysGame_19 : decode cX12_laysGame 19 = .ok (.iinc 1 1, 3) := by decide +kernel
theorem dX12_laysGame_22 : decode cX12_laysGame 22 = .ok (.goto (-16), 3) := by decide +kernel
theorem dX12_laysGame_25 : decode cX12_laysGame 25 = .ok (.iconst 0, 1) := by decide +kernel
theorem dX12_laysGame_26 : decode cX12_laysGame 26 = .ok (.istore_n 1, 1) := by decide +kernel
theorem dX12_laysGame_27 : decode cX12_laysGame 27 = .ok (.iload_n 1, 1) := by decide +kernel
theorem dX12_laysGame_28 : decode cX12_laysGame 28 = .ok (.bipush 16, 2) := by decide +kernel
theorem dX12_laysGame_30 : decode cX12_laysGame 30 = .ok (.if_icmp .ge 16, 3) := by decide +kernel
theorem dX12_laysGame_33 : decode cX12_laysGame 33 = .ok (.aload_n 0, 1) := by decide +kernel
theorem dX12_laysGame_34 : decode cX12_laysGame 34 = .ok (.getfield 69, 3) := by decide +kernel
theorem dX12_laysGame_37 : decode cX12_laysGame 37 = .ok (.iload_n 1, 1) := by decide +kernel
theorem dX12_laysGame_38 : decode cX12_laysGame 38 = .ok (.iconst 0, 1) := by decide +kernel
theorem dX12_laysGame_39 : decode cX12_laysGame 39 = .ok (.iastore, 1) := by decide +kernel
theorem dX12_laysGame_40 : decode cX12_laysGame 40 = .ok (.iinc 1 1, 3) := by decide +kernel
theorem dX12_laysGame_43 : decode cX12_laysGame 43 = .ok (.goto (-16), 3) := by decide +kernel
theorem dX12_laysGame_46 : decode cX12_laysGame 46 = .ok (.aload_n 0, 1) := by decide +kernel
theorem dX12_laysGame_47 : decode cX12_laysGame 47 = .ok (.iconst 1, 1) := by decide +kernel
theorem dX12_laysGame_48 : decode cX12_laysGame 48 = .ok (.iconst 0, 1) := by decide +kernel
theorem dX12_laysGame_49 : decode cX12_laysGame 49 = .ok (.iconst 0, 1) := by decide +kernel
theorem dX12_laysGame_50 : decode cX12_laysGame 50 = .ok (.iconst 0, 1) := by decide +kernel
theorem dX12_laysGame_51 : decode cX12_laysGame 51 = .ok (.invokevirtual 396, 3) := by decide +kernel
theorem dX12_laysGame_54 : decode cX12_laysGame 54 = .ok (.iconst 0, 1) := by decide +kernel
theorem dX12_laysGame_55 : decode cX12_laysGame 55 = .ok (.istore_n 1, 1) := by decide +kernel
theorem dX12_laysGame_56 : decode cX12_laysGame 56 = .ok (.iload_n 1, 1) := by decide +kernel
theorem dX12_laysGame_57 : decode cX12_laysGame 57 = .ok (.iconst 2, 1) := by decide +kernel
theorem dX12_laysGame_58 : decode cX12_laysGame 58 = .ok (.if_icmp .ge 24, 3) := by decide +kernel
theorem dX12_laysGame_61 : decode cX12_laysGame 61 = .ok (.aload_n 0, 1) := by decide +kernel
theorem dX12_laysGame_62 : decode cX12_laysGame 62 = .ok (.getfield 63, 3) := by decide +kernel
theorem dX12_laysGame_65 : decode cX12_laysGame 65 = .ok (.iload_n 1, 1) := by decide +kernel
theorem dX12_laysGame_66 : decode cX12_laysGame 66 = .ok (.iconst 0, 1) := by decide +kernel
theorem dX12_laysGame_67 : decode cX12_laysGame 67 = .ok (.iastore, 1) := by decide +kernel
theorem dX12_laysGame_68 : decode cX12_laysGame 68 = .ok (.aload_n 0, 1) := by decide +kernel
theorem dX12_laysGame_69 : decode cX12_laysGame 69 = .ok (.iload_n 1, 1) := by decide +kernel
theorem dX12_laysGame_70 : decode cX12_laysGame 70 = .ok (.iconst 0, 1) := by decide +kernel
theorem dX12_laysGame_71 : decode cX12_laysGame 71 = .ok (.iconst 0, 1) := by decide +kernel
theorem dX12_laysGame_72 : decode cX12_laysGame 72 = .ok (.iconst 1, 1) := by decide +kernel
theorem dX12_laysGame_73 : decode cX12_laysGame 73 = .ok (.invokevirtual 396, 3) := by decide +kernel
theorem dX12_laysGame_76 : decode cX12_laysGame 76 = .ok (.iinc 1 1, 3) := by decide +kernel
theorem dX12_laysGame_79 : decode cX12_laysGame 79 = .ok (.goto (-23), 3) := by decide +kernel
theorem dX12_laysGame_82 : decode cX12_laysGame 82 = .ok (.return_, 1) := by decide +kernel
theorem ml_X12_379 : Cond.methodLink RX12 379 yX12_laysRings ∈ Wd := mW 1749 (by decide +kernel) rfl
theorem mk_X12_laysRings : MokV yX12_laysRings cX12_laysRings 2 none 0 := ⟨⟨mW 14 (by decide +kernel) rfl, mW 1752 (by decide +kernel) rfl, ⟨by decide, by decide, by decide +kernel⟩, by decide⟩, mW 1751 (by decide +kernel) rfl, mS (q := (yX12_laysRings, 46)) 86 (by decide +kernel)⟩
def M_laysGame_L6 (K25 : Hp → Prop) : Nat → Int32 → Hp → Prop
  | 0, _, _ => False
  | n + 1, x1, h => (8 ≤ x1 → K25 h) ∧ (¬ 8 ≤ x1 → vp_in x1 8 ∧ ∀ h2 : Hp, h2 = sI h 115 (x1).toNatClampNeg (-1) → ∀ v3 : Int32, v3 = (x1 + 1) → M_laysGame_L6 K25 n v3 h2)
set_option maxHeartbeats 4000000 in
set_option maxRecDepth 20000 in
theorem gl_M_laysGame_L6 {G : Gx}  {Q : Hp → Prop} {K25 : Hp → Prop} (hK25 : ∀  (h1 : Hp), K25  h1 → Go cX12_laysGame 2 RX12 none 15 G (QV G Q) 25 [(0, .ref (gAd G 98))] [] h1) : ∀ (n : Nat) (x1 : Int32) (h : Hp), M_laysGame_L6 K25 n x1 h → Go cX12_laysGame 2 RX12 none 15 G (QV G Q) 6 [(0, .ref (gAd G 98)), (1, .int x1)] [] h := by
  intro n
  induction n with
  | zero => intro _ h hw; exact False.elim hw
  | succ n ih =>
    intro x1 h hw
    refine g_iload_n dX12_laysGame_6 rfl rfl ?_
    refine g_bipush (v := 8) dX12_laysGame_7 (by decide) ?_
    refine g_icmp_ge 25 dX12_laysGame_9 rfl (fun hc => ?_) (fun hc => ?_)
    · have hw := hw.1 hc
      refine g_lv [0] rfl ?_
      exact hK25 _ hw
    · have hw := hw.2 hc
      refine g_aload_n dX12_laysGame_12 rfl rfl ?_
      refine g_getA dX12_laysGame_13 fl_X12_66 sh98 rfl ?_
      refine g_iload_n dX12_laysGame_16 rfl rfl ?_
      refine g_iconst (v := (-1)) dX12_laysGame_17 (by decide) ?_
      refine g_iast dX12_laysGame_18 ia115 al115 hw.1 ?_
      have hw := hw.2
      refine g_heap (fun h2 eh2 => ?_)
      have hw := hw h2 eh2
      obtain ⟨v3, ev3⟩ : ∃ y : Int32, y = (x1 + 1) := ⟨_, rfl⟩
      have hw := hw v3 ev3
      refine g_iinc dX12_laysGame_19 rfl (by rw [ev3]; rfl) (by decide) (lv1 := [(0, .ref (gAd G 98)), (1, .int v3)]) rfl ?_
      refine g_goto 6 dX12_laysGame_22 rfl ?_
      exact ih _ _ hw
def M_laysGame_L27 (K46 : Hp → Prop) : Nat → Int32 → Hp → Prop
  | 0, _, _ => False
  | n + 1, x1, h => (16 ≤ x1 → K46 h) ∧ (¬ 16 ≤ x1 → vp_in x1 16 ∧ ∀ h6 : Hp, h6 = sI h 116 (x1).toNatClampNeg 0 → ∀ v7 : Int32, v7 = (x1 + 1) → M_laysGame_L27 K46 n v7 h6)
set_option maxHeartbeats 4000000 in
set_option maxRecDepth 20000 in
theorem gl_M_laysGame_L27 {G : Gx}  {Q : Hp → Prop} {K46 : Hp → Prop} (hK46 : ∀  (h1 : Hp), K46  h1 → Go cX12_laysGame 2 RX12 none 15 G (QV G Q) 46 [(0, .ref (gAd G 98))] [] h1) : ∀ (n : Nat) (x1 : Int32) (h : Hp), M_laysGame_L27 K46 n x1 h → Go cX12_laysGame 2 RX12 none 15 G (QV G Q) 27 [(0, .ref (gAd G 98)), (1, .int x1)] [] h := by
  intro n
  induction n with
  | zero => intro _ h hw; exact False.elim hw
  | succ n ih =>
    intro x1 h hw
    refine g_iload_n dX12_laysGame_27 rfl rfl ?_
    refine g_bipush (v := 16) dX12_laysGame_28 (by decide) ?_
    refine g_icmp_ge 46 dX12_laysGame_30 rfl (fun hc => ?_) (fun hc => ?_)
    · have hw := hw.1 hc
      refine g_lv [0] rfl ?_
      exact hK46 _ hw
    · have hw := hw.2 hc
      refine g_aload_n dX12_laysGame_33 rfl rfl ?_
      refine g_getA dX12_laysGame_34 fl_X12_69 sh98 rfl ?_
      refine g_iload_n dX12_laysGame_37 rfl rfl ?_
      refine g_iconst (v := 0) dX12_laysGame_38 (by decide) ?_
      refine g_iast dX12_laysGame_39 ia116 al116 hw.1 ?_
      have hw := hw.2
      refine g_heap (fun h6 eh6 => ?_)
      have hw := hw h6 eh6
      obtain ⟨v7, ev7⟩ : ∃ y : Int32, y = (x1 + 1) := ⟨_, rfl⟩
      have hw := hw v7 ev7
      refine g_iinc dX12_laysGame_40 rfl (by rw [ev7]; rfl) (by decide) (lv1 := [(0, .ref (gAd G 98)), (1, .int v7)]) rfl ?_
      refine g_goto 27 dX12_laysGame_43 rfl ?_
      exact ih _ _ hw
def M_laysGame_L56 (Q : Hp → Prop) : Nat → Int32 → Hp → Prop
  | 0, _, _ => False
  | n + 1, x1, h => (2 ≤ x1 → Q h) ∧ (¬ 2 ≤ x1 → vp_in x1 2 ∧ ∀ h11 : Hp, h11 = sI h 114 (x1).toNatClampNeg 0 → M_goesPlans 10 x1 0 0 1 h11 (fun h12 => ∀ v13 : Int32, v13 = (x1 + 1) → M_laysGame_L56 Q n v13 h12))
set_option maxHeartbeats 4000000 in
set_option maxRecDepth 20000 in
theorem gl_M_laysGame_L56 {G : Gx}  {Q : Hp → Prop} : ∀ (n : Nat) (x1 : Int32) (h : Hp), M_laysGame_L56 Q n x1 h → Go cX12_laysGame 2 RX12 none 15 G (QV G Q) 56 [(0, .ref (gAd G 98)), (1, .int x1)] [] h := by
  intro n
  induction n with
  | zero => intro _ h hw; exact False.elim hw
  | succ n ih =>
    intro x1 h hw
    refine g_iload_n dX12_laysGame_56 rfl rfl ?_
    refine g_iconst (v := 2) dX12_laysGame_57 (by decide) ?_
    refine g_icmp_ge 82 dX12_laysGame_58 rfl (fun hc => ?_) (fun hc => ?_)
    · have hw := hw.1 hc
      exact g_vret dX12_laysGame_82 hw
    · have hw := hw.2 hc
      refine g_aload_n dX12_laysGame_61 rfl rfl ?_
      refine g_getA dX12_laysGame_62 fl_X12_63 sh98 rfl ?_
      refine g_iload_n dX12_laysGame_65 rfl rfl ?_
      refine g_iconst (v := 0) dX12_laysGame_66 (by decide) ?_
      refine g_iast dX12_laysGame_67 ia114 al114 hw.1 ?_
      have hw := hw.2
      refine g_heap (fun h11 eh11 => ?_)
      have hw := hw h11 eh11
      refine g_aload_n dX12_laysGame_68 rfl rfl ?_
      refine g_iload_n dX12_laysGame_69 rfl rfl ?_
      refine g_iconst (v := 0) dX12_laysGame_70 (by decide) ?_
      refine g_iconst (v := 0) dX12_laysGame_71 (by decide) ?_
      refine g_iconst (v := 1) dX12_laysGame_72 (by decide) ?_
      refine g_callVV [.int x1, .int 0, .int 0, .int 1] (ci := 12) dX12_laysGame_73 ml_X12_396 mk_X12_goesPlans rfl rfl sh98 (Nat.le_of_ble_eq_true rfl) (Nat.le_of_ble_eq_true rfl) rfl (c_M_goesPlans hw) (fun h12 hw => ?_)
      obtain ⟨v13, ev13⟩ : ∃ y : Int32, y = (x1 + 1) := ⟨_, rfl⟩
      have hw := hw v13 ev13
      refine g_iinc dX12_laysGame_76 rfl (by rw [ev13]; rfl) (by decide) (lv1 := [(0, .ref (gAd G 98)), (1, .int v13)]) rfl ?_
      refine g_goto 56 dX12_laysGame_79 rfl ?_
      exact ih _ _ hw
def M_laysGame  (h : Hp) (Q : Hp → Prop) : Prop := M_laysRings  h (fun h1 => ∃ n4, M_laysGame_L6 (fun h5 => ∃ n8, M_laysGame_L27 (fun h9 => M_goesPlans 10 1 0 0 0 h9 (fun h10 => ∃ n14, M_laysGame_L56 Q n14 0 h10)) n8 0 h5) n4 0 h1)
set_option maxHeartbeats 4000000 in
set_option maxRecDepth 20000 in
theorem c_M_laysGame {G : Gx}   {h : Hp} {Q : Hp → Prop} (hw : M_laysGame  h Q) : Ct yX12_laysGame cX12_laysGame 2 none 15 G [.ref (gAd G 98)] h (QV G Q) := by
  refine ct_go [(0, .ref (gAd G 98))] (plainFor_of_name (by decide)) rfl (Nat.le_of_ble_eq_true rfl) rfl ?_
  refine g_aload_n dX12_laysGame_0 rfl rfl ?_
  refine g_callVV [] (ci := 12) dX12_laysGame_1 ml_X12_379 mk_X12_laysRings rfl rfl sh98 (Nat.le_of_ble_eq_true rfl) (Nat.le_of_ble_eq_true rfl) rfl (c_M_laysRings hw) (fun h1 hw => ?_)
  refine g_iconst (v := 0) dX12_laysGame_4 (by decide) ?_
  refine g_istore_n dX12_laysGame_5 rfl (by decide) (lv1 := [(0, .ref (gAd G 98)), (1, .int 0)]) rfl ?_
  obtain ⟨n4, hw⟩ := hw
  refine gl_M_laysGame_L6  ?_ _ _ _ hw
  · intro h5 hw
    refine g_iconst (v := 0) dX12_laysGame_25 (by decide) ?_
    refine g_istore_n dX12_laysGame_26 rfl (by decide) (lv1 := [(0, .ref (gAd G 98)), (1, .int 0)]) rfl ?_
    obtain ⟨n8, hw⟩ := hw
    refine gl_M_laysGame_L27  ?_ _ _ _ hw
    · intro h9 hw
      refine g_aload_n dX12_laysGame_46 rfl rfl ?_
      refine g_iconst (v := 1) dX12_laysGame_47 (by decide) ?_
      refine g_iconst (v := 0) dX12_laysGame_48 (by decide) ?_
      refine g_iconst (v := 0) dX12_laysGame_49 (by decide) ?_
      refine g_iconst (v := 0) dX12_laysGame_50 (by decide) ?_
      refine g_callVV [.int 1, .int 0, .int 0, .int 0] (ci := 12) dX12_laysGame_51 ml_X12_396 mk_X12_goesPlans rfl rfl sh98 (Nat.le_of_ble_eq_true rfl) (Nat.le_of_ble_eq_true rfl) rfl (c_M_goesPlans hw) (fun h10 hw => ?_)
      refine g_iconst (v := 0) dX12_laysGame_54 (by decide) ?_
      refine g_istore_n dX12_laysGame_55 rfl (by decide) (lv1 := [(0, .ref (gAd G 98)), (1, .int 0)]) rfl ?_
      obtain ⟨n14, hw⟩ := hw
      refine gl_M_laysGame_L56   _ _ _ hw
theorem dX12_plays_0 : decode cX12_plays 0 = .ok (.aload_n 0, 1) := by decide +kernel
theorem dX12_plays_1 : decode cX12_plays 1 = .ok (.iconst 0, 1) := by decide +kernel
theorem dX12_plays_2 : decode cX12_plays 2 = .ok (.putfield 1, 3) := by decide +kernel
theorem dX12_plays_5 : decode cX12_plays 5 = .ok (.iload_n 1, 1) := by decide +kernel
theorem dX12_plays_6 : decode cX12_plays 6 = .ok (.i2l, 1) := by decide +kernel
theorem dX12_plays_7 : decode cX12_plays 7 = .ok (.lconst 0, 1) := by decide +kernel
theorem dX12_plays_8 : decode cX12_plays 8 = .ok (.lconst 1, 1) := by decide +kernel
theorem dX12_plays_9 : decode cX12_plays 9 = .ok (.invokestatic 169, 3) := by decide +kernel
theorem dX12_plays_12 : decode cX12_plays 12 = .ok (.ifCond .ne 6, 3) := by decide +kernel
theorem dX12_plays_15 : decode cX12_plays 15 = .ok (.bipush (-2), 2) := by decide +kernel
theorem dX12_plays_17 : decode cX12_plays 17 = .ok (.ireturn, 1) := by decide +kernel
theorem dX12_plays_18 : decode cX12_plays 18 = .ok (.aload_n 0, 1) := by decide +kernel
theorem dX12_plays_19 : decode cX12_plays 19 = .ok (.invokevirtual 310, 3) := by decide +kernel
theorem dX12_plays_22 : decode cX12_plays 22 = .ok (.aload_n 0, 1) := by decide +kernel
theorem dX12_plays_23 : decode cX12_plays 23 = .ok (.invokevirtual 288, 3) := by decide +kernel
theorem dX12_plays_26 : decode cX12_plays 26 = .ok (.iconst 0, 1) := by decide +kernel
theorem dX12_plays_27 : decode cX12_plays 27 = .ok (.istore_n 2, 1) := by decide +kernel
theorem dX12_plays_28 : decode cX12_plays 28 = .ok (.iconst 0, 1) := by decide +kernel
theorem dX12_plays_29 : decode cX12_plays 29 = .ok (.istore_n 3, 1) := by decide +kernel
theorem dX12_plays_30 : decode cX12_plays 30 = .ok (.iload_n 3, 1) := by decide +kernel
theorem dX12_plays_31 : decode cX12_plays 31 = .ok (.aload_n 0, 1) := by decide +kernel
theorem dX12_plays_32 : decode cX12_plays 32 = .ok (.getfield 13, 3) := by decide +kernel
theorem dX12_plays_35 : decode cX12_plays 35 = .ok (.iconst 1, 1) := by decide +kernel
theorem dX12_plays_36 : decode cX12_plays 36 = .ok (.iaload, 1) := by decide +kernel
theorem dX12_plays_37 : decode cX12_plays 37 = .ok (.if_icmp .ge 96, 3) := by decide +kernel
theorem dX12_plays_40 : decode cX12_plays 40 = .ok (.aload_n 0, 1) := by decide +kernel
theorem dX12_plays_41 : decode cX12_plays 41 = .ok (.iload_n 3, 1) := by decide +kernel
theorem dX12_plays_42 : decode cX12_plays 42 = .ok (.invokevirtual 263, 3) := by decide +kernel
theorem dX12_plays_45 : decode cX12_plays 45 = .ok (.iload_n 1, 1) := by decide +kernel
theorem dX12_plays_46 : decode cX12_plays 46 = .ok (.iconst 1, 1) := by decide +kernel
theorem dX12_plays_47 : decode cX12_plays 47 = .ok (.if_icmp .ne 7, 3) := by decide +kernel
theorem dX12_plays_50 : decode cX12_plays 50 = .ok (.iconst 1, 1) := by decide +kernel
theorem dX12_plays_51 : decode cX12_plays 51 = .ok (.goto 4, 3) := by decide +kernel
theorem dX12_plays_54 : decode cX12_plays 54 = .ok (.iconst 0, 1) := by decide +kernel
theorem dX12_plays_55 : decode cX12_plays 55 = .ok (.if_icmp .eq 6, 3) := by decide +kernel
theorem dX12_plays_58 : decode cX12_plays 58 = .ok (.goto 69, 3) := by decide +kernel
theorem dX12_plays_61 : decode cX12_plays 61 = .ok (.aload_n 0, 1) := by decide +kernel
theorem dX12_plays_62 : decode cX12_plays 62 = .ok (.getfield 63, 3) := by decide +kernel
theorem dX12_plays_65 : decode cX12_plays 65 = .ok (.iload_n 1, 1) := by decide +kernel
theorem dX12_plays_66 : decode cX12_plays 66 = .ok (.iaload, 1) := by decide +kernel
theorem dX12_plays_67 : decode cX12_plays 67 = .ok (.aload_n 0, 1) := by decide +kernel
theorem dX12_plays_68 : decode cX12_plays 68 = .ok (.getfield 45, 3) := by decide +kernel
theorem dX12_plays_71 : decode cX12_plays 71 = .ok (.iload_n 3, 1) := by decide +kernel
theorem dX12_plays_72 : decode cX12_plays 72 = .ok (.iaload, 1) := by decide +kernel
theorem dX12_plays_73 : decode cX12_plays 73 = .ok (.iand, 1) := by decide +kernel
theorem dX12_plays_74 : decode cX12_plays 74 = .ok (.invokestatic 253, 3) := by decide +kernel
theorem dX12_plays_77 : decode cX12_plays 77 = .ok (.istore 4, 2) := by decide +kernel
theorem dX12_plays_79 : decode cX12_plays 79 = .ok (.iload 4, 2) := by decide +kernel
theorem dX12_plays_81 : decode cX12_plays 81 = .ok (.bipush 16, 2) := by decide +kernel
theorem dX12_plays_83 : decode cX12_plays 83 = .ok (.if_icmp .ge 8, 3) := by decide +kernel
theorem dX12_plays_86 : decode cX12_plays 86 = .ok (.iload 4, 2) := by decide +kernel
theorem dX12_plays_88 : decode cX12_plays 88 = .ok (.goto 4, 3) := by decide +kernel
theorem dX12_plays_91 : decode cX12_plays 91 = .ok (.iconst (-1), 1) := by decide +kernel
theorem dX12_plays_92 : decode cX12_plays 92 = .ok (.istore 5, 2) := by decide +kernel
theorem dX12_plays_94 : decode cX12_plays 94 = .ok (.iload_n 2, 1) := by decide +kernel
theorem dX12_plays_95 : decode cX12_plays 95 = .ok (.iload 5, 2) := by decide +kernel
theorem dX12_plays_97 : decode cX12_plays 97 = .ok (.aload_n 0, 1) := by decide +kernel
theorem dX12_plays_98 : decode cX12_plays 98 = .ok (.getfield 13, 3) := by decide +kernel
theorem dX12_plays_101 : decode cX12_plays 101 = .ok (.bipush 62, 2) := by decide +kernel
theorem dX12_plays_103 : decode cX12_plays 103 = .ok (.iload_n 3, 1) := by decide +kernel
theorem dX12_plays_104 : decode cX12_plays 104 = .ok (.iadd, 1) := by decide +kernel
theorem dX12_plays_105 : decode cX12_plays 105 = .ok (.iaload, 1) := by decide +kernel
theorem dX12_plays_106 : decode cX12_plays 106 = .ok (.if_icmp .eq 7, 3) := by decide +kernel
theorem dX12_plays_109 : decode cX12_plays 109 = .ok (.iconst 1, 1) := by decide +kernel
theorem dX12_plays_110 : decode cX12_plays 110 = .ok (.goto 4, 3) := by decide +kernel
theorem dX12_plays_113 : decode cX12_plays 113 = .ok (.iconst 0, 1) := by decide +kernel
theorem dX12_plays_114 : decode cX12_plays 114 = .ok (.iadd, 1) := by decide +kernel
theorem dX12_plays_115 : decode cX12_plays 115 = .ok (.istore_n 2, 1) := by decide +kernel
theorem dX12_plays_116 : decode cX12_plays 116 = .ok (.aload_n 0, 1) := by decide +kernel
theorem dX12_plays_117 : decode cX12_plays 117 = .ok (.getfield 13, 3) := by decide +kernel
theorem dX12_plays_120 : decode cX12_plays 120 = .ok (.bipush 62, 2) := by decide +kernel
theorem dX12_plays_122 : decode cX12_plays 122 = .ok (.iload_n 3, 1) := by decide +kernel
theorem dX12_plays_123 : decode cX12_plays 123 = .ok (.iadd, 1) := by decide +kernel
theorem dX12_plays_124 : decode cX12_plays 124 = .ok (.iload 5, 2) := by decide +kernel
theorem dX12_plays_126 : decode cX12_plays 126 = .ok (.iastore, 1) := by decide +kernel
theorem dX12_plays_127 : decode cX12_plays 127 = .ok (.iinc 3 1, 3) := by decide +kernel
theorem dX12_plays_130 : decode cX12_plays 130 = .ok (.goto (-100), 3) := by decide +kernel
theorem dX12_plays_133 : decode cX12_plays 133 = .ok (.aload_n 0, 1) := by decide +kernel
theorem dX12_plays_134 : decode cX12_plays 134 = .ok (.invokevirtual 297, 3) := by decide +kernel
theorem dX12_plays_137 : decode cX12_plays 137 = .ok (.iload_n 2, 1) := by decide +kernel
theorem dX12_plays_138 : decode cX12_plays 138 = .ok (.ireturn, 1) := by decide +kernel
theorem ml_X12_310 : Cond.methodLink RX12 310 yX12_laysGame ∈ Wd := mW 1745 (by decide +kernel) rfl
theorem mk_X12_laysGame : MokV yX12_laysGame cX12_laysGame 2 none 0 := ⟨⟨mW 14 (by decide +kernel) rfl, mW 1748 (by decide +kernel) rfl, ⟨by decide, by decide, by decide +kernel⟩, by decide⟩, mW 1747 (by decide +kernel) rfl, mS (q := (yX12_laysGame, 46)) 85 (by decide +kernel)⟩
def M_plays_L30 (x1 : Int32) (Q : Int32 → Hp → Prop) : Nat → Int32 → Int32 → Hp → Prop
  | 0, _, _, _ => False
  | n + 1, x2, x3, h => ((gI h 99 1) ≤ x3 → M_notes  h (fun h6 => Q x2 h6)) ∧ (¬ (gI h 99 1) ≤ x3 → M_isMine x3 h (fun r7 h8 => ∀ J55 : Int32 → Hp → Prop, J55 = (fun s9 h10 => ∀ J127 : Int32 → Hp → Prop, J127 = (fun x2_11 h12 => ∀ v13 : Int32, v13 = (x3 + 1) → M_plays_L30 x1 Q n x2_11 v13 h12) → (r7 = s9 → vp_in x1 2 ∧ vp_in x3 8 ∧ M_firstIn ((gI h10 114 (x1).toNatClampNeg) &&& (gI h10 108 (x3).toNatClampNeg)) h10 (fun r14 h15 => ∀ J92 : Int32 → Hp → Prop, J92 = (fun s16 h17 => vp_in ((62 : Int32) + x3) 3276 ∧ ∀ J114 : Int32 → Hp → Prop, J114 = (fun s18 h19 => ∀ v20 : Int32, v20 = (x2 + s18) → vp_in ((62 : Int32) + x3) 3276 ∧ ∀ h21 : Hp, h21 = sI h19 99 (((62 : Int32) + x3)).toNatClampNeg s16 → J127 v20 h21) → (s16 = (gI h17 99 (((62 : Int32) + x3)).toNatClampNeg) → J114 0 h17) ∧ (¬ s16 = (gI h17 99 (((62 : Int32) + x3)).toNatClampNeg) → J114 1 h17)) → (16 ≤ r14 → J92 (-1) h15) ∧ (¬ 16 ≤ r14 → J92 r14 h15))) ∧ (¬ r7 = s9 → J127 x2 h10)) → (¬ x1 = 1 → J55 0 h8) ∧ (x1 = 1 → J55 1 h8)))
set_option maxHeartbeats 4000000 in
set_option maxRecDepth 20000 in
theorem gl_M_plays_L30 {G : Gx}  {x1 : Int32} {Q : Int32 → Hp → Prop} : ∀ (n : Nat) (x2 : Int32) (x3 : Int32) (h : Hp), M_plays_L30 x1 Q n x2 x3 h → Go cX12_plays 6 RX12 (some .int) 16 G (QI G Q) 30 [(0, .ref (gAd G 98)), (1, .int x1), (2, .int x2), (3, .int x3)] [] h := by
  intro n
  induction n with
  | zero => intro _ _ h hw; exact False.elim hw
  | succ n ih =>
    intro x2 x3 h hw
    refine g_iload_n dX12_plays_30 rfl rfl ?_
    refine g_aload_n dX12_plays_31 rfl rfl ?_
    refine g_getA dX12_plays_32 fl_X12_13 sh98 rfl ?_
    refine g_iconst (v := 1) dX12_plays_35 (by decide) ?_
    refine g_ialdK dX12_plays_36 ia99 al99 (by unfold vp_in; decide) (k := 1) (by decide) ?_
    refine g_icmp_ge 133 dX12_plays_37 rfl (fun hc => ?_) (fun hc => ?_)
    · have hw := hw.1 hc
      refine g_aload_n dX12_plays_133 rfl rfl ?_
      refine g_callVV [] (ci := 12) dX12_plays_134 ml_X12_297 mk_X12_notes rfl rfl sh98 (Nat.le_of_ble_eq_true rfl) (Nat.le_of_ble_eq_true rfl) rfl (c_M_notes hw) (fun h6 hw => ?_)
      refine g_iload_n dX12_plays_137 rfl rfl ?_
      exact g_iret dX12_plays_138 hw
    · have hw := hw.2 hc
      refine g_aload_n dX12_plays_40 rfl rfl ?_
      refine g_iload_n dX12_plays_41 rfl rfl ?_
      refine g_callVI [.int x3] (ci := 12) dX12_plays_42 ml_X12_263 mk_X12_isMine rfl rfl sh98 (Nat.le_of_ble_eq_true rfl) (Nat.le_of_ble_eq_true rfl) rfl (c_M_isMine hw) (fun r7 h8 hw => ?_)
      refine g_iload_n dX12_plays_45 rfl rfl ?_
      refine g_iconst (v := 1) dX12_plays_46 (by decide) ?_
      refine jn_el hw (fun J55 eJ55 hw => ?_)
      have hJ55 : ∀ (s9 : Int32) (h10 : Hp), J55 s9 h10 → Go cX12_plays 6 RX12 (some .int) 16 G (QI G Q) 55 [(0, .ref (gAd G 98)), (1, .int x1), (2, .int x2), (3, .int x3)] [.int s9, .int r7] h10 := by
        intro s9 h10 hw
        subst eJ55
        refine jn_el hw (fun J127 eJ127 hw => ?_)
        have hJ127 : ∀ (x2_11 : Int32) (h12 : Hp), J127 x2_11 h12 → Go cX12_plays 6 RX12 (some .int) 16 G (QI G Q) 127 [(0, .ref (gAd G 98)), (1, .int x1), (2, .int x2_11), (3, .int x3)] [] h12 := by
          intro x2_11 h12 hw
          subst eJ127
          obtain ⟨v13, ev13⟩ : ∃ y : Int32, y = (x3 + 1) := ⟨_, rfl⟩
          have hw := hw v13 ev13
          refine g_iinc dX12_plays_127 rfl (by rw [ev13]; rfl) (by decide) (lv1 := [(0, .ref (gAd G 98)), (1, .int x1), (2, .int x2_11), (3, .int v13)]) rfl ?_
          refine g_goto 30 dX12_plays_130 rfl ?_
          exact ih _ _ _ hw
        refine g_icmp_eq 61 dX12_plays_55 rfl (fun hc => ?_) (fun hc => ?_)
        · have hw := hw.1 hc
          refine g_aload_n dX12_plays_61 rfl rfl ?_
          refine g_getA dX12_plays_62 fl_X12_63 sh98 rfl ?_
          refine g_iload_n dX12_plays_65 rfl rfl ?_
          refine g_iald dX12_plays_66 ia114 al114 hw.1 ?_
          have hw := hw.2
          refine g_aload_n dX12_plays_67 rfl rfl ?_
          refine g_getA dX12_plays_68 fl_X12_45 sh98 rfl ?_
          refine g_iload_n dX12_plays_71 rfl rfl ?_
          refine g_iald dX12_plays_72 ia108 al108 hw.1 ?_
          have hw := hw.2
          refine g_iand dX12_plays_73 ?_
          refine g_callSI [.int ((gI h10 114 (x1).toNatClampNeg) &&& (gI h10 108 (x3).toNatClampNeg))] dX12_plays_74 ml_X12_253 mk_X12_firstIn rfl (Nat.le_of_ble_eq_true rfl) (Nat.le_of_ble_eq_true rfl) rfl (c_M_firstIn hw) (fun r14 h15 hw => ?_)
          refine g_istore dX12_plays_77 (by decide) (lv1 := [(0, .ref (gAd G 98)), (1, .int x1), (2, .int x2), (3, .int x3), (4, .int r14)]) rfl ?_
          refine g_iload dX12_plays_79 rfl ?_
          refine g_bipush (v := 16) dX12_plays_81 (by decide) ?_
          refine jn_el hw (fun J92 eJ92 hw => ?_)
          have hJ92 : ∀ (s16 : Int32) (h17 : Hp), J92 s16 h17 → Go cX12_plays 6 RX12 (some .int) 16 G (QI G Q) 92 [(0, .ref (gAd G 98)), (1, .int x1), (2, .int x2), (3, .int x3)] [.int s16] h17 := by
            intro s16 h17 hw
            subst eJ92
            refine g_istore dX12_plays_92 (by decide) (lv1 := [(0, .ref (gAd G 98)), (1, .int x1), (2, .int x2), (3, .int x3), (5, .int s16)]) rfl ?_
            refine g_iload_n dX12_plays_94 rfl rfl ?_
            refine g_iload dX12_plays_95 rfl ?_
            refine g_aload_n dX12_plays_97 rfl rfl ?_
            refine g_getA dX12_plays_98 fl_X12_13 sh98 rfl ?_
            refine g_bipush (v := 62) dX12_plays_101 (by decide) ?_
            refine g_iload_n dX12_plays_103 rfl rfl ?_
            refine g_iadd dX12_plays_104 ?_
            refine g_iald dX12_plays_105 ia99 al99 hw.1 ?_
            have hw := hw.2
            refine jn_el hw (fun J114 eJ114 hw => ?_)
            have hJ114 : ∀ (s18 : Int32) (h19 : Hp), J114 s18 h19 → Go cX12_plays 6 RX12 (some .int) 16 G (QI G Q) 114 [(0, .ref (gAd G 98)), (1, .int x1), (3, .int x3), (5, .int s16)] [.int s18, .int x2] h19 := by
              intro s18 h19 hw
              subst eJ114
              refine g_iadd dX12_plays_114 ?_
              refine g_topi (fun v20 ev20 => ?_)
              have hw := hw v20 ev20
              refine g_istore_n dX12_plays_115 rfl (by decide) (lv1 := [(0, .ref (gAd G 98)), (1, .int x1), (2, .int v20), (3, .int x3), (5, .int s16)]) rfl ?_
              refine g_aload_n dX12_plays_116 rfl rfl ?_
              refine g_getA dX12_plays_117 fl_X12_13 sh98 rfl ?_
              refine g_bipush (v := 62) dX12_plays_120 (by decide) ?_
              refine g_iload_n dX12_plays_122 rfl rfl ?_
              refine g_iadd dX12_plays_123 ?_
              refine g_iload dX12_plays_124 rfl ?_
              refine g_iast dX12_plays_126 ia99 al99 hw.1 ?_
              have hw := hw.2
              refine g_heap (fun h21 eh21 => ?_)
              have hw := hw h21 eh21
              refine g_lv [0, 1, 2, 3] rfl ?_
              exact hJ127 _ _ hw
            refine g_icmp_eq 113 dX12_plays_106 rfl (fun hc => ?_) (fun hc => ?_)
            · have hw := hw.1 hc
              refine g_iconst (v := 0) dX12_plays_113 (by decide) ?_
              refine g_lv [0, 1, 3, 4] rfl ?_
              exact hJ114 _ _ hw
            · have hw := hw.2 hc
              refine g_iconst (v := 1) dX12_plays_109 (by decide) ?_
              refine g_goto 114 dX12_plays_110 rfl ?_
              refine g_lv [0, 1, 3, 4] rfl ?_
              exact hJ114 _ _ hw
          refine g_icmp_ge 91 dX12_plays_83 rfl (fun hc => ?_) (fun hc => ?_)
          · have hw := hw.1 hc
            refine g_iconst (v := (-1)) dX12_plays_91 (by decide) ?_
            refine g_lv [0, 1, 2, 3] rfl ?_
            exact hJ92 _ _ hw
          · have hw := hw.2 hc
            refine g_iload dX12_plays_86 rfl ?_
            refine g_goto 92 dX12_plays_88 rfl ?_
            refine g_lv [0, 1, 2, 3] rfl ?_
            exact hJ92 _ _ hw
        · have hw := hw.2 hc
          refine g_goto 127 dX12_plays_58 rfl ?_
          exact hJ127 _ _ hw
      refine g_icmp_ne 54 dX12_plays_47 rfl (fun hc => ?_) (fun hc => ?_)
      · have hw := hw.1 hc
        refine g_iconst (v := 0) dX12_plays_54 (by decide) ?_
        exact hJ55 _ _ hw
      · have hw := hw.2 hc
        refine g_iconst (v := 1) dX12_plays_50 (by decide) ?_
        refine g_goto 55 dX12_plays_51 rfl ?_
        exact hJ55 _ _ hw
def M_plays (x1 : Int32) (h : Hp) (Q : Int32 → Hp → Prop) : Prop := ∀ h1 : Hp, h1 = sI h 98 0 0 → M_within ((x1).toInt64) (0 : Int64) (1 : Int64) h1 (fun r2 h3 => (¬ r2 = 0 → M_laysGame  h3 (fun h4 => M_stores  h4 (fun h5 => ∃ n22, M_plays_L30 x1 Q n22 0 0 h5))) ∧ (r2 = 0 → Q (-2) h3))
set_option maxHeartbeats 4000000 in
set_option maxRecDepth 20000 in
theorem c_M_plays {G : Gx}  {x1 : Int32} {h : Hp} {Q : Int32 → Hp → Prop} (hw : M_plays x1 h Q) : Ct yX12_plays cX12_plays 6 (some .int) 16 G [.ref (gAd G 98), .int x1] h (QI G Q) := by
  refine ct_go [(0, .ref (gAd G 98)), (1, .int x1)] (plainFor_of_name (by decide)) rfl (Nat.le_of_ble_eq_true rfl) rfl ?_
  refine g_aload_n dX12_plays_0 rfl rfl ?_
  refine g_iconst (v := 0) dX12_plays_1 (by decide) ?_
  refine g_putI dX12_plays_2 fl_X12_1 sh98 rfl rfl pf_12_0 ?_
  refine g_heap (fun h1 eh1 => ?_)
  have hw := hw h1 eh1
  refine g_iload_n dX12_plays_5 rfl rfl ?_
  refine g_i2l dX12_plays_6 ?_
  refine g_lconst (v := (0 : Int64)) dX12_plays_7 (by decide) ?_
  refine g_lconst (v := (1 : Int64)) dX12_plays_8 (by decide) ?_
  refine g_callSI [.long ((x1).toInt64), .long (0 : Int64), .long (1 : Int64)] dX12_plays_9 ml_X12_169 mk_X12_within rfl (Nat.le_of_ble_eq_true rfl) (Nat.le_of_ble_eq_true rfl) rfl (c_M_within hw) (fun r2 h3 hw => ?_)
  refine g_if_ne 18 dX12_plays_12 rfl (fun hc => ?_) (fun hc => ?_)
  · have hw := hw.1 hc
    refine g_aload_n dX12_plays_18 rfl rfl ?_
    refine g_callVV [] (ci := 12) dX12_plays_19 ml_X12_310 mk_X12_laysGame rfl rfl sh98 (Nat.le_of_ble_eq_true rfl) (Nat.le_of_ble_eq_true rfl) rfl (c_M_laysGame hw) (fun h4 hw => ?_)
    refine g_aload_n dX12_plays_22 rfl rfl ?_
    refine g_callVV [] (ci := 12) dX12_plays_23 ml_X12_288 mk_X12_stores rfl rfl sh98 (Nat.le_of_ble_eq_true rfl) (Nat.le_of_ble_eq_true rfl) rfl (c_M_stores hw) (fun h5 hw => ?_)
    refine g_iconst (v := 0) dX12_plays_26 (by decide) ?_
    refine g_istore_n dX12_plays_27 rfl (by decide) (lv1 := [(0, .ref (gAd G 98)), (1, .int x1), (2, .int 0)]) rfl ?_
    refine g_iconst (v := 0) dX12_plays_28 (by decide) ?_
    refine g_istore_n dX12_plays_29 rfl (by decide) (lv1 := [(0, .ref (gAd G 98)), (1, .int x1), (2, .int 0), (3, .int 0)]) rfl ?_
    obtain ⟨n22, hw⟩ := hw
    refine gl_M_plays_L30   _ _ _ _ hw
  · have hw := hw.2 hc
    refine g_bipush (v := (-2)) dX12_plays_15 (by decide) ?_
    exact g_iret dX12_plays_17 hw
theorem dX12_weather_0 : decode cX12_weather 0 = .ok (.aload_n 0, 1) := by decide +kernel
theorem dX12_weather_1 : decode cX12_weather 1 = .ok (.iconst 0, 1) := by decide +kernel
theorem dX12_weather_2 : decode cX12_weather 2 = .ok (.putfield 1, 3) := by decide +kernel
theorem dX12_weather_5 : decode cX12_weather 5 = .ok (.iload_n 1, 1) := by decide +kernel
theorem dX12_weather_6 : decode cX12_weather 6 = .ok (.i2l, 1) := by decide +kernel
theorem dX12_weather_7 : decode cX12_weather 7 = .ok (.lconst 0, 1) := by decide +kernel
theorem dX12_weather_8 : decode cX12_weather 8 = .ok (.ldc2_w 313, 3) := by decide +kernel
theorem dX12_weather_11 : decode cX12_weather 11 = .ok (.invokestatic 169, 3) := by decide +kernel
theorem dX12_weather_14 : decode cX12_weather 14 = .ok (.ifCond .ne 6, 3) := by decide +kernel
theorem dX12_weather_17 : decode cX12_weather 17 = .ok (.bipush (-11), 2) := by decide +kernel
theorem dX12_weather_19 : decode cX12_weather 19 = .ok (.ireturn, 1) := by decide +kernel
theorem dX12_weather_20 : decode cX12_weather 20 = .ok (.aload_n 0, 1) := by decide +kernel
theorem dX12_weather_21 : decode cX12_weather 21 = .ok (.invokevirtual 288, 3) := by decide +kernel
theorem dX12_weather_24 : decode cX12_weather 24 = .ok (.aload_n 0, 1) := by decide +kernel
theorem dX12_weather_25 : decode cX12_weather 25 = .ok (.getfield 13, 3) := by decide +kernel
theorem dX12_weather_28 : decode cX12_weather 28 = .ok (.bipush 61, 2) := by decide +kernel
theorem dX12_weather_30 : decode cX12_weather 30 = .ok (.iload_n 1, 1) := by decide +kernel
theorem dX12_weather_31 : decode cX12_weather 31 = .ok (.iastore, 1) := by decide +kernel
theorem dX12_weather_32 : decode cX12_weather 32 = .ok (.aload_n 0, 1) := by decide +kernel
theorem dX12_weather_33 : decode cX12_weather 33 = .ok (.invokevirtual 297, 3) := by decide +kernel
theorem dX12_weather_36 : decode cX12_weather 36 = .ok (.aload_n 0, 1) := by decide +kernel
theorem dX12_weather_37 : decode cX12_weather 37 = .ok (.getfield 48, 3) := by decide +kernel
theorem dX12_weather_40 : decode cX12_weather 40 = .ok (.iconst 3, 1) := by decide +kernel
theorem dX12_weather_41 : decode cX12_weather 41 = .ok (.iaload, 1) := by decide +kernel
theorem dX12_weather_42 : decode cX12_weather 42 = .ok (.ireturn, 1) := by decide +kernel
theorem kl_X12_313 : Cond.constantLong RX12 313 (9) ∈ Wd := mW 1789 (by decide +kernel) rfl
def M_weather (x1 : Int32) (h : Hp) (Q : Int32 → Hp → Prop) : Prop := ∀ h1 : Hp, h1 = sI h 98 0 0 → M_within ((x1).toInt64) (0 : Int64) (9 : Int64) h1 (fun r2 h3 => (¬ r2 = 0 → M_stores  h3 (fun h4 => ∀ h5 : Hp, h5 = sI h4 99 61 x1 → M_notes  h5 (fun h6 => Q (gI h6 109 3) h6))) ∧ (r2 = 0 → Q (-11) h3))
set_option maxHeartbeats 4000000 in
set_option maxRecDepth 20000 in
theorem c_M_weather {G : Gx}  {x1 : Int32} {h : Hp} {Q : Int32 → Hp → Prop} (hw : M_weather x1 h Q) : Ct yX12_weather cX12_weather 2 (some .int) 2 G [.ref (gAd G 98), .int x1] h (QI G Q) := by
  refine ct_go [(0, .ref (gAd G 98)), (1, .int x1)] (plainFor_of_name (by decide)) rfl (Nat.le_of_ble_eq_true rfl) rfl ?_
  refine g_aload_n dX12_weather_0 rfl rfl ?_
  refine g_iconst (v := 0) dX12_weather_1 (by decide) ?_
  refine g_putI dX12_weather_2 fl_X12_1 sh98 rfl rfl pf_12_0 ?_
  refine g_heap (fun h1 eh1 => ?_)
  have hw := hw h1 eh1
  refine g_iload_n dX12_weather_5 rfl rfl ?_
  refine g_i2l dX12_weather_6 ?_
  refine g_lconst (v := (0 : Int64)) dX12_weather_7 (by decide) ?_
  refine g_ldc2 dX12_weather_8 kl_X12_313 ?_
  refine g_callSI [.long ((x1).toInt64), .long (0 : Int64), .long (9 : Int64)] dX12_weather_11 ml_X12_169 mk_X12_within rfl (Nat.le_of_ble_eq_true rfl) (Nat.le_of_ble_eq_true rfl) rfl (c_M_within hw) (fun r2 h3 hw => ?_)
  refine g_if_ne 20 dX12_weather_14 rfl (fun hc => ?_) (fun hc => ?_)
  · have hw := hw.1 hc
    refine g_aload_n dX12_weather_20 rfl rfl ?_
    refine g_callVV [] (ci := 12) dX12_weather_21 ml_X12_288 mk_X12_stores rfl rfl sh98 (Nat.le_of_ble_eq_true rfl) (Nat.le_of_ble_eq_true rfl) rfl (c_M_stores hw) (fun h4 hw => ?_)
    refine g_aload_n dX12_weather_24 rfl rfl ?_
    refine g_getA dX12_weather_25 fl_X12_13 sh98 rfl ?_
    refine g_bipush (v := 61) dX12_weather_28 (by decide) ?_
    refine g_iload_n dX12_weather_30 rfl rfl ?_
    refine g_iastK dX12_weather_31 ia99 al99 (by unfold vp_in; decide) (k := 61) (by decide) ?_
    refine g_heap (fun h5 eh5 => ?_)
    have hw := hw h5 eh5
    refine g_aload_n dX12_weather_32 rfl rfl ?_
    refine g_callVV [] (ci := 12) dX12_weather_33 ml_X12_297 mk_X12_notes rfl rfl sh98 (Nat.le_of_ble_eq_true rfl) (Nat.le_of_ble_eq_true rfl) rfl (c_M_notes hw) (fun h6 hw => ?_)
    refine g_aload_n dX12_weather_36 rfl rfl ?_
    refine g_getA dX12_weather_37 fl_X12_48 sh98 rfl ?_
    refine g_iconst (v := 3) dX12_weather_40 (by decide) ?_
    refine g_ialdK dX12_weather_41 ia109 al109 (by unfold vp_in; decide) (k := 3) (by decide) ?_
    exact g_iret dX12_weather_42 hw
  · have hw := hw.2 hc
    refine g_bipush (v := (-11)) dX12_weather_17 (by decide) ?_
    exact g_iret dX12_weather_19 hw
theorem dX12_undo_0 : decode cX12_undo 0 = .ok (.aload_n 0, 1) := by decide +kernel
theorem dX12_undo_1 : decode cX12_undo 1 = .ok (.iconst 0, 1) := by decide +kernel
theorem dX12_undo_2 : decode cX12_undo 2 = .ok (.putfield 1, 3) := by decide +kernel
theorem dX12_undo_5 : decode cX12_undo 5 = .ok (.iload_n 1, 1) := by decide +kernel
theorem dX12_undo_6 : decode cX12_undo 6 = .ok (.i2l, 1) := by decide +kernel
theorem dX12_undo_7 : decode cX12_undo 7 = .ok (.lconst 1, 1) := by decide +kernel
theorem dX12_undo_8 : decode cX12_undo 8 = .ok (.ldc2_w 315, 3) := by decide +kernel
theorem dX12_undo_11 : decode cX12_undo 11 = .ok (.invokestatic 169, 3) := by decide +kernel
theorem dX12_undo_14 : decode cX12_undo 14 = .ok (.ifCond .eq 14, 3) := by decide +kernel
theorem dX12_undo_17 : decode cX12_undo 17 = .ok (.iload_n 1, 1) := by decide +kernel
theorem dX12_undo_18 : decode cX12_undo 18 = .ok (.aload_n 0, 1) := by decide +kernel
theorem dX12_undo_19 : decode cX12_undo 19 = .ok (.getfield 13, 3) := by decide +kernel
theorem dX12_undo_22 : decode cX12_undo 22 = .ok (.bipush 70, 2) := by decide +kernel
theorem dX12_undo_24 : decode cX12_undo 24 = .ok (.iaload, 1) := by decide +kernel
theorem dX12_undo_25 : decode cX12_undo 25 = .ok (.if_icmp .le 6, 3) := by decide +kernel
theorem dX12_undo_28 : decode cX12_undo 28 = .ok (.bipush (-3), 2) := by decide +kernel
theorem dX12_undo_30 : decode cX12_undo 30 = .ok (.ireturn, 1) := by decide +kernel
theorem dX12_undo_31 : decode cX12_undo 31 = .ok (.aload_n 0, 1) := by decide +kernel
theorem dX12_undo_32 : decode cX12_undo 32 = .ok (.getfield 13, 3) := by decide +kernel
theorem dX12_undo_35 : decode cX12_undo 35 = .ok (.bipush 70, 2) := by decide +kernel
theorem dX12_undo_37 : decode cX12_undo 37 = .ok (.dup2, 1) := by decide +kernel
theorem dX12_undo_38 : decode cX12_undo 38 = .ok (.iaload, 1) := by decide +kernel
theorem dX12_undo_39 : decode cX12_undo 39 = .ok (.iload_n 1, 1) := by decide +kernel
theorem dX12_undo_40 : decode cX12_undo 40 = .ok (.isub, 1) := by decide +kernel
theorem dX12_undo_41 : decode cX12_undo 41 = .ok (.iastore, 1) := by decide +kernel
theorem dX12_undo_42 : decode cX12_undo 42 = .ok (.iconst 0, 1) := by decide +kernel
theorem dX12_undo_43 : decode cX12_undo 43 = .ok (.istore_n 2, 1) := by decide +kernel
theorem dX12_undo_44 : decode cX12_undo 44 = .ok (.iload_n 2, 1) := by decide +kernel
theorem dX12_undo_45 : decode cX12_undo 45 = .ok (.bipush 12, 2) := by decide +kernel
theorem dX12_undo_47 : decode cX12_undo 47 = .ok (.if_icmp .ge 38, 3) := by decide +kernel
theorem dX12_undo_50 : decode cX12_undo 50 = .ok (.aload_n 0, 1) := by decide +kernel
theorem dX12_undo_51 : decode cX12_undo 51 = .ok (.getfield 13, 3) := by decide +kernel
theorem dX12_undo_54 : decode cX12_undo 54 = .ok (.bipush 58, 2) := by decide +kernel
theorem dX12_undo_56 : decode cX12_undo 56 = .ok (.iload_n 2, 1) := by decide +kernel
theorem dX12_undo_57 : decode cX12_undo 57 = .ok (.iadd, 1) := by decide +kernel
theorem dX12_undo_58 : decode cX12_undo 58 = .ok (.aload_n 0, 1) := by decide +kernel
theorem dX12_undo_59 : decode cX12_undo 59 = .ok (.getfield 13, 3) := by decide +kernel
theorem dX12_undo_62 : decode cX12_undo 62 = .ok (.bipush 71, 2) := by decide +kernel
theorem dX12_undo_64 : decode cX12_undo 64 = .ok (.bipush 12, 2) := by decide +kernel
theorem dX12_undo_66 : decode cX12_undo 66 = .ok (.aload_n 0, 1) := by decide +kernel
theorem dX12_undo_67 : decode cX12_undo 67 = .ok (.getfield 13, 3) := by decide +kernel
theorem dX12_undo_70 : decode cX12_undo 70 = .ok (.bipush 70, 2) := by decide +kernel
theorem dX12_undo_72 : decode cX12_undo 72 = .ok (.iaload, 1) := by decide +kernel
theorem dX12_undo_73 : decode cX12_undo 73 = .ok (.imul, 1) := by decide +kernel
theorem dX12_undo_74 : decode cX12_undo 74 = .ok (.iadd, 1) := by decide +kernel
theorem dX12_undo_75 : decode cX12_undo 75 = .ok (.iload_n 2, 1) := by decide +kernel
theorem dX12_undo_76 : decode cX12_undo 76 = .ok (.iadd, 1) := by decide +kernel
theorem dX12_undo_77 : decode cX12_undo 77 = .ok (.iaload, 1) := by decide +kernel
theorem dX12_undo_78 : decode cX12_undo 78 = .ok (.iastore, 1) := by decide +kernel
theorem dX12_undo_79 : decode cX12_undo 79 = .ok (.iinc 2 1, 3) := by decide +kernel
theorem dX12_undo_82 : decode cX12_undo 82 = .ok (.goto (-38), 3) := by decide +kernel
theorem dX12_undo_85 : decode cX12_undo 85 = .ok (.aload_n 0, 1) := by decide +kernel
theorem dX12_undo_86 : decode cX12_undo 86 = .ok (.getfield 13, 3) := by decide +kernel
theorem dX12_undo_89 : decode cX12_undo 89 = .ok (.bipush 70, 2) := by decide +kernel
theorem dX12_undo_91 : decode cX12_undo 91 = .ok (.iaload, 1) := by decide +kernel
theorem dX12_undo_92 : decode cX12_undo 92 = .ok (.ireturn, 1) := by decide +kernel
theorem kl_X12_315 : Cond.constantLong RX12 315 (10) ∈ Wd := mW 1794 (by decide +kernel) rfl
def M_undo_L44 (Q : Int32 → Hp → Prop) : Nat → Int32 → Hp → Prop
  | 0, _, _ => False
  | n + 1, x2, h => (12 ≤ x2 → Q (gI h 99 70) h) ∧ (¬ 12 ≤ x2 → vp_in (((71 : Int32) + ((12 : Int32) * (gI h 99 70))) + x2) 3276 ∧ vp_in ((58 : Int32) + x2) 3276 ∧ ∀ h5 : Hp, h5 = sI h 99 (((58 : Int32) + x2)).toNatClampNeg (gI h 99 ((((71 : Int32) + ((12 : Int32) * (gI h 99 70))) + x2)).toNatClampNeg) → ∀ v6 : Int32, v6 = (x2 + 1) → M_undo_L44 Q n v6 h5)
set_option maxHeartbeats 4000000 in
set_option maxRecDepth 20000 in
theorem gl_M_undo_L44 {G : Gx}  {Q : Int32 → Hp → Prop} : ∀ (n : Nat) (x2 : Int32) (h : Hp), M_undo_L44 Q n x2 h → Go cX12_undo 3 RX12 (some .int) 2 G (QI G Q) 44 [(0, .ref (gAd G 98)), (2, .int x2)] [] h := by
  intro n
  induction n with
  | zero => intro _ h hw; exact False.elim hw
  | succ n ih =>
    intro x2 h hw
    refine g_iload_n dX12_undo_44 rfl rfl ?_
    refine g_bipush (v := 12) dX12_undo_45 (by decide) ?_
    refine g_icmp_ge 85 dX12_undo_47 rfl (fun hc => ?_) (fun hc => ?_)
    · have hw := hw.1 hc
      refine g_aload_n dX12_undo_85 rfl rfl ?_
      refine g_getA dX12_undo_86 fl_X12_13 sh98 rfl ?_
      refine g_bipush (v := 70) dX12_undo_89 (by decide) ?_
      refine g_ialdK dX12_undo_91 ia99 al99 (by unfold vp_in; decide) (k := 70) (by decide) ?_
      exact g_iret dX12_undo_92 hw
    · have hw := hw.2 hc
      refine g_aload_n dX12_undo_50 rfl rfl ?_
      refine g_getA dX12_undo_51 fl_X12_13 sh98 rfl ?_
      refine g_bipush (v := 58) dX12_undo_54 (by decide) ?_
      refine g_iload_n dX12_undo_56 rfl rfl ?_
      refine g_iadd dX12_undo_57 ?_
      refine g_aload_n dX12_undo_58 rfl rfl ?_
      refine g_getA dX12_undo_59 fl_X12_13 sh98 rfl ?_
      refine g_bipush (v := 71) dX12_undo_62 (by decide) ?_
      refine g_bipush (v := 12) dX12_undo_64 (by decide) ?_
      refine g_aload_n dX12_undo_66 rfl rfl ?_
      refine g_getA dX12_undo_67 fl_X12_13 sh98 rfl ?_
      refine g_bipush (v := 70) dX12_undo_70 (by decide) ?_
      refine g_ialdK dX12_undo_72 ia99 al99 (by unfold vp_in; decide) (k := 70) (by decide) ?_
      refine g_imul dX12_undo_73 ?_
      refine g_iadd dX12_undo_74 ?_
      refine g_iload_n dX12_undo_75 rfl rfl ?_
      refine g_iadd dX12_undo_76 ?_
      refine g_iald dX12_undo_77 ia99 al99 hw.1 ?_
      have hw := hw.2
      refine g_iast dX12_undo_78 ia99 al99 hw.1 ?_
      have hw := hw.2
      refine g_heap (fun h5 eh5 => ?_)
      have hw := hw h5 eh5
      obtain ⟨v6, ev6⟩ : ∃ y : Int32, y = (x2 + 1) := ⟨_, rfl⟩
      have hw := hw v6 ev6
      refine g_iinc dX12_undo_79 rfl (by rw [ev6]; rfl) (by decide) (lv1 := [(0, .ref (gAd G 98)), (2, .int v6)]) rfl ?_
      refine g_goto 44 dX12_undo_82 rfl ?_
      exact ih _ _ hw
def M_undo (x1 : Int32) (h : Hp) (Q : Int32 → Hp → Prop) : Prop := ∀ h1 : Hp, h1 = sI h 98 0 0 → M_within ((x1).toInt64) (1 : Int64) (10 : Int64) h1 (fun r2 h3 => (r2 = 0 → Q (-3) h3) ∧ (¬ r2 = 0 → (x1 ≤ (gI h3 99 70) → ∀ h4 : Hp, h4 = sI h3 99 70 ((gI h3 99 70) - x1) → ∃ n7, M_undo_L44 Q n7 0 h4) ∧ (¬ x1 ≤ (gI h3 99 70) → Q (-3) h3)))
set_option maxHeartbeats 4000000 in
set_option maxRecDepth 20000 in
theorem c_M_undo {G : Gx}  {x1 : Int32} {h : Hp} {Q : Int32 → Hp → Prop} (hw : M_undo x1 h Q) : Ct yX12_undo cX12_undo 3 (some .int) 2 G [.ref (gAd G 98), .int x1] h (QI G Q) := by
  refine ct_go [(0, .ref (gAd G 98)), (1, .int x1)] (plainFor_of_name (by decide)) rfl (Nat.le_of_ble_eq_true rfl) rfl ?_
  refine g_aload_n dX12_undo_0 rfl rfl ?_
  refine g_iconst (v := 0) dX12_undo_1 (by decide) ?_
  refine g_putI dX12_undo_2 fl_X12_1 sh98 rfl rfl pf_12_0 ?_
  refine g_heap (fun h1 eh1 => ?_)
  have hw := hw h1 eh1
  refine g_iload_n dX12_undo_5 rfl rfl ?_
  refine g_i2l dX12_undo_6 ?_
  refine g_lconst (v := (1 : Int64)) dX12_undo_7 (by decide) ?_
  refine g_ldc2 dX12_undo_8 kl_X12_315 ?_
  refine g_callSI [.long ((x1).toInt64), .long (1 : Int64), .long (10 : Int64)] dX12_undo_11 ml_X12_169 mk_X12_within rfl (Nat.le_of_ble_eq_true rfl) (Nat.le_of_ble_eq_true rfl) rfl (c_M_within hw) (fun r2 h3 hw => ?_)
  refine g_if_eq 28 dX12_undo_14 rfl (fun hc => ?_) (fun hc => ?_)
  · have hw := hw.1 hc
    refine g_bipush (v := (-3)) dX12_undo_28 (by decide) ?_
    exact g_iret dX12_undo_30 hw
  · have hw := hw.2 hc
    refine g_iload_n dX12_undo_17 rfl rfl ?_
    refine g_aload_n dX12_undo_18 rfl rfl ?_
    refine g_getA dX12_undo_19 fl_X12_13 sh98 rfl ?_
    refine g_bipush (v := 70) dX12_undo_22 (by decide) ?_
    refine g_ialdK dX12_undo_24 ia99 al99 (by unfold vp_in; decide) (k := 70) (by decide) ?_
    refine g_icmp_le 31 dX12_undo_25 rfl (fun hc => ?_) (fun hc => ?_)
    · have hw := hw.1 hc
      refine g_aload_n dX12_undo_31 rfl rfl ?_
      refine g_getA dX12_undo_32 fl_X12_13 sh98 rfl ?_
      refine g_bipush (v := 70) dX12_undo_35 (by decide) ?_
      refine g_dup2_11 dX12_undo_37 rfl rfl ?_
      refine g_ialdK dX12_undo_38 ia99 al99 (by unfold vp_in; decide) (k := 70) (by decide) ?_
      refine g_iload_n dX12_undo_39 rfl rfl ?_
      refine g_isub dX12_undo_40 ?_
      refine g_iastK dX12_undo_41 ia99 al99 (by unfold vp_in; decide) (k := 70) (by decide) ?_
      refine g_heap (fun h4 eh4 => ?_)
      have hw := hw h4 eh4
      refine g_iconst (v := 0) dX12_undo_42 (by decide) ?_
      refine g_istore_n dX12_undo_43 rfl (by decide) (lv1 := [(0, .ref (gAd G 98)), (1, .int x1), (2, .int 0)]) rfl ?_
      obtain ⟨n7, hw⟩ := hw
      refine g_lv [0, 2] rfl ?_
      refine gl_M_undo_L44   _ _ _ hw
    · have hw := hw.2 hc
      refine g_bipush (v := (-3)) dX12_undo_28 (by decide) ?_
      exact g_iret dX12_undo_30 hw
theorem dX12_noTray_0 : decode cX12_noTray 0 = .ok (.iload_n 1, 1) := by decide +kernel
theorem dX12_noTray_1 : decode cX12_noTray 1 = .ok (.i2l, 1) := by decide +kernel
theorem dX12_noTray_2 : decode cX12_noTray 2 = .ok (.lconst 0, 1) := by decide +kernel
theorem dX12_noTray_3 : decode cX12_noTray 3 = .ok (.ldc2_w 336, 3) := by decide +kernel
theorem dX12_noTray_6 : decode cX12_noTray 6 = .ok (.invokestatic 169, 3) := by decide +kernel
theorem dX12_noTray_9 : decode cX12_noTray 9 = .ok (.ifCond .ne 8, 3) := by decide +kernel
theorem dX12_noTray_12 : decode cX12_noTray 12 = .ok (.bipush (-2), 2) := by decide +kernel
theorem dX12_noTray_14 : decode cX12_noTray 14 = .ok (.goto 19, 3) := by decide +kernel
theorem dX12_noTray_17 : decode cX12_noTray 17 = .ok (.aload_n 0, 1) := by decide +kernel
theorem dX12_noTray_18 : decode cX12_noTray 18 = .ok (.getfield 94, 3) := by decide +kernel
theorem dX12_noTray_21 : decode cX12_noTray 21 = .ok (.iload_n 1, 1) := by decide +kernel
theorem dX12_noTray_22 : decode cX12_noTray 22 = .ok (.iaload, 1) := by decide +kernel
theorem dX12_noTray_23 : decode cX12_noTray 23 = .ok (.iconst (-1), 1) := by decide +kernel
theorem dX12_noTray_24 : decode cX12_noTray 24 = .ok (.if_icmp .ne 8, 3) := by decide +kernel
theorem dX12_noTray_27 : decode cX12_noTray 27 = .ok (.bipush (-6), 2) := by decide +kernel
theorem dX12_noTray_29 : decode cX12_noTray 29 = .ok (.goto 4, 3) := by decide +kernel
theorem dX12_noTray_32 : decode cX12_noTray 32 = .ok (.iconst 0, 1) := by decide +kernel
theorem dX12_noTray_33 : decode cX12_noTray 33 = .ok (.ireturn, 1) := by decide +kernel
theorem kl_X12_336 : Cond.constantLong RX12 336 (3) ∈ Wd := mW 1799 (by decide +kernel) rfl
theorem fl_X12_94 : FLk RX12 94 12 43 := ⟨_, rfl, by decide, mW 1425 (by decide +kernel) rfl⟩
def M_noTray (x1 : Int32) (h : Hp) (Q : Int32 → Hp → Prop) : Prop := M_within ((x1).toInt64) (0 : Int64) (3 : Int64) h (fun r1 h2 => (¬ r1 = 0 → vp_in x1 4 ∧ (¬ (gI h2 124 (x1).toNatClampNeg) = (-1) → Q 0 h2) ∧ ((gI h2 124 (x1).toNatClampNeg) = (-1) → Q (-6) h2)) ∧ (r1 = 0 → Q (-2) h2))
set_option maxHeartbeats 4000000 in
set_option maxRecDepth 20000 in
theorem c_M_noTray {G : Gx}  {x1 : Int32} {h : Hp} {Q : Int32 → Hp → Prop} (hw : M_noTray x1 h Q) : Ct yX12_noTray cX12_noTray 2 (some .int) 2 G [.ref (gAd G 98), .int x1] h (QI G Q) := by
  refine ct_go [(0, .ref (gAd G 98)), (1, .int x1)] (plainFor_of_name (by decide)) rfl (Nat.le_of_ble_eq_true rfl) rfl ?_
  refine g_iload_n dX12_noTray_0 rfl rfl ?_
  refine g_i2l dX12_noTray_1 ?_
  refine g_lconst (v := (0 : Int64)) dX12_noTray_2 (by decide) ?_
  refine g_ldc2 dX12_noTray_3 kl_X12_336 ?_
  refine g_callSI [.long ((x1).toInt64), .long (0 : Int64), .long (3 : Int64)] dX12_noTray_6 ml_X12_169 mk_X12_within rfl (Nat.le_of_ble_eq_true rfl) (Nat.le_of_ble_eq_true rfl) rfl (c_M_within hw) (fun r1 h2 hw => ?_)
  refine g_if_ne 17 dX12_noTray_9 rfl (fun hc => ?_) (fun hc => ?_)
  · have hw := hw.1 hc
    refine g_aload_n dX12_noTray_17 rfl rfl ?_
    refine g_getA dX12_noTray_18 fl_X12_94 sh98 rfl ?_
    refine g_iload_n dX12_noTray_21 rfl rfl ?_
    refine g_iald dX12_noTray_22 ia124 al124 hw.1 ?_
    have hw := hw.2
    refine g_iconst (v := (-1)) dX12_noTray_23 (by decide) ?_
    refine g_icmp_ne 32 dX12_noTray_24 rfl (fun hc => ?_) (fun hc => ?_)
    · have hw := hw.1 hc
      refine g_iconst (v := 0) dX12_noTray_32 (by decide) ?_
      exact g_iret dX12_noTray_33 hw
    · have hw := hw.2 hc
      refine g_bipush (v := (-6)) dX12_noTray_27 (by decide) ?_
      refine g_goto 33 dX12_noTray_29 rfl ?_
      exact g_iret dX12_noTray_33 hw
  · have hw := hw.2 hc
    refine g_bipush (v := (-2)) dX12_noTray_12 (by decide) ?_
    refine g_goto 33 dX12_noTray_14 rfl ?_
    exact g_iret dX12_noTray_33 hw
theorem dX12_whyNot_0 : decode cX12_whyNot 0 = .ok (.lload_n 1, 1) := by decide +kernel
theorem dX12_whyNot_1 : decode cX12_whyNot 1 = .ok (.lconst 0, 1) := by decide +kernel
theorem dX12_whyNot_2 : decode cX12_whyNot 2 = .ok (.ldc2_w 280, 3) := by decide +kernel
theorem dX12_whyNot_5 : decode cX12_whyNot 5 = .ok (.invokestatic 169, 3) := by decide +kernel
theorem dX12_whyNot_8 : decode cX12_whyNot 8 = .ok (.ifCond .eq 9, 3) := by decide +kernel
theorem dX12_whyNot_11 : decode cX12_whyNot 11 = .ok (.aload_n 0, 1) := by decide +kernel
theorem dX12_whyNot_12 : decode cX12_whyNot 12 = .ok (.lload_n 1, 1) := by decide +kernel
theorem dX12_whyNot_13 : decode cX12_whyNot 13 = .ok (.invokevirtual 282, 3) := by decide +kernel
theorem dX12_whyNot_16 : decode cX12_whyNot 16 = .ok (.ireturn, 1) := by decide +kernel
theorem dX12_whyNot_17 : decode cX12_whyNot 17 = .ok (.lload_n 1, 1) := by decide +kernel
theorem dX12_whyNot_18 : decode cX12_whyNot 18 = .ok (.ldc2_w 317, 3) := by decide +kernel
theorem dX12_whyNot_21 : decode cX12_whyNot 21 = .ok (.ldc2_w 319, 3) := by decide +kernel
theorem dX12_whyNot_24 : decode cX12_whyNot 24 = .ok (.invokestatic 169, 3) := by decide +kernel
theorem dX12_whyNot_27 : decode cX12_whyNot 27 = .ok (.ifCond .eq 5, 3) := by decide +kernel
theorem dX12_whyNot_30 : decode cX12_whyNot 30 = .ok (.iconst 0, 1) := by decide +kernel
theorem dX12_whyNot_31 : decode cX12_whyNot 31 = .ok (.ireturn, 1) := by decide +kernel
theorem dX12_whyNot_32 : decode cX12_whyNot 32 = .ok (.lload_n 1, 1) := by decide +kernel
theorem dX12_whyNot_33 : decode cX12_whyNot 33 = .ok (.ldc2_w 321, 3) := by decide +kernel
theorem dX12_whyNot_36 : decode cX12_whyNot 36 = .ok (.ldc2_w 323, 3) := by decide +kernel
theorem dX12_whyNot_39 : decode cX12_whyNot 39 = .ok (.invokestatic 169, 3) := by decide +kernel
theorem dX12_whyNot_42 : decode cX12_whyNot 42 = .ok (.ifCond .ne 5, 3) := by decide +kernel
theorem dX12_whyNot_45 : decode cX12_whyNot 45 = .ok (.iconst 1, 1) := by decide +kernel
theorem dX12_whyNot_46 : decode cX12_whyNot 46 = .ok (.ireturn, 1) := by decide +kernel
theorem dX12_whyNot_47 : decode cX12_whyNot 47 = .ok (.aload_n 0, 1) := by decide +kernel
theorem dX12_whyNot_48 : decode cX12_whyNot 48 = .ok (.lload_n 1, 1) := by decide +kernel
theorem dX12_whyNot_49 : decode cX12_whyNot 49 = .ok (.ldc2_w 321, 3) := by decide +kernel
theorem dX12_whyNot_52 : decode cX12_whyNot 52 = .ok (.lsub, 1) := by decide +kernel
theorem dX12_whyNot_53 : decode cX12_whyNot 53 = .ok (.ldc2_w 321, 3) := by decide +kernel
theorem dX12_whyNot_56 : decode cX12_whyNot 56 = .ok (.ldiv, 1) := by decide +kernel
theorem dX12_whyNot_57 : decode cX12_whyNot 57 = .ok (.lload_n 1, 1) := by decide +kernel
theorem dX12_whyNot_58 : decode cX12_whyNot 58 = .ok (.ldc2_w 321, 3) := by decide +kernel
theorem dX12_whyNot_61 : decode cX12_whyNot 61 = .ok (.lrem, 1) := by decide +kernel
theorem dX12_whyNot_62 : decode cX12_whyNot 62 = .ok (.ldc2_w 325, 3) := by decide +kernel
theorem dX12_whyNot_65 : decode cX12_whyNot 65 = .ok (.lcmp, 1) := by decide +kernel
theorem dX12_whyNot_66 : decode cX12_whyNot 66 = .ok (.ifCond .ne 9, 3) := by decide +kernel
theorem dX12_whyNot_69 : decode cX12_whyNot 69 = .ok (.ldc2_w 304, 3) := by decide +kernel
theorem dX12_whyNot_72 : decode cX12_whyNot 72 = .ok (.goto 8, 3) := by decide +kernel
theorem dX12_whyNot_75 : decode cX12_whyNot 75 = .ok (.lload_n 1, 1) := by decide +kernel
theorem dX12_whyNot_76 : decode cX12_whyNot 76 = .ok (.ldc2_w 321, 3) := by decide +kernel
theorem dX12_whyNot_79 : decode cX12_whyNot 79 = .ok (.lrem, 1) := by decide +kernel
theorem dX12_whyNot_80 : decode cX12_whyNot 80 = .ok (.invokevirtual 306, 3) := by decide +kernel
theorem dX12_whyNot_83 : decode cX12_whyNot 83 = .ok (.ireturn, 1) := by decide +kernel
theorem kl_X12_317 : Cond.constantLong RX12 317 (20) ∈ Wd := mW 1812 (by decide +kernel) rfl
theorem kl_X12_319 : Cond.constantLong RX12 319 (30) ∈ Wd := mW 1813 (by decide +kernel) rfl
theorem kl_X12_321 : Cond.constantLong RX12 321 (1000) ∈ Wd := mW 1814 (by decide +kernel) rfl
theorem kl_X12_323 : Cond.constantLong RX12 323 (8999) ∈ Wd := mW 1815 (by decide +kernel) rfl
theorem kl_X12_325 : Cond.constantLong RX12 325 (999) ∈ Wd := mW 1816 (by decide +kernel) rfl
def M_whyNot (x1 : Int64) (h : Hp) (Q : Int32 → Hp → Prop) : Prop := M_within x1 (0 : Int64) (16 : Int64) h (fun r1 h2 => (r1 = 0 → M_within x1 (20 : Int64) (30 : Int64) h2 (fun r3 h4 => (r3 = 0 → M_within x1 (1000 : Int64) (8999 : Int64) h4 (fun r5 h6 => (¬ r5 = 0 → ∀ J80 : Int64 → Hp → Prop, J80 = (fun s7 h8 => M_whyPlan ((x1 - (1000 : Int64)) / (1000 : Int64)) s7 h8 (fun r9 h10 => Q r9 h10)) → (¬ (x1 - x1 / (1000 : Int64) * (1000 : Int64)) = (999 : Int64) → J80 (x1 - x1 / (1000 : Int64) * (1000 : Int64)) h6) ∧ ((x1 - x1 / (1000 : Int64) * (1000 : Int64)) = (999 : Int64) → J80 (-1 : Int64) h6)) ∧ (r5 = 0 → Q 1 h6))) ∧ (¬ r3 = 0 → Q 0 h4))) ∧ (¬ r1 = 0 → M_whyMove x1 h2 (fun r11 h12 => Q r11 h12)))
set_option maxHeartbeats 4000000 in
set_option maxRecDepth 20000 in
theorem c_M_whyNot {G : Gx}  {x1 : Int64} {h : Hp} {Q : Int32 → Hp → Prop} (hw : M_whyNot x1 h Q) : Ct yX12_whyNot cX12_whyNot 3 (some .int) 6 G [.ref (gAd G 98), .long x1] h (QI G Q) := by
  refine ct_go [(0, .ref (gAd G 98)), (1, .long x1)] (plainFor_of_name (by decide)) rfl (Nat.le_of_ble_eq_true rfl) rfl ?_
  refine g_lload_n dX12_whyNot_0 rfl rfl ?_
  refine g_lconst (v := (0 : Int64)) dX12_whyNot_1 (by decide) ?_
  refine g_ldc2 dX12_whyNot_2 kl_X12_280 ?_
  refine g_callSI [.long x1, .long (0 : Int64), .long (16 : Int64)] dX12_whyNot_5 ml_X12_169 mk_X12_within rfl (Nat.le_of_ble_eq_true rfl) (Nat.le_of_ble_eq_true rfl) rfl (c_M_within hw) (fun r1 h2 hw => ?_)
  refine g_if_eq 17 dX12_whyNot_8 rfl (fun hc => ?_) (fun hc => ?_)
  · have hw := hw.1 hc
    refine g_lload_n dX12_whyNot_17 rfl rfl ?_
    refine g_ldc2 dX12_whyNot_18 kl_X12_317 ?_
    refine g_ldc2 dX12_whyNot_21 kl_X12_319 ?_
    refine g_callSI [.long x1, .long (20 : Int64), .long (30 : Int64)] dX12_whyNot_24 ml_X12_169 mk_X12_within rfl (Nat.le_of_ble_eq_true rfl) (Nat.le_of_ble_eq_true rfl) rfl (c_M_within hw) (fun r3 h4 hw => ?_)
    refine g_if_eq 32 dX12_whyNot_27 rfl (fun hc => ?_) (fun hc => ?_)
    · have hw := hw.1 hc
      refine g_lload_n dX12_whyNot_32 rfl rfl ?_
      refine g_ldc2 dX12_whyNot_33 kl_X12_321 ?_
      refine g_ldc2 dX12_whyNot_36 kl_X12_323 ?_
      refine g_callSI [.long x1, .long (1000 : Int64), .long (8999 : Int64)] dX12_whyNot_39 ml_X12_169 mk_X12_within rfl (Nat.le_of_ble_eq_true rfl) (Nat.le_of_ble_eq_true rfl) rfl (c_M_within hw) (fun r5 h6 hw => ?_)
      refine g_if_ne 47 dX12_whyNot_42 rfl (fun hc => ?_) (fun hc => ?_)
      · have hw := hw.1 hc
        refine g_aload_n dX12_whyNot_47 rfl rfl ?_
        refine g_lload_n dX12_whyNot_48 rfl rfl ?_
        refine g_ldc2 dX12_whyNot_49 kl_X12_321 ?_
        refine g_lsub dX12_whyNot_52 ?_
        refine g_ldc2 dX12_whyNot_53 kl_X12_321 ?_
        refine g_ldiv dX12_whyNot_56 (by decide) ?_
        refine g_lload_n dX12_whyNot_57 rfl rfl ?_
        refine g_ldc2 dX12_whyNot_58 kl_X12_321 ?_
        refine g_lrem dX12_whyNot_61 (by decide) ?_
        refine g_ldc2 dX12_whyNot_62 kl_X12_325 ?_
        refine jn_el hw (fun J80 eJ80 hw => ?_)
        have hJ80 : ∀ (s7 : Int64) (h8 : Hp), J80 s7 h8 → Go cX12_whyNot 3 RX12 (some .int) 6 G (QI G Q) 80 [] [.long s7, .long ((x1 - (1000 : Int64)) / (1000 : Int64)), .ref (gAd G 98)] h8 := by
          intro s7 h8 hw
          subst eJ80
          refine g_callVI [.long ((x1 - (1000 : Int64)) / (1000 : Int64)), .long s7] (ci := 12) dX12_whyNot_80 ml_X12_306 mk_X12_whyPlan rfl rfl sh98 (Nat.le_of_ble_eq_true rfl) (Nat.le_of_ble_eq_true rfl) rfl (c_M_whyPlan hw) (fun r9 h10 hw => ?_)
          exact g_iret dX12_whyNot_83 hw
        refine g_lc_ne 75 dX12_whyNot_65 dX12_whyNot_66 rfl (fun hc => ?_) (fun hc => ?_)
        · have hw := hw.1 hc
          refine g_lload_n dX12_whyNot_75 rfl rfl ?_
          refine g_ldc2 dX12_whyNot_76 kl_X12_321 ?_
          refine g_lrem dX12_whyNot_79 (by decide) ?_
          refine g_lv [] rfl ?_
          exact hJ80 _ _ hw
        · have hw := hw.2 hc
          refine g_ldc2 dX12_whyNot_69 kl_X12_304 ?_
          refine g_goto 80 dX12_whyNot_72 rfl ?_
          refine g_lv [] rfl ?_
          exact hJ80 _ _ hw
      · have hw := hw.2 hc
        refine g_iconst (v := 1) dX12_whyNot_45 (by decide) ?_
        exact g_iret dX12_whyNot_46 hw
    · have hw := hw.2 hc
      refine g_iconst (v := 0) dX12_whyNot_30 (by decide) ?_
      exact g_iret dX12_whyNot_31 hw
  · have hw := hw.2 hc
    refine g_aload_n dX12_whyNot_11 rfl rfl ?_
    refine g_lload_n dX12_whyNot_12 rfl rfl ?_
    refine g_callVI [.long x1] (ci := 12) dX12_whyNot_13 ml_X12_282 mk_X12_whyMove rfl rfl sh98 (Nat.le_of_ble_eq_true rfl) (Nat.le_of_ble_eq_true rfl) rfl (c_M_whyMove hw) (fun r11 h12 hw => ?_)
    exact g_iret dX12_whyNot_16 hw
theorem dX12_does_0 : decode cX12_does 0 = .ok (.aload_n 0, 1) := by decide +kernel
theorem dX12_does_1 : decode cX12_does 1 = .ok (.invokevirtual 260, 3) := by decide +kernel
theorem dX12_does_4 : decode cX12_does 4 = .ok (.iload_n 1, 1) := by decide +kernel
theorem dX12_does_5 : decode cX12_does 5 = .ok (.bipush 16, 2) := by decide +kernel
theorem dX12_does_7 : decode cX12_does 7 = .ok (.if_icmp .gt 16, 3) := by decide +kernel
theorem dX12_does_10 : decode cX12_does 10 = .ok (.aload_n 0, 1) := by decide +kernel
theorem dX12_does_11 : decode cX12_does 11 = .ok (.aload_n 0, 1) := by decide +kernel
theorem dX12_does_12 : decode cX12_does 12 = .ok (.iload_n 1, 1) := by decide +kernel
theorem dX12_does_13 : decode cX12_does 13 = .ok (.invokevirtual 291, 3) := by decide +kernel
theorem dX12_does_16 : decode cX12_does 16 = .ok (.invokevirtual 294, 3) := by decide +kernel
theorem dX12_does_19 : decode cX12_does 19 = .ok (.pop, 1) := by decide +kernel
theorem dX12_does_20 : decode cX12_does 20 = .ok (.goto 85, 3) := by decide +kernel
theorem dX12_does_23 : decode cX12_does 23 = .ok (.iload_n 1, 1) := by decide +kernel
theorem dX12_does_24 : decode cX12_does 24 = .ok (.bipush 30, 2) := by decide +kernel
theorem dX12_does_26 : decode cX12_does 26 = .ok (.if_icmp .ge 17, 3) := by decide +kernel
theorem dX12_does_29 : decode cX12_does 29 = .ok (.aload_n 0, 1) := by decide +kernel
theorem dX12_does_30 : decode cX12_does 30 = .ok (.getfield 13, 3) := by decide +kernel
theorem dX12_does_33 : decode cX12_does 33 = .ok (.bipush 61, 2) := by decide +kernel
theorem dX12_does_35 : decode cX12_does 35 = .ok (.iload_n 1, 1) := by decide +kernel
theorem dX12_does_36 : decode cX12_does 36 = .ok (.bipush 20, 2) := by decide +kernel
theorem dX12_does_38 : decode cX12_does 38 = .ok (.isub, 1) := by decide +kernel
theorem dX12_does_39 : decode cX12_does 39 = .ok (.iastore, 1) := by decide +kernel
theorem dX12_does_40 : decode cX12_does 40 = .ok (.goto 65, 3) := by decide +kernel
theorem dX12_does_43 : decode cX12_does 43 = .ok (.iload_n 1, 1) := by decide +kernel
theorem dX12_does_44 : decode cX12_does 44 = .ok (.bipush 30, 2) := by decide +kernel
theorem dX12_does_46 : decode cX12_does 46 = .ok (.if_icmp .ne 22, 3) := by decide +kernel
theorem dX12_does_49 : decode cX12_does 49 = .ok (.aload_n 0, 1) := by decide +kernel
theorem dX12_does_50 : decode cX12_does 50 = .ok (.aload_n 0, 1) := by decide +kernel
theorem dX12_does_51 : decode cX12_does 51 = .ok (.aload_n 0, 1) := by decide +kernel
theorem dX12_does_52 : decode cX12_does 52 = .ok (.getfield 13, 3) := by decide +kernel
theorem dX12_does_55 : decode cX12_does 55 = .ok (.bipush 58, 2) := by decide +kernel
theorem dX12_does_57 : decode cX12_does 57 = .ok (.iaload, 1) := by decide +kernel
theorem dX12_does_58 : decode cX12_does 58 = .ok (.invokevirtual 269, 3) := by decide +kernel
theorem dX12_does_61 : decode cX12_does 61 = .ok (.invokevirtual 294, 3) := by decide +kernel
theorem dX12_does_64 : decode cX12_does 64 = .ok (.pop, 1) := by decide +kernel
theorem dX12_does_65 : decode cX12_does 65 = .ok (.goto 40, 3) := by decide +kernel
theorem dX12_does_68 : decode cX12_does 68 = .ok (.aload_n 0, 1) := by decide +kernel
theorem dX12_does_69 : decode cX12_does 69 = .ok (.getfield 13, 3) := by decide +kernel
theorem dX12_does_72 : decode cX12_does 72 = .ok (.bipush 62, 2) := by decide +kernel
theorem dX12_does_74 : decode cX12_does 74 = .ok (.iload_n 1, 1) := by decide +kernel
theorem dX12_does_75 : decode cX12_does 75 = .ok (.sipush 1000, 3) := by decide +kernel
theorem dX12_does_78 : decode cX12_does 78 = .ok (.isub, 1) := by decide +kernel
theorem dX12_does_79 : decode cX12_does 79 = .ok (.sipush 1000, 3) := by decide +kernel
theorem dX12_does_82 : decode cX12_does 82 = .ok (.idiv, 1) := by decide +kernel
theorem dX12_does_83 : decode cX12_does 83 = .ok (.iadd, 1) := by decide +kernel
theorem dX12_does_84 : decode cX12_does 84 = .ok (.iload_n 1, 1) := by decide +kernel
theorem dX12_does_85 : decode cX12_does 85 = .ok (.sipush 1000, 3) := by decide +kernel
theorem dX12_does_88 : decode cX12_does 88 = .ok (.irem, 1) := by decide +kernel
theorem dX12_does_89 : decode cX12_does 89 = .ok (.sipush 999, 3) := by decide +kernel
theorem dX12_does_92 : decode cX12_does 92 = .ok (.if_icmp .ne 7, 3) := by decide +kernel
theorem dX12_does_95 : decode cX12_does 95 = .ok (.iconst (-1), 1) := by decide +kernel
theorem dX12_does_96 : decode cX12_does 96 = .ok (.goto 8, 3) := by decide +kernel
theorem dX12_does_99 : decode cX12_does 99 = .ok (.iload_n 1, 1) := by decide +kernel
theorem dX12_does_100 : decode cX12_does 100 = .ok (.sipush 1000, 3) := by decide +kernel
theorem dX12_does_103 : decode cX12_does 103 = .ok (.irem, 1) := by decide +kernel
theorem dX12_does_104 : decode cX12_does 104 = .ok (.iastore, 1) := by decide +kernel
theorem dX12_does_105 : decode cX12_does 105 = .ok (.return_, 1) := by decide +kernel
def M_does (x1 : Int32) (h : Hp) (Q : Hp → Prop) : Prop := M_laysWays  h (fun h1 => (16 < x1 → (30 ≤ x1 → (¬ x1 = 30 → ∀ J104 : Int32 → Hp → Prop, J104 = (fun s2 h3 => vp_in ((62 : Int32) + ((x1 - 1000) / 1000)) 3276 ∧ ∀ h4 : Hp, h4 = sI h3 99 (((62 : Int32) + ((x1 - 1000) / 1000))).toNatClampNeg s2 → Q h4) → (¬ (x1 - x1 / 1000 * 1000) = 999 → J104 (x1 - x1 / 1000 * 1000) h1) ∧ ((x1 - x1 / 1000 * 1000) = 999 → J104 (-1) h1)) ∧ (x1 = 30 → M_planned (gI h1 99 58) h1 (fun r5 h6 => M_goesWay r5 h6 (fun r7 h8 => Q h8)))) ∧ (¬ 30 ≤ x1 → ∀ h9 : Hp, h9 = sI h1 99 61 (x1 - 20) → Q h9)) ∧ (¬ 16 < x1 → M_wayToldBy x1 h1 (fun r10 h11 => M_goesWay r10 h11 (fun r12 h13 => Q h13))))
set_option maxHeartbeats 4000000 in
set_option maxRecDepth 20000 in
theorem c_M_does {G : Gx}  {x1 : Int32} {h : Hp} {Q : Hp → Prop} (hw : M_does x1 h Q) : Ct yX12_does cX12_does 2 none 5 G [.ref (gAd G 98), .int x1] h (QV G Q) := by
  refine ct_go [(0, .ref (gAd G 98)), (1, .int x1)] (plainFor_of_name (by decide)) rfl (Nat.le_of_ble_eq_true rfl) rfl ?_
  refine g_aload_n dX12_does_0 rfl rfl ?_
  refine g_callVV [] (ci := 12) dX12_does_1 ml_X12_260 mk_X12_laysWays rfl rfl sh98 (Nat.le_of_ble_eq_true rfl) (Nat.le_of_ble_eq_true rfl) rfl (c_M_laysWays hw) (fun h1 hw => ?_)
  refine g_iload_n dX12_does_4 rfl rfl ?_
  refine g_bipush (v := 16) dX12_does_5 (by decide) ?_
  refine g_icmp_gt 23 dX12_does_7 rfl (fun hc => ?_) (fun hc => ?_)
  · have hw := hw.1 hc
    refine g_iload_n dX12_does_23 rfl rfl ?_
    refine g_bipush (v := 30) dX12_does_24 (by decide) ?_
    refine g_icmp_ge 43 dX12_does_26 rfl (fun hc => ?_) (fun hc => ?_)
    · have hw := hw.1 hc
      refine g_iload_n dX12_does_43 rfl rfl ?_
      refine g_bipush (v := 30) dX12_does_44 (by decide) ?_
      refine g_icmp_ne 68 dX12_does_46 rfl (fun hc => ?_) (fun hc => ?_)
      · have hw := hw.1 hc
        refine g_aload_n dX12_does_68 rfl rfl ?_
        refine g_getA dX12_does_69 fl_X12_13 sh98 rfl ?_
        refine g_bipush (v := 62) dX12_does_72 (by decide) ?_
        refine g_iload_n dX12_does_74 rfl rfl ?_
        refine g_sipush (v := 1000) dX12_does_75 (by decide) ?_
        refine g_isub dX12_does_78 ?_
        refine g_sipush (v := 1000) dX12_does_79 (by decide) ?_
        refine g_idiv dX12_does_82 (by decide) ?_
        refine g_iadd dX12_does_83 ?_
        refine g_iload_n dX12_does_84 rfl rfl ?_
        refine g_sipush (v := 1000) dX12_does_85 (by decide) ?_
        refine g_irem dX12_does_88 (by decide) ?_
        refine g_sipush (v := 999) dX12_does_89 (by decide) ?_
        refine jn_el hw (fun J104 eJ104 hw => ?_)
        have hJ104 : ∀ (s2 : Int32) (h3 : Hp), J104 s2 h3 → Go cX12_does 2 RX12 none 5 G (QV G Q) 104 [] [.int s2, .int ((62 : Int32) + ((x1 - 1000) / 1000)), .ref (gAd G 99)] h3 := by
          intro s2 h3 hw
          subst eJ104
          refine g_iast dX12_does_104 ia99 al99 hw.1 ?_
          have hw := hw.2
          refine g_heap (fun h4 eh4 => ?_)
          have hw := hw h4 eh4
          exact g_vret dX12_does_105 hw
        refine g_icmp_ne 99 dX12_does_92 rfl (fun hc => ?_) (fun hc => ?_)
        · have hw := hw.1 hc
          refine g_iload_n dX12_does_99 rfl rfl ?_
          refine g_sipush (v := 1000) dX12_does_100 (by decide) ?_
          refine g_irem dX12_does_103 (by decide) ?_
          refine g_lv [] rfl ?_
          exact hJ104 _ _ hw
        · have hw := hw.2 hc
          refine g_iconst (v := (-1)) dX12_does_95 (by decide) ?_
          refine g_goto 104 dX12_does_96 rfl ?_
          refine g_lv [] rfl ?_
          exact hJ104 _ _ hw
      · have hw := hw.2 hc
        refine g_aload_n dX12_does_49 rfl rfl ?_
        refine g_aload_n dX12_does_50 rfl rfl ?_
        refine g_aload_n dX12_does_51 rfl rfl ?_
        refine g_getA dX12_does_52 fl_X12_13 sh98 rfl ?_
        refine g_bipush (v := 58) dX12_does_55 (by decide) ?_
        refine g_ialdK dX12_does_57 ia99 al99 (by unfold vp_in; decide) (k := 58) (by decide) ?_
        refine g_callVI [.int (gI h1 99 58)] (ci := 12) dX12_does_58 ml_X12_269 mk_X12_planned rfl rfl sh98 (Nat.le_of_ble_eq_true rfl) (Nat.le_of_ble_eq_true rfl) rfl (c_M_planned hw) (fun r5 h6 hw => ?_)
        refine g_callVI [.int r5] (ci := 12) dX12_does_61 ml_X12_294 mk_X12_goesWay rfl rfl sh98 (Nat.le_of_ble_eq_true rfl) (Nat.le_of_ble_eq_true rfl) rfl (c_M_goesWay hw) (fun r7 h8 hw => ?_)
        refine g_pop dX12_does_64 rfl ?_
        refine g_goto 105 dX12_does_65 rfl ?_
        exact g_vret dX12_does_105 hw
    · have hw := hw.2 hc
      refine g_aload_n dX12_does_29 rfl rfl ?_
      refine g_getA dX12_does_30 fl_X12_13 sh98 rfl ?_
      refine g_bipush (v := 61) dX12_does_33 (by decide) ?_
      refine g_iload_n dX12_does_35 rfl rfl ?_
      refine g_bipush (v := 20) dX12_does_36 (by decide) ?_
      refine g_isub dX12_does_38 ?_
      refine g_iastK dX12_does_39 ia99 al99 (by unfold vp_in; decide) (k := 61) (by decide) ?_
      refine g_heap (fun h9 eh9 => ?_)
      have hw := hw h9 eh9
      refine g_goto 105 dX12_does_40 rfl ?_
      exact g_vret dX12_does_105 hw
  · have hw := hw.2 hc
    refine g_aload_n dX12_does_10 rfl rfl ?_
    refine g_aload_n dX12_does_11 rfl rfl ?_
    refine g_iload_n dX12_does_12 rfl rfl ?_
    refine g_callVI [.int x1] (ci := 12) dX12_does_13 ml_X12_291 mk_X12_wayToldBy rfl rfl sh98 (Nat.le_of_ble_eq_true rfl) (Nat.le_of_ble_eq_true rfl) rfl (c_M_wayToldBy hw) (fun r10 h11 hw => ?_)
    refine g_callVI [.int r10] (ci := 12) dX12_does_16 ml_X12_294 mk_X12_goesWay rfl rfl sh98 (Nat.le_of_ble_eq_true rfl) (Nat.le_of_ble_eq_true rfl) rfl (c_M_goesWay hw) (fun r12 h13 hw => ?_)
    refine g_pop dX12_does_19 rfl ?_
    refine g_goto 105 dX12_does_20 rfl ?_
    exact g_vret dX12_does_105 hw
theorem dX12_tells_0 : decode cX12_tells 0 = .ok (.aload_n 0, 1) := by decide +kernel
theorem dX12_tells_1 : decode cX12_tells 1 = .ok (.iconst 0, 1) := by decide +kernel
theorem dX12_tells_2 : decode cX12_tells 2 = .ok (.putfield 327, 3) := by decide +kernel
theorem dX12_tells_5 : decode cX12_tells 5 = .ok (.iconst 0, 1) := by decide +kernel
theorem dX12_tells_6 : decode cX12_tells 6 = .ok (.istore_n 2, 1) := by decide +kernel
theorem dX12_tells_7 : decode cX12_tells 7 = .ok (.iload_n 2, 1) := by decide +kernel
theorem dX12_tells_8 : decode cX12_tells 8 = .ok (.aload_n 0, 1) := by decide +kernel
theorem dX12_tells_9 : decode cX12_tells 9 = .ok (.getfield 97, 3) := by decide +kernel
theorem dX12_tells_12 : decode cX12_tells 12 = .ok (.iload_n 1, 1) := by decide +kernel
theorem dX12_tells_13 : decode cX12_tells 13 = .ok (.iaload, 1) := by decide +kernel
theorem dX12_tells_14 : decode cX12_tells 14 = .ok (.if_icmp .ge 53, 3) := by decide +kernel
theorem dX12_tells_17 : decode cX12_tells 17 = .ok (.aload_n 0, 1) := by decide +kernel
theorem dX12_tells_18 : decode cX12_tells 18 = .ok (.aload_n 0, 1) := by decide +kernel
theorem dX12_tells_19 : decode cX12_tells 19 = .ok (.aload_n 0, 1) := by decide +kernel
theorem dX12_tells_20 : decode cX12_tells 20 = .ok (.getfield 100, 3) := by decide +kernel
theorem dX12_tells_23 : decode cX12_tells 23 = .ok (.bipush 40, 2) := by decide +kernel
theorem dX12_tells_25 : decode cX12_tells 25 = .ok (.iload_n 1, 1) := by decide +kernel
theorem dX12_tells_26 : decode cX12_tells 26 = .ok (.imul, 1) := by decide +kernel
theorem dX12_tells_27 : decode cX12_tells 27 = .ok (.iload_n 2, 1) := by decide +kernel
theorem dX12_tells_28 : decode cX12_tells 28 = .ok (.iadd, 1) := by decide +kernel
theorem dX12_tells_29 : decode cX12_tells 29 = .ok (.laload, 1) := by decide +kernel
theorem dX12_tells_30 : decode cX12_tells 30 = .ok (.invokevirtual 330, 3) := by decide +kernel
theorem dX12_tells_33 : decode cX12_tells 33 = .ok (.putfield 327, 3) := by decide +kernel
theorem dX12_tells_36 : decode cX12_tells 36 = .ok (.aload_n 0, 1) := by decide +kernel
theorem dX12_tells_37 : decode cX12_tells 37 = .ok (.getfield 327, 3) := by decide +kernel
theorem dX12_tells_40 : decode cX12_tells 40 = .ok (.ifCond .eq 5, 3) := by decide +kernel
theorem dX12_tells_43 : decode cX12_tells 43 = .ok (.iload_n 2, 1) := by decide +kernel
theorem dX12_tells_44 : decode cX12_tells 44 = .ok (.ireturn, 1) := by decide +kernel
theorem dX12_tells_45 : decode cX12_tells 45 = .ok (.aload_n 0, 1) := by decide +kernel
theorem dX12_tells_46 : decode cX12_tells 46 = .ok (.aload_n 0, 1) := by decide +kernel
theorem dX12_tells_47 : decode cX12_tells 47 = .ok (.getfield 100, 3) := by decide +kernel
theorem dX12_tells_50 : decode cX12_tells 50 = .ok (.bipush 40, 2) := by decide +kernel
theorem dX12_tells_52 : decode cX12_tells 52 = .ok (.iload_n 1, 1) := by decide +kernel
theorem dX12_tells_53 : decode cX12_tells 53 = .ok (.imul, 1) := by decide +kernel
theorem dX12_tells_54 : decode cX12_tells 54 = .ok (.iload_n 2, 1) := by decide +kernel
theorem dX12_tells_55 : decode cX12_tells 55 = .ok (.iadd, 1) := by decide +kernel
theorem dX12_tells_56 : decode cX12_tells 56 = .ok (.laload, 1) := by decide +kernel
theorem dX12_tells_57 : decode cX12_tells 57 = .ok (.l2i, 1) := by decide +kernel
theorem dX12_tells_58 : decode cX12_tells 58 = .ok (.invokevirtual 333, 3) := by decide +kernel
theorem dX12_tells_61 : decode cX12_tells 61 = .ok (.iinc 2 1, 3) := by decide +kernel
theorem dX12_tells_64 : decode cX12_tells 64 = .ok (.goto (-57), 3) := by decide +kernel
theorem dX12_tells_67 : decode cX12_tells 67 = .ok (.aload_n 0, 1) := by decide +kernel
theorem dX12_tells_68 : decode cX12_tells 68 = .ok (.getfield 97, 3) := by decide +kernel
theorem dX12_tells_71 : decode cX12_tells 71 = .ok (.iload_n 1, 1) := by decide +kernel
theorem dX12_tells_72 : decode cX12_tells 72 = .ok (.iaload, 1) := by decide +kernel
theorem dX12_tells_73 : decode cX12_tells 73 = .ok (.ireturn, 1) := by decide +kernel
theorem fl_X12_327 : FLk RX12 327 12 22 := ⟨_, rfl, by decide, mW 1404 (by decide +kernel) rfl⟩
theorem pf_12_22 : parseFieldDescriptor (uD 12 22) = some .int := by decide +kernel
theorem fl_X12_97 : FLk RX12 97 12 44 := ⟨_, rfl, by decide, mW 1426 (by decide +kernel) rfl⟩
theorem fl_X12_100 : FLk RX12 100 12 45 := ⟨_, rfl, by decide, mW 1427 (by decide +kernel) rfl⟩
theorem ml_X12_330 : Cond.methodLink RX12 330 yX12_whyNot ∈ Wd := mW 1808 (by decide +kernel) rfl
theorem mk_X12_whyNot : MokV yX12_whyNot cX12_whyNot 3 (some .int) 1 := ⟨⟨mW 14 (by decide +kernel) rfl, mW 1811 (by decide +kernel) rfl, ⟨by decide, by decide, by decide +kernel⟩, by decide⟩, mW 1810 (by decide +kernel) rfl, mS (q := (yX12_whyNot, 46)) 97 (by decide +kernel)⟩
theorem ml_X12_333 : Cond.methodLink RX12 333 yX12_does ∈ Wd := mW 1817 (by decide +kernel) rfl
theorem mk_X12_does : MokV yX12_does cX12_does 2 none 1 := ⟨⟨mW 14 (by decide +kernel) rfl, mW 1820 (by decide +kernel) rfl, ⟨by decide, by decide, by decide +kernel⟩, by decide⟩, mW 1819 (by decide +kernel) rfl, mS (q := (yX12_does, 46)) 98 (by decide +kernel)⟩
def M_tells_L7 (x1 : Int32) (Q : Int32 → Hp → Prop) : Nat → Int32 → Hp → Prop
  | 0, _, _ => False
  | n + 1, x2, h => vp_in x1 4 ∧ ((gI h 125 (x1).toNatClampNeg) ≤ x2 → vp_in x1 4 ∧ Q (gI h 125 (x1).toNatClampNeg) h) ∧ (¬ (gI h 125 (x1).toNatClampNeg) ≤ x2 → vp_in (((40 : Int32) * x1) + x2) 160 ∧ M_whyNot (gJ h 126 ((((40 : Int32) * x1) + x2)).toNatClampNeg) h (fun r2 h3 => ∀ h4 : Hp, h4 = sI h3 98 22 r2 → ((gI h4 98 22) = 0 → vp_in (((40 : Int32) * x1) + x2) 160 ∧ M_does (((gJ h4 126 ((((40 : Int32) * x1) + x2)).toNatClampNeg)).toInt32) h4 (fun h5 => ∀ v6 : Int32, v6 = (x2 + 1) → M_tells_L7 x1 Q n v6 h5)) ∧ (¬ (gI h4 98 22) = 0 → Q x2 h4)))
set_option maxHeartbeats 4000000 in
set_option maxRecDepth 20000 in
theorem gl_M_tells_L7 {G : Gx}  {x1 : Int32} {Q : Int32 → Hp → Prop} : ∀ (n : Nat) (x2 : Int32) (h : Hp), M_tells_L7 x1 Q n x2 h → Go cX12_tells 3 RX12 (some .int) 7 G (QI G Q) 7 [(0, .ref (gAd G 98)), (1, .int x1), (2, .int x2)] [] h := by
  intro n
  induction n with
  | zero => intro _ h hw; exact False.elim hw
  | succ n ih =>
    intro x2 h hw
    refine g_iload_n dX12_tells_7 rfl rfl ?_
    refine g_aload_n dX12_tells_8 rfl rfl ?_
    refine g_getA dX12_tells_9 fl_X12_97 sh98 rfl ?_
    refine g_iload_n dX12_tells_12 rfl rfl ?_
    refine g_iald dX12_tells_13 ia125 al125 hw.1 ?_
    have hw := hw.2
    refine g_icmp_ge 67 dX12_tells_14 rfl (fun hc => ?_) (fun hc => ?_)
    · have hw := hw.1 hc
      refine g_aload_n dX12_tells_67 rfl rfl ?_
      refine g_getA dX12_tells_68 fl_X12_97 sh98 rfl ?_
      refine g_iload_n dX12_tells_71 rfl rfl ?_
      refine g_iald dX12_tells_72 ia125 al125 hw.1 ?_
      have hw := hw.2
      exact g_iret dX12_tells_73 hw
    · have hw := hw.2 hc
      refine g_aload_n dX12_tells_17 rfl rfl ?_
      refine g_aload_n dX12_tells_18 rfl rfl ?_
      refine g_aload_n dX12_tells_19 rfl rfl ?_
      refine g_getA dX12_tells_20 fl_X12_100 sh98 rfl ?_
      refine g_bipush (v := 40) dX12_tells_23 (by decide) ?_
      refine g_iload_n dX12_tells_25 rfl rfl ?_
      refine g_imul dX12_tells_26 ?_
      refine g_iload_n dX12_tells_27 rfl rfl ?_
      refine g_iadd dX12_tells_28 ?_
      refine g_lald dX12_tells_29 ia126 al126 hw.1 ?_
      have hw := hw.2
      refine g_callVI [.long (gJ h 126 ((((40 : Int32) * x1) + x2)).toNatClampNeg)] (ci := 12) dX12_tells_30 ml_X12_330 mk_X12_whyNot rfl rfl sh98 (Nat.le_of_ble_eq_true rfl) (Nat.le_of_ble_eq_true rfl) rfl (c_M_whyNot hw) (fun r2 h3 hw => ?_)
      refine g_putI dX12_tells_33 fl_X12_327 sh98 rfl rfl pf_12_22 ?_
      refine g_heap (fun h4 eh4 => ?_)
      have hw := hw h4 eh4
      refine g_aload_n dX12_tells_36 rfl rfl ?_
      refine g_getI dX12_tells_37 fl_X12_327 sh98 rfl ?_
      refine g_if_eq 45 dX12_tells_40 rfl (fun hc => ?_) (fun hc => ?_)
      · have hw := hw.1 hc
        refine g_aload_n dX12_tells_45 rfl rfl ?_
        refine g_aload_n dX12_tells_46 rfl rfl ?_
        refine g_getA dX12_tells_47 fl_X12_100 sh98 rfl ?_
        refine g_bipush (v := 40) dX12_tells_50 (by decide) ?_
        refine g_iload_n dX12_tells_52 rfl rfl ?_
        refine g_imul dX12_tells_53 ?_
        refine g_iload_n dX12_tells_54 rfl rfl ?_
        refine g_iadd dX12_tells_55 ?_
        refine g_lald dX12_tells_56 ia126 al126 hw.1 ?_
        have hw := hw.2
        refine g_l2i dX12_tells_57 ?_
        refine g_callVV [.int (((gJ h4 126 ((((40 : Int32) * x1) + x2)).toNatClampNeg)).toInt32)] (ci := 12) dX12_tells_58 ml_X12_333 mk_X12_does rfl rfl sh98 (Nat.le_of_ble_eq_true rfl) (Nat.le_of_ble_eq_true rfl) rfl (c_M_does hw) (fun h5 hw => ?_)
        obtain ⟨v6, ev6⟩ : ∃ y : Int32, y = (x2 + 1) := ⟨_, rfl⟩
        have hw := hw v6 ev6
        refine g_iinc dX12_tells_61 rfl (by rw [ev6]; rfl) (by decide) (lv1 := [(0, .ref (gAd G 98)), (1, .int x1), (2, .int v6)]) rfl ?_
        refine g_goto 7 dX12_tells_64 rfl ?_
        exact ih _ _ hw
      · have hw := hw.2 hc
        refine g_iload_n dX12_tells_43 rfl rfl ?_
        exact g_iret dX12_tells_44 hw
def M_tells (x1 : Int32) (h : Hp) (Q : Int32 → Hp → Prop) : Prop := ∀ h1 : Hp, h1 = sI h 98 22 0 → ∃ n7, M_tells_L7 x1 Q n7 0 h1
set_option maxHeartbeats 4000000 in
set_option maxRecDepth 20000 in
theorem c_M_tells {G : Gx}  {x1 : Int32} {h : Hp} {Q : Int32 → Hp → Prop} (hw : M_tells x1 h Q) : Ct yX12_tells cX12_tells 3 (some .int) 7 G [.ref (gAd G 98), .int x1] h (QI G Q) := by
  refine ct_go [(0, .ref (gAd G 98)), (1, .int x1)] (plainFor_of_name (by decide)) rfl (Nat.le_of_ble_eq_true rfl) rfl ?_
  refine g_aload_n dX12_tells_0 rfl rfl ?_
  refine g_iconst (v := 0) dX12_tells_1 (by decide) ?_
  refine g_putI dX12_tells_2 fl_X12_327 sh98 rfl rfl pf_12_22 ?_
  refine g_heap (fun h1 eh1 => ?_)
  have hw := hw h1 eh1
  refine g_iconst (v := 0) dX12_tells_5 (by decide) ?_
  refine g_istore_n dX12_tells_6 rfl (by decide) (lv1 := [(0, .ref (gAd G 98)), (1, .int x1), (2, .int 0)]) rfl ?_
  obtain ⟨n7, hw⟩ := hw
  refine gl_M_tells_L7   _ _ _ hw
theorem dX12_isAgain_0 : decode cX12_isAgain 0 = .ok (.iconst 0, 1) := by decide +kernel
theorem dX12_isAgain_1 : decode cX12_isAgain 1 = .ok (.istore_n 1, 1) := by decide +kernel
theorem dX12_isAgain_2 : decode cX12_isAgain 2 = .ok (.iload_n 1, 1) := by decide +kernel
theorem dX12_isAgain_3 : decode cX12_isAgain 3 = .ok (.bipush 12, 2) := by decide +kernel
theorem dX12_isAgain_5 : decode cX12_isAgain 5 = .ok (.if_icmp .ge 24, 3) := by decide +kernel
theorem dX12_isAgain_8 : decode cX12_isAgain 8 = .ok (.aload_n 0, 1) := by decide +kernel
theorem dX12_isAgain_9 : decode cX12_isAgain 9 = .ok (.getfield 13, 3) := by decide +kernel
theorem dX12_isAgain_12 : decode cX12_isAgain 12 = .ok (.bipush 58, 2) := by decide +kernel
theorem dX12_isAgain_14 : decode cX12_isAgain 14 = .ok (.iload_n 1, 1) := by decide +kernel
theorem dX12_isAgain_15 : decode cX12_isAgain 15 = .ok (.iadd, 1) := by decide +kernel
theorem dX12_isAgain_16 : decode cX12_isAgain 16 = .ok (.aload_n 0, 1) := by decide +kernel
theorem dX12_isAgain_17 : decode cX12_isAgain 17 = .ok (.getfield 48, 3) := by decide +kernel
theorem dX12_isAgain_20 : decode cX12_isAgain 20 = .ok (.iload_n 1, 1) := by decide +kernel
theorem dX12_isAgain_21 : decode cX12_isAgain 21 = .ok (.iaload, 1) := by decide +kernel
theorem dX12_isAgain_22 : decode cX12_isAgain 22 = .ok (.iastore, 1) := by decide +kernel
theorem dX12_isAgain_23 : decode cX12_isAgain 23 = .ok (.iinc 1 1, 3) := by decide +kernel
theorem dX12_isAgain_26 : decode cX12_isAgain 26 = .ok (.goto (-24), 3) := by decide +kernel
theorem dX12_isAgain_29 : decode cX12_isAgain 29 = .ok (.return_, 1) := by decide +kernel
def M_isAgain_L2 (Q : Hp → Prop) : Nat → Int32 → Hp → Prop
  | 0, _, _ => False
  | n + 1, x1, h => (12 ≤ x1 → Q h) ∧ (¬ 12 ≤ x1 → vp_in x1 12 ∧ vp_in ((58 : Int32) + x1) 3276 ∧ ∀ h1 : Hp, h1 = sI h 99 (((58 : Int32) + x1)).toNatClampNeg (gI h 109 (x1).toNatClampNeg) → ∀ v2 : Int32, v2 = (x1 + 1) → M_isAgain_L2 Q n v2 h1)
set_option maxHeartbeats 4000000 in
set_option maxRecDepth 20000 in
theorem gl_M_isAgain_L2 {G : Gx}  {Q : Hp → Prop} : ∀ (n : Nat) (x1 : Int32) (h : Hp), M_isAgain_L2 Q n x1 h → Go cX12_isAgain 2 RX12 none 1 G (QV G Q) 2 [(0, .ref (gAd G 98)), (1, .int x1)] [] h := by
  intro n
  induction n with
  | zero => intro _ h hw; exact False.elim hw
  | succ n ih =>
    intro x1 h hw
    refine g_iload_n dX12_isAgain_2 rfl rfl ?_
    refine g_bipush (v := 12) dX12_isAgain_3 (by decide) ?_
    refine g_icmp_ge 29 dX12_isAgain_5 rfl (fun hc => ?_) (fun hc => ?_)
    · have hw := hw.1 hc
      exact g_vret dX12_isAgain_29 hw
    · have hw := hw.2 hc
      refine g_aload_n dX12_isAgain_8 rfl rfl ?_
      refine g_getA dX12_isAgain_9 fl_X12_13 sh98 rfl ?_
      refine g_bipush (v := 58) dX12_isAgain_12 (by decide) ?_
      refine g_iload_n dX12_isAgain_14 rfl rfl ?_
      refine g_iadd dX12_isAgain_15 ?_
      refine g_aload_n dX12_isAgain_16 rfl rfl ?_
      refine g_getA dX12_isAgain_17 fl_X12_48 sh98 rfl ?_
      refine g_iload_n dX12_isAgain_20 rfl rfl ?_
      refine g_iald dX12_isAgain_21 ia109 al109 hw.1 ?_
      have hw := hw.2
      refine g_iast dX12_isAgain_22 ia99 al99 hw.1 ?_
      have hw := hw.2
      refine g_heap (fun h1 eh1 => ?_)
      have hw := hw h1 eh1
      obtain ⟨v2, ev2⟩ : ∃ y : Int32, y = (x1 + 1) := ⟨_, rfl⟩
      have hw := hw v2 ev2
      refine g_iinc dX12_isAgain_23 rfl (by rw [ev2]; rfl) (by decide) (lv1 := [(0, .ref (gAd G 98)), (1, .int v2)]) rfl ?_
      refine g_goto 2 dX12_isAgain_26 rfl ?_
      exact ih _ _ hw
def M_isAgain  (h : Hp) (Q : Hp → Prop) : Prop := ∃ n3, M_isAgain_L2 Q n3 0 h
set_option maxHeartbeats 4000000 in
set_option maxRecDepth 20000 in
theorem c_M_isAgain {G : Gx}   {h : Hp} {Q : Hp → Prop} (hw : M_isAgain  h Q) : Ct yX12_isAgain cX12_isAgain 2 none 1 G [.ref (gAd G 98)] h (QV G Q) := by
  refine ct_go [(0, .ref (gAd G 98))] (plainFor_of_name (by decide)) rfl (Nat.le_of_ble_eq_true rfl) rfl ?_
  refine g_iconst (v := 0) dX12_isAgain_0 (by decide) ?_
  refine g_istore_n dX12_isAgain_1 rfl (by decide) (lv1 := [(0, .ref (gAd G 98)), (1, .int 0)]) rfl ?_
  obtain ⟨n3, hw⟩ := hw
  refine gl_M_isAgain_L2   _ _ _ hw
theorem dX12_judge_0 : decode cX12_judge 0 = .ok (.aload_n 0, 1) := by decide +kernel
theorem dX12_judge_1 : decode cX12_judge 1 = .ok (.iconst 0, 1) := by decide +kernel
theorem dX12_judge_2 : decode cX12_judge 2 = .ok (.putfield 1, 3) := by decide +kernel
theorem dX12_judge_5 : decode cX12_judge 5 = .ok (.iload_n 2, 1) := by decide +kernel
theorem dX12_judge_6 : decode cX12_judge 6 = .ok (.i2l, 1) := by decide +kernel
theorem dX12_judge_7 : decode cX12_judge 7 = .ok (.lconst 0, 1) := by decide +kernel
theorem dX12_judge_8 : decode cX12_judge 8 = .ok (.ldc2_w 336, 3) := by decide +kernel
theorem dX12_judge_11 : decode cX12_judge 11 = .ok (.invokestatic 169, 3) := by decide +kernel
theorem dX12_judge_14 : decode cX12_judge 14 = .ok (.ifCond .ne 6, 3) := by decide +kernel
theorem dX12_judge_17 : decode cX12_judge 17 = .ok (.bipush (-2), 2) := by decide +kernel
theorem dX12_judge_19 : decode cX12_judge 19 = .ok (.ireturn, 1) := by decide +kernel
theorem dX12_judge_20 : decode cX12_judge 20 = .ok (.aload_n 0, 1) := by decide +kernel
theorem dX12_judge_21 : decode cX12_judge 21 = .ok (.iload_n 1, 1) := by decide +kernel
theorem dX12_judge_22 : decode cX12_judge 22 = .ok (.invokevirtual 338, 3) := by decide +kernel
theorem dX12_judge_25 : decode cX12_judge 25 = .ok (.istore_n 3, 1) := by decide +kernel
theorem dX12_judge_26 : decode cX12_judge 26 = .ok (.iload_n 3, 1) := by decide +kernel
theorem dX12_judge_27 : decode cX12_judge 27 = .ok (.ifCond .eq 5, 3) := by decide +kernel
theorem dX12_judge_30 : decode cX12_judge 30 = .ok (.iload_n 3, 1) := by decide +kernel
theorem dX12_judge_31 : decode cX12_judge 31 = .ok (.ireturn, 1) := by decide +kernel
theorem dX12_judge_32 : decode cX12_judge 32 = .ok (.aload_n 0, 1) := by decide +kernel
theorem dX12_judge_33 : decode cX12_judge 33 = .ok (.invokevirtual 288, 3) := by decide +kernel
theorem dX12_judge_36 : decode cX12_judge 36 = .ok (.aload_n 0, 1) := by decide +kernel
theorem dX12_judge_37 : decode cX12_judge 37 = .ok (.iload_n 1, 1) := by decide +kernel
theorem dX12_judge_38 : decode cX12_judge 38 = .ok (.invokevirtual 341, 3) := by decide +kernel
theorem dX12_judge_41 : decode cX12_judge 41 = .ok (.istore 4, 2) := by decide +kernel
theorem dX12_judge_43 : decode cX12_judge 43 = .ok (.aload_n 0, 1) := by decide +kernel
theorem dX12_judge_44 : decode cX12_judge 44 = .ok (.getfield 13, 3) := by decide +kernel
theorem dX12_judge_47 : decode cX12_judge 47 = .ok (.bipush 58, 2) := by decide +kernel
theorem dX12_judge_49 : decode cX12_judge 49 = .ok (.iaload, 1) := by decide +kernel
theorem dX12_judge_50 : decode cX12_judge 50 = .ok (.istore 5, 2) := by decide +kernel
theorem dX12_judge_52 : decode cX12_judge 52 = .ok (.aload_n 0, 1) := by decide +kernel
theorem dX12_judge_53 : decode cX12_judge 53 = .ok (.getfield 13, 3) := by decide +kernel
theorem dX12_judge_56 : decode cX12_judge 56 = .ok (.bipush 59, 2) := by decide +kernel
theorem dX12_judge_58 : decode cX12_judge 58 = .ok (.iaload, 1) := by decide +kernel
theorem dX12_judge_59 : decode cX12_judge 59 = .ok (.istore 6, 2) := by decide +kernel
theorem dX12_judge_61 : decode cX12_judge 61 = .ok (.aload_n 0, 1) := by decide +kernel
theorem dX12_judge_62 : decode cX12_judge 62 = .ok (.invokevirtual 344, 3) := by decide +kernel
theorem dX12_judge_65 : decode cX12_judge 65 = .ok (.iload_n 2, 1) := by decide +kernel
theorem dX12_judge_66 : decode cX12_judge 66 = .ok (.ifCond .ne 19, 3) := by decide +kernel
theorem dX12_judge_69 : decode cX12_judge 69 = .ok (.aload_n 0, 1) := by decide +kernel
theorem dX12_judge_70 : decode cX12_judge 70 = .ok (.getfield 327, 3) := by decide +kernel
theorem dX12_judge_73 : decode cX12_judge 73 = .ok (.ifCond .ne 7, 3) := by decide +kernel
theorem dX12_judge_76 : decode cX12_judge 76 = .ok (.iconst (-1), 1) := by decide +kernel
theorem dX12_judge_77 : decode cX12_judge 77 = .ok (.goto 36, 3) := by decide +kernel
theorem dX12_judge_80 : decode cX12_judge 80 = .ok (.iload 4, 2) := by decide +kernel
theorem dX12_judge_82 : decode cX12_judge 82 = .ok (.goto 31, 3) := by decide +kernel
theorem dX12_judge_85 : decode cX12_judge 85 = .ok (.iload_n 2, 1) := by decide +kernel
theorem dX12_judge_86 : decode cX12_judge 86 = .ok (.iconst 1, 1) := by decide +kernel
theorem dX12_judge_87 : decode cX12_judge 87 = .ok (.if_icmp .ne 10, 3) := by decide +kernel
theorem dX12_judge_90 : decode cX12_judge 90 = .ok (.aload_n 0, 1) := by decide +kernel
theorem dX12_judge_91 : decode cX12_judge 91 = .ok (.getfield 327, 3) := by decide +kernel
theorem dX12_judge_94 : decode cX12_judge 94 = .ok (.goto 19, 3) := by decide +kernel
theorem dX12_judge_97 : decode cX12_judge 97 = .ok (.iload_n 2, 1) := by decide +kernel
theorem dX12_judge_98 : decode cX12_judge 98 = .ok (.iconst 2, 1) := by decide +kernel
theorem dX12_judge_99 : decode cX12_judge 99 = .ok (.if_icmp .ne 8, 3) := by decide +kernel
theorem dX12_judge_102 : decode cX12_judge 102 = .ok (.iload 5, 2) := by decide +kernel
theorem dX12_judge_104 : decode cX12_judge 104 = .ok (.goto 9, 3) := by decide +kernel
theorem dX12_judge_107 : decode cX12_judge 107 = .ok (.iload 6, 2) := by decide +kernel
theorem dX12_judge_109 : decode cX12_judge 109 = .ok (.ldc_w 347, 3) := by decide +kernel
theorem dX12_judge_112 : decode cX12_judge 112 = .ok (.iadd, 1) := by decide +kernel
theorem dX12_judge_113 : decode cX12_judge 113 = .ok (.ireturn, 1) := by decide +kernel
theorem ml_X12_338 : Cond.methodLink RX12 338 yX12_noTray ∈ Wd := mW 1800 (by decide +kernel) rfl
theorem mk_X12_noTray : MokV yX12_noTray cX12_noTray 2 (some .int) 1 := ⟨⟨mW 14 (by decide +kernel) rfl, mW 1803 (by decide +kernel) rfl, ⟨by decide, by decide, by decide +kernel⟩, by decide⟩, mW 1802 (by decide +kernel) rfl, mS (q := (yX12_noTray, 46)) 95 (by decide +kernel)⟩
theorem ml_X12_341 : Cond.methodLink RX12 341 yX12_tells ∈ Wd := mW 1804 (by decide +kernel) rfl
theorem mk_X12_tells : MokV yX12_tells cX12_tells 3 (some .int) 1 := ⟨⟨mW 14 (by decide +kernel) rfl, mW 1807 (by decide +kernel) rfl, ⟨by decide, by decide, by decide +kernel⟩, by decide⟩, mW 1806 (by decide +kernel) rfl, mS (q := (yX12_tells, 46)) 96 (by decide +kernel)⟩
theorem ml_X12_344 : Cond.methodLink RX12 344 yX12_isAgain ∈ Wd := mW 1821 (by decide +kernel) rfl
theorem mk_X12_isAgain : MokV yX12_isAgain cX12_isAgain 2 none 0 := ⟨⟨mW 14 (by decide +kernel) rfl, mW 1824 (by decide +kernel) rfl, ⟨by decide, by decide, by decide +kernel⟩, by decide⟩, mW 1823 (by decide +kernel) rfl, mS (q := (yX12_isAgain, 46)) 99 (by decide +kernel)⟩
theorem kc_X12_347 : Cond.constant RX12 347 (1000000) ∈ Wd := mW 1825 (by decide +kernel) rfl
def M_judge (x1 : Int32) (x2 : Int32) (h : Hp) (Q : Int32 → Hp → Prop) : Prop := ∀ h1 : Hp, h1 = sI h 98 0 0 → M_within ((x2).toInt64) (0 : Int64) (3 : Int64) h1 (fun r2 h3 => (¬ r2 = 0 → M_noTray x1 h3 (fun r4 h5 => (r4 = 0 → M_stores  h5 (fun h6 => M_tells x1 h6 (fun r7 h8 => ∀ v9 : Int32, v9 = (gI h8 99 58) → ∀ v10 : Int32, v10 = (gI h8 99 59) → M_isAgain  h8 (fun h11 => (¬ x2 = 0 → (¬ x2 = 1 → (¬ x2 = 2 → Q (v10 + 1000000) h11) ∧ (x2 = 2 → Q v9 h11)) ∧ (x2 = 1 → Q (gI h11 98 22) h11)) ∧ (x2 = 0 → (¬ (gI h11 98 22) = 0 → Q r7 h11) ∧ ((gI h11 98 22) = 0 → Q (-1) h11)))))) ∧ (¬ r4 = 0 → Q r4 h5))) ∧ (r2 = 0 → Q (-2) h3))
set_option maxHeartbeats 4000000 in
set_option maxRecDepth 20000 in
theorem c_M_judge {G : Gx}  {x1 : Int32} {x2 : Int32} {h : Hp} {Q : Int32 → Hp → Prop} (hw : M_judge x1 x2 h Q) : Ct yX12_judge cX12_judge 7 (some .int) 8 G [.ref (gAd G 98), .int x1, .int x2] h (QI G Q) := by
  refine ct_go [(0, .ref (gAd G 98)), (1, .int x1), (2, .int x2)] (plainFor_of_name (by decide)) rfl (Nat.le_of_ble_eq_true rfl) rfl ?_
  refine g_aload_n dX12_judge_0 rfl rfl ?_
  refine g_iconst (v := 0) dX12_judge_1 (by decide) ?_
  refine g_putI dX12_judge_2 fl_X12_1 sh98 rfl rfl pf_12_0 ?_
  refine g_heap (fun h1 eh1 => ?_)
  have hw := hw h1 eh1
  refine g_iload_n dX12_judge_5 rfl rfl ?_
  refine g_i2l dX12_judge_6 ?_
  refine g_lconst (v := (0 : Int64)) dX12_judge_7 (by decide) ?_
  refine g_ldc2 dX12_judge_8 kl_X12_336 ?_
  refine g_callSI [.long ((x2).toInt64), .long (0 : Int64), .long (3 : Int64)] dX12_judge_11 ml_X12_169 mk_X12_within rfl (Nat.le_of_ble_eq_true rfl) (Nat.le_of_ble_eq_true rfl) rfl (c_M_within hw) (fun r2 h3 hw => ?_)
  refine g_if_ne 20 dX12_judge_14 rfl (fun hc => ?_) (fun hc => ?_)
  · have hw := hw.1 hc
    refine g_aload_n dX12_judge_20 rfl rfl ?_
    refine g_iload_n dX12_judge_21 rfl rfl ?_
    refine g_callVI [.int x1] (ci := 12) dX12_judge_22 ml_X12_338 mk_X12_noTray rfl rfl sh98 (Nat.le_of_ble_eq_true rfl) (Nat.le_of_ble_eq_true rfl) rfl (c_M_noTray hw) (fun r4 h5 hw => ?_)
    refine g_istore_n dX12_judge_25 rfl (by decide) (lv1 := [(0, .ref (gAd G 98)), (1, .int x1), (2, .int x2), (3, .int r4)]) rfl ?_
    refine g_iload_n dX12_judge_26 rfl rfl ?_
    refine g_if_eq 32 dX12_judge_27 rfl (fun hc => ?_) (fun hc => ?_)
    · have hw := hw.1 hc
      refine g_aload_n dX12_judge_32 rfl rfl ?_
      refine g_callVV [] (ci := 12) dX12_judge_33 ml_X12_288 mk_X12_stores rfl rfl sh98 (Nat.le_of_ble_eq_true rfl) (Nat.le_of_ble_eq_true rfl) rfl (c_M_stores hw) (fun h6 hw => ?_)
      refine g_aload_n dX12_judge_36 rfl rfl ?_
      refine g_iload_n dX12_judge_37 rfl rfl ?_
      refine g_callVI [.int x1] (ci := 12) dX12_judge_38 ml_X12_341 mk_X12_tells rfl rfl sh98 (Nat.le_of_ble_eq_true rfl) (Nat.le_of_ble_eq_true rfl) rfl (c_M_tells hw) (fun r7 h8 hw => ?_)
      refine g_istore dX12_judge_41 (by decide) (lv1 := [(0, .ref (gAd G 98)), (1, .int x1), (2, .int x2), (3, .int r4), (4, .int r7)]) rfl ?_
      refine g_aload_n dX12_judge_43 rfl rfl ?_
      refine g_getA dX12_judge_44 fl_X12_13 sh98 rfl ?_
      refine g_bipush (v := 58) dX12_judge_47 (by decide) ?_
      refine g_ialdK dX12_judge_49 ia99 al99 (by unfold vp_in; decide) (k := 58) (by decide) ?_
      refine g_topi (fun v9 ev9 => ?_)
      have hw := hw v9 ev9
      refine g_istore dX12_judge_50 (by decide) (lv1 := [(0, .ref (gAd G 98)), (1, .int x1), (2, .int x2), (3, .int r4), (4, .int r7), (5, .int v9)]) rfl ?_
      refine g_aload_n dX12_judge_52 rfl rfl ?_
      refine g_getA dX12_judge_53 fl_X12_13 sh98 rfl ?_
      refine g_bipush (v := 59) dX12_judge_56 (by decide) ?_
      refine g_ialdK dX12_judge_58 ia99 al99 (by unfold vp_in; decide) (k := 59) (by decide) ?_
      refine g_topi (fun v10 ev10 => ?_)
      have hw := hw v10 ev10
      refine g_istore dX12_judge_59 (by decide) (lv1 := [(0, .ref (gAd G 98)), (1, .int x1), (2, .int x2), (3, .int r4), (4, .int r7), (5, .int v9), (6, .int v10)]) rfl ?_
      refine g_aload_n dX12_judge_61 rfl rfl ?_
      refine g_callVV [] (ci := 12) dX12_judge_62 ml_X12_344 mk_X12_isAgain rfl rfl sh98 (Nat.le_of_ble_eq_true rfl) (Nat.le_of_ble_eq_true rfl) rfl (c_M_isAgain hw) (fun h11 hw => ?_)
      refine g_iload_n dX12_judge_65 rfl rfl ?_
      refine g_if_ne 85 dX12_judge_66 rfl (fun hc => ?_) (fun hc => ?_)
      · have hw := hw.1 hc
        refine g_iload_n dX12_judge_85 rfl rfl ?_
        refine g_iconst (v := 1) dX12_judge_86 (by decide) ?_
        refine g_icmp_ne 97 dX12_judge_87 rfl (fun hc => ?_) (fun hc => ?_)
        · have hw := hw.1 hc
          refine g_iload_n dX12_judge_97 rfl rfl ?_
          refine g_iconst (v := 2) dX12_judge_98 (by decide) ?_
          refine g_icmp_ne 107 dX12_judge_99 rfl (fun hc => ?_) (fun hc => ?_)
          · have hw := hw.1 hc
            refine g_iload dX12_judge_107 rfl ?_
            refine g_ldcw dX12_judge_109 kc_X12_347 ?_
            refine g_iadd dX12_judge_112 ?_
            exact g_iret dX12_judge_113 hw
          · have hw := hw.2 hc
            refine g_iload dX12_judge_102 rfl ?_
            refine g_goto 113 dX12_judge_104 rfl ?_
            exact g_iret dX12_judge_113 hw
        · have hw := hw.2 hc
          refine g_aload_n dX12_judge_90 rfl rfl ?_
          refine g_getI dX12_judge_91 fl_X12_327 sh98 rfl ?_
          refine g_goto 113 dX12_judge_94 rfl ?_
          exact g_iret dX12_judge_113 hw
      · have hw := hw.2 hc
        refine g_aload_n dX12_judge_69 rfl rfl ?_
        refine g_getI dX12_judge_70 fl_X12_327 sh98 rfl ?_
        refine g_if_ne 80 dX12_judge_73 rfl (fun hc => ?_) (fun hc => ?_)
        · have hw := hw.1 hc
          refine g_iload dX12_judge_80 rfl ?_
          refine g_goto 113 dX12_judge_82 rfl ?_
          exact g_iret dX12_judge_113 hw
        · have hw := hw.2 hc
          refine g_iconst (v := (-1)) dX12_judge_76 (by decide) ?_
          refine g_goto 113 dX12_judge_77 rfl ?_
          exact g_iret dX12_judge_113 hw
    · have hw := hw.2 hc
      refine g_iload_n dX12_judge_30 rfl rfl ?_
      exact g_iret dX12_judge_31 hw
  · have hw := hw.2 hc
    refine g_bipush (v := (-2)) dX12_judge_17 (by decide) ?_
    exact g_iret dX12_judge_19 hw
theorem dX12_perform_0 : decode cX12_perform 0 = .ok (.aload_n 0, 1) := by decide +kernel
theorem dX12_perform_1 : decode cX12_perform 1 = .ok (.iconst 0, 1) := by decide +kernel
theorem dX12_perform_2 : decode cX12_perform 2 = .ok (.putfield 1, 3) := by decide +kernel
theorem dX12_perform_5 : decode cX12_perform 5 = .ok (.aload_n 0, 1) := by decide +kernel
theorem dX12_perform_6 : decode cX12_perform 6 = .ok (.iload_n 1, 1) := by decide +kernel
theorem dX12_perform_7 : decode cX12_perform 7 = .ok (.invokevirtual 338, 3) := by decide +kernel
theorem dX12_perform_10 : decode cX12_perform 10 = .ok (.istore_n 2, 1) := by decide +kernel
theorem dX12_perform_11 : decode cX12_perform 11 = .ok (.iload_n 2, 1) := by decide +kernel
theorem dX12_perform_12 : decode cX12_perform 12 = .ok (.ifCond .eq 5, 3) := by decide +kernel
theorem dX12_perform_15 : decode cX12_perform 15 = .ok (.iload_n 2, 1) := by decide +kernel
theorem dX12_perform_16 : decode cX12_perform 16 = .ok (.ireturn, 1) := by decide +kernel
theorem dX12_perform_17 : decode cX12_perform 17 = .ok (.aload_n 0, 1) := by decide +kernel
theorem dX12_perform_18 : decode cX12_perform 18 = .ok (.invokevirtual 288, 3) := by decide +kernel
theorem dX12_perform_21 : decode cX12_perform 21 = .ok (.aload_n 0, 1) := by decide +kernel
theorem dX12_perform_22 : decode cX12_perform 22 = .ok (.iload_n 1, 1) := by decide +kernel
theorem dX12_perform_23 : decode cX12_perform 23 = .ok (.invokevirtual 341, 3) := by decide +kernel
theorem dX12_perform_26 : decode cX12_perform 26 = .ok (.istore_n 3, 1) := by decide +kernel
theorem dX12_perform_27 : decode cX12_perform 27 = .ok (.iload_n 3, 1) := by decide +kernel
theorem dX12_perform_28 : decode cX12_perform 28 = .ok (.ifCond .le 7, 3) := by decide +kernel
theorem dX12_perform_31 : decode cX12_perform 31 = .ok (.aload_n 0, 1) := by decide +kernel
theorem dX12_perform_32 : decode cX12_perform 32 = .ok (.invokevirtual 297, 3) := by decide +kernel
theorem dX12_perform_35 : decode cX12_perform 35 = .ok (.iload_n 3, 1) := by decide +kernel
theorem dX12_perform_36 : decode cX12_perform 36 = .ok (.ireturn, 1) := by decide +kernel
def M_perform (x1 : Int32) (h : Hp) (Q : Int32 → Hp → Prop) : Prop := ∀ h1 : Hp, h1 = sI h 98 0 0 → M_noTray x1 h1 (fun r2 h3 => (r2 = 0 → M_stores  h3 (fun h4 => M_tells x1 h4 (fun r5 h6 => (r5 ≤ 0 → Q r5 h6) ∧ (¬ r5 ≤ 0 → M_notes  h6 (fun h7 => Q r5 h7))))) ∧ (¬ r2 = 0 → Q r2 h3))
set_option maxHeartbeats 4000000 in
set_option maxRecDepth 20000 in
theorem c_M_perform {G : Gx}  {x1 : Int32} {h : Hp} {Q : Int32 → Hp → Prop} (hw : M_perform x1 h Q) : Ct yX12_perform cX12_perform 4 (some .int) 8 G [.ref (gAd G 98), .int x1] h (QI G Q) := by
  refine ct_go [(0, .ref (gAd G 98)), (1, .int x1)] (plainFor_of_name (by decide)) rfl (Nat.le_of_ble_eq_true rfl) rfl ?_
  refine g_aload_n dX12_perform_0 rfl rfl ?_
  refine g_iconst (v := 0) dX12_perform_1 (by decide) ?_
  refine g_putI dX12_perform_2 fl_X12_1 sh98 rfl rfl pf_12_0 ?_
  refine g_heap (fun h1 eh1 => ?_)
  have hw := hw h1 eh1
  refine g_aload_n dX12_perform_5 rfl rfl ?_
  refine g_iload_n dX12_perform_6 rfl rfl ?_
  refine g_callVI [.int x1] (ci := 12) dX12_perform_7 ml_X12_338 mk_X12_noTray rfl rfl sh98 (Nat.le_of_ble_eq_true rfl) (Nat.le_of_ble_eq_true rfl) rfl (c_M_noTray hw) (fun r2 h3 hw => ?_)
  refine g_istore_n dX12_perform_10 rfl (by decide) (lv1 := [(0, .ref (gAd G 98)), (1, .int x1), (2, .int r2)]) rfl ?_
  refine g_iload_n dX12_perform_11 rfl rfl ?_
  refine g_if_eq 17 dX12_perform_12 rfl (fun hc => ?_) (fun hc => ?_)
  · have hw := hw.1 hc
    refine g_aload_n dX12_perform_17 rfl rfl ?_
    refine g_callVV [] (ci := 12) dX12_perform_18 ml_X12_288 mk_X12_stores rfl rfl sh98 (Nat.le_of_ble_eq_true rfl) (Nat.le_of_ble_eq_true rfl) rfl (c_M_stores hw) (fun h4 hw => ?_)
    refine g_aload_n dX12_perform_21 rfl rfl ?_
    refine g_iload_n dX12_perform_22 rfl rfl ?_
    refine g_callVI [.int x1] (ci := 12) dX12_perform_23 ml_X12_341 mk_X12_tells rfl rfl sh98 (Nat.le_of_ble_eq_true rfl) (Nat.le_of_ble_eq_true rfl) rfl (c_M_tells hw) (fun r5 h6 hw => ?_)
    refine g_istore_n dX12_perform_26 rfl (by decide) (lv1 := [(0, .ref (gAd G 98)), (1, .int x1), (2, .int r2), (3, .int r5)]) rfl ?_
    refine g_iload_n dX12_perform_27 rfl rfl ?_
    refine g_if_le 35 dX12_perform_28 rfl (fun hc => ?_) (fun hc => ?_)
    · have hw := hw.1 hc
      refine g_iload_n dX12_perform_35 rfl rfl ?_
      exact g_iret dX12_perform_36 hw
    · have hw := hw.2 hc
      refine g_aload_n dX12_perform_31 rfl rfl ?_
      refine g_callVV [] (ci := 12) dX12_perform_32 ml_X12_297 mk_X12_notes rfl rfl sh98 (Nat.le_of_ble_eq_true rfl) (Nat.le_of_ble_eq_true rfl) rfl (c_M_notes hw) (fun h7 hw => ?_)
      refine g_iload_n dX12_perform_35 rfl rfl ?_
      exact g_iret dX12_perform_36 hw
  · have hw := hw.2 hc
    refine g_iload_n dX12_perform_15 rfl rfl ?_
    exact g_iret dX12_perform_16 hw
theorem dX12_draw_0 : decode cX12_draw 0 = .ok (.aload_n 0, 1) := by decide +kernel
theorem dX12_draw_1 : decode cX12_draw 1 = .ok (.ldc_w 348, 3) := by decide +kernel
theorem dX12_draw_4 : decode cX12_draw 4 = .ok (.aload_n 0, 1) := by decide +kernel
theorem dX12_draw_5 : decode cX12_draw 5 = .ok (.getfield 349, 3) := by decide +kernel
theorem dX12_draw_8 : decode cX12_draw 8 = .ok (.imul, 1) := by decide +kernel
theorem dX12_draw_9 : decode cX12_draw 9 = .ok (.sipush 12345, 3) := by decide +kernel
theorem dX12_draw_12 : decode cX12_draw 12 = .ok (.iadd, 1) := by decide +kernel
theorem dX12_draw_13 : decode cX12_draw 13 = .ok (.putfield 349, 3) := by decide +kernel
theorem dX12_draw_16 : decode cX12_draw 16 = .ok (.aload_n 0, 1) := by decide +kernel
theorem dX12_draw_17 : decode cX12_draw 17 = .ok (.getfield 349, 3) := by decide +kernel
theorem dX12_draw_20 : decode cX12_draw 20 = .ok (.bipush 16, 2) := by decide +kernel
theorem dX12_draw_22 : decode cX12_draw 22 = .ok (.iushr, 1) := by decide +kernel
theorem dX12_draw_23 : decode cX12_draw 23 = .ok (.iload_n 1, 1) := by decide +kernel
theorem dX12_draw_24 : decode cX12_draw 24 = .ok (.irem, 1) := by decide +kernel
theorem dX12_draw_25 : decode cX12_draw 25 = .ok (.ireturn, 1) := by decide +kernel
theorem kc_X12_348 : Cond.constant RX12 348 (1103515245) ∈ Wd := mW 1843 (by decide +kernel) rfl
theorem fl_X12_349 : FLk RX12 349 12 23 := ⟨_, rfl, by decide, mW 1405 (by decide +kernel) rfl⟩
theorem pf_12_23 : parseFieldDescriptor (uD 12 23) = some .int := by decide +kernel
def M_draw (x1 : Int32) (h : Hp) (Q : Int32 → Hp → Prop) : Prop := ∀ h1 : Hp, h1 = sI h 98 23 (((1103515245 : Int32) * (gI h 98 23)) + 12345) → ¬ x1 = 0 ∧ Q (((((gI h1 98 23)).toUInt32 >>> ((16).toUInt32 &&& Int32.toUInt32 31)).toInt32) - ((((gI h1 98 23)).toUInt32 >>> ((16).toUInt32 &&& Int32.toUInt32 31)).toInt32) / x1 * x1) h1
set_option maxHeartbeats 4000000 in
set_option maxRecDepth 20000 in
theorem c_M_draw {G : Gx}  {x1 : Int32} {h : Hp} {Q : Int32 → Hp → Prop} (hw : M_draw x1 h Q) : Ct yX12_draw cX12_draw 2 (some .int) 1 G [.ref (gAd G 98), .int x1] h (QI G Q) := by
  refine ct_go [(0, .ref (gAd G 98)), (1, .int x1)] (plainFor_of_name (by decide)) rfl (Nat.le_of_ble_eq_true rfl) rfl ?_
  refine g_aload_n dX12_draw_0 rfl rfl ?_
  refine g_ldcw dX12_draw_1 kc_X12_348 ?_
  refine g_aload_n dX12_draw_4 rfl rfl ?_
  refine g_getI dX12_draw_5 fl_X12_349 sh98 rfl ?_
  refine g_imul dX12_draw_8 ?_
  refine g_sipush (v := 12345) dX12_draw_9 (by decide) ?_
  refine g_iadd dX12_draw_12 ?_
  refine g_putI dX12_draw_13 fl_X12_349 sh98 rfl rfl pf_12_23 ?_
  refine g_heap (fun h1 eh1 => ?_)
  have hw := hw h1 eh1
  refine g_aload_n dX12_draw_16 rfl rfl ?_
  refine g_getI dX12_draw_17 fl_X12_349 sh98 rfl ?_
  refine g_bipush (v := 16) dX12_draw_20 (by decide) ?_
  refine g_iushr dX12_draw_22 ?_
  refine g_iload_n dX12_draw_23 rfl rfl ?_
  refine g_irem dX12_draw_24 hw.1 ?_
  have hw := hw.2
  exact g_iret dX12_draw_25 hw
theorem dX12_drawn_0 : decode cX12_drawn 0 = .ok (.aload_n 0, 1) := by decide +kernel
theorem dX12_drawn_1 : decode cX12_drawn 1 = .ok (.bipush 6, 2) := by decide +kernel
theorem dX12_drawn_3 : decode cX12_drawn 3 = .ok (.invokevirtual 352, 3) := by decide +kernel
theorem dX12_drawn_6 : decode cX12_drawn 6 = .ok (.istore_n 1, 1) := by decide +kernel
theorem dX12_drawn_7 : decode cX12_drawn 7 = .ok (.iload_n 1, 1) := by decide +kernel
theorem dX12_drawn_8 : decode cX12_drawn 8 = .ok (.iconst 3, 1) := by decide +kernel
theorem dX12_drawn_9 : decode cX12_drawn 9 = .ok (.if_icmp .ge 12, 3) := by decide +kernel
theorem dX12_drawn_12 : decode cX12_drawn 12 = .ok (.aload_n 0, 1) := by decide +kernel
theorem dX12_drawn_13 : decode cX12_drawn 13 = .ok (.bipush 17, 2) := by decide +kernel
theorem dX12_drawn_15 : decode cX12_drawn 15 = .ok (.invokevirtual 352, 3) := by decide +kernel
theorem dX12_drawn_18 : decode cX12_drawn 18 = .ok (.goto 22, 3) := by decide +kernel
theorem dX12_drawn_21 : decode cX12_drawn 21 = .ok (.iload_n 1, 1) := by decide +kernel
theorem dX12_drawn_22 : decode cX12_drawn 22 = .ok (.iconst 5, 1) := by decide +kernel
theorem dX12_drawn_23 : decode cX12_drawn 23 = .ok (.if_icmp .ge 8, 3) := by decide +kernel
theorem dX12_drawn_26 : decode cX12_drawn 26 = .ok (.bipush 30, 2) := by decide +kernel
theorem dX12_drawn_28 : decode cX12_drawn 28 = .ok (.goto 12, 3) := by decide +kernel
theorem dX12_drawn_31 : decode cX12_drawn 31 = .ok (.bipush 20, 2) := by decide +kernel
theorem dX12_drawn_33 : decode cX12_drawn 33 = .ok (.aload_n 0, 1) := by decide +kernel
theorem dX12_drawn_34 : decode cX12_drawn 34 = .ok (.bipush 10, 2) := by decide +kernel
theorem dX12_drawn_36 : decode cX12_drawn 36 = .ok (.invokevirtual 352, 3) := by decide +kernel
theorem dX12_drawn_39 : decode cX12_drawn 39 = .ok (.iadd, 1) := by decide +kernel
theorem dX12_drawn_40 : decode cX12_drawn 40 = .ok (.ireturn, 1) := by decide +kernel
theorem ml_X12_352 : Cond.methodLink RX12 352 yX12_draw ∈ Wd := mW 1839 (by decide +kernel) rfl
theorem mk_X12_draw : MokV yX12_draw cX12_draw 2 (some .int) 1 := ⟨⟨mW 14 (by decide +kernel) rfl, mW 1842 (by decide +kernel) rfl, ⟨by decide, by decide, by decide +kernel⟩, by decide⟩, mW 1841 (by decide +kernel) rfl, mS (q := (yX12_draw, 46)) 101 (by decide +kernel)⟩
def M_drawn  (h : Hp) (Q : Int32 → Hp → Prop) : Prop := M_draw 6 h (fun r1 h2 => (3 ≤ r1 → (5 ≤ r1 → M_draw 10 h2 (fun r3 h4 => Q ((20 : Int32) + r3) h4)) ∧ (¬ 5 ≤ r1 → Q 30 h2)) ∧ (¬ 3 ≤ r1 → M_draw 17 h2 (fun r5 h6 => Q r5 h6)))
set_option maxHeartbeats 4000000 in
set_option maxRecDepth 20000 in
theorem c_M_drawn {G : Gx}   {h : Hp} {Q : Int32 → Hp → Prop} (hw : M_drawn  h Q) : Ct yX12_drawn cX12_drawn 2 (some .int) 2 G [.ref (gAd G 98)] h (QI G Q) := by
  refine ct_go [(0, .ref (gAd G 98))] (plainFor_of_name (by decide)) rfl (Nat.le_of_ble_eq_true rfl) rfl ?_
  refine g_aload_n dX12_drawn_0 rfl rfl ?_
  refine g_bipush (v := 6) dX12_drawn_1 (by decide) ?_
  refine g_callVI [.int 6] (ci := 12) dX12_drawn_3 ml_X12_352 mk_X12_draw rfl rfl sh98 (Nat.le_of_ble_eq_true rfl) (Nat.le_of_ble_eq_true rfl) rfl (c_M_draw hw) (fun r1 h2 hw => ?_)
  refine g_istore_n dX12_drawn_6 rfl (by decide) (lv1 := [(0, .ref (gAd G 98)), (1, .int r1)]) rfl ?_
  refine g_iload_n dX12_drawn_7 rfl rfl ?_
  refine g_iconst (v := 3) dX12_drawn_8 (by decide) ?_
  refine g_icmp_ge 21 dX12_drawn_9 rfl (fun hc => ?_) (fun hc => ?_)
  · have hw := hw.1 hc
    refine g_iload_n dX12_drawn_21 rfl rfl ?_
    refine g_iconst (v := 5) dX12_drawn_22 (by decide) ?_
    refine g_icmp_ge 31 dX12_drawn_23 rfl (fun hc => ?_) (fun hc => ?_)
    · have hw := hw.1 hc
      refine g_bipush (v := 20) dX12_drawn_31 (by decide) ?_
      refine g_aload_n dX12_drawn_33 rfl rfl ?_
      refine g_bipush (v := 10) dX12_drawn_34 (by decide) ?_
      refine g_callVI [.int 10] (ci := 12) dX12_drawn_36 ml_X12_352 mk_X12_draw rfl rfl sh98 (Nat.le_of_ble_eq_true rfl) (Nat.le_of_ble_eq_true rfl) rfl (c_M_draw hw) (fun r3 h4 hw => ?_)
      refine g_iadd dX12_drawn_39 ?_
      exact g_iret dX12_drawn_40 hw
    · have hw := hw.2 hc
      refine g_bipush (v := 30) dX12_drawn_26 (by decide) ?_
      refine g_goto 40 dX12_drawn_28 rfl ?_
      exact g_iret dX12_drawn_40 hw
  · have hw := hw.2 hc
    refine g_aload_n dX12_drawn_12 rfl rfl ?_
    refine g_bipush (v := 17) dX12_drawn_13 (by decide) ?_
    refine g_callVI [.int 17] (ci := 12) dX12_drawn_15 ml_X12_352 mk_X12_draw rfl rfl sh98 (Nat.le_of_ble_eq_true rfl) (Nat.le_of_ble_eq_true rfl) rfl (c_M_draw hw) (fun r5 h6 hw => ?_)
    refine g_goto 40 dX12_drawn_18 rfl ?_
    exact g_iret dX12_drawn_40 hw
theorem dX12_journey_0 : decode cX12_journey 0 = .ok (.aload_n 0, 1) := by decide +kernel
theorem dX12_journey_1 : decode cX12_journey 1 = .ok (.iconst 0, 1) := by decide +kernel
theorem dX12_journey_2 : decode cX12_journey 2 = .ok (.putfield 1, 3) := by decide +kernel
theorem dX12_journey_5 : decode cX12_journey 5 = .ok (.iload_n 2, 1) := by decide +kernel
theorem dX12_journey_6 : decode cX12_journey 6 = .ok (.i2l, 1) := by decide +kernel
theorem dX12_journey_7 : decode cX12_journey 7 = .ok (.lconst 1, 1) := by decide +kernel
theorem dX12_journey_8 : decode cX12_journey 8 = .ok (.ldc2_w 355, 3) := by decide +kernel
theorem dX12_journey_11 : decode cX12_journey 11 = .ok (.invokestatic 169, 3) := by decide +kernel
theorem dX12_journey_14 : decode cX12_journey 14 = .ok (.ifCond .ne 6, 3) := by decide +kernel
theorem dX12_journey_17 : decode cX12_journey 17 = .ok (.bipush (-3), 2) := by decide +kernel
theorem dX12_journey_19 : decode cX12_journey 19 = .ok (.ireturn, 1) := by decide +kernel
theorem dX12_journey_20 : decode cX12_journey 20 = .ok (.aload_n 0, 1) := by decide +kernel
theorem dX12_journey_21 : decode cX12_journey 21 = .ok (.invokevirtual 288, 3) := by decide +kernel
theorem dX12_journey_24 : decode cX12_journey 24 = .ok (.aload_n 0, 1) := by decide +kernel
theorem dX12_journey_25 : decode cX12_journey 25 = .ok (.iload_n 1, 1) := by decide +kernel
theorem dX12_journey_26 : decode cX12_journey 26 = .ok (.putfield 349, 3) := by decide +kernel
theorem dX12_journey_29 : decode cX12_journey 29 = .ok (.iconst 0, 1) := by decide +kernel
theorem dX12_journey_30 : decode cX12_journey 30 = .ok (.istore_n 3, 1) := by decide +kernel
theorem dX12_journey_31 : decode cX12_journey 31 = .ok (.iconst 0, 1) := by decide +kernel
theorem dX12_journey_32 : decode cX12_journey 32 = .ok (.istore 4, 2) := by decide +kernel
theorem dX12_journey_34 : decode cX12_journey 34 = .ok (.iload 4, 2) := by decide +kernel
theorem dX12_journey_36 : decode cX12_journey 36 = .ok (.iload_n 2, 1) := by decide +kernel
theorem dX12_journey_37 : decode cX12_journey 37 = .ok (.if_icmp .ge 37, 3) := by decide +kernel
theorem dX12_journey_40 : decode cX12_journey 40 = .ok (.aload_n 0, 1) := by decide +kernel
theorem dX12_journey_41 : decode cX12_journey 41 = .ok (.invokevirtual 357, 3) := by decide +kernel
theorem dX12_journey_44 : decode cX12_journey 44 = .ok (.istore 5, 2) := by decide +kernel
theorem dX12_journey_46 : decode cX12_journey 46 = .ok (.aload_n 0, 1) := by decide +kernel
theorem dX12_journey_47 : decode cX12_journey 47 = .ok (.iload 5, 2) := by decide +kernel
theorem dX12_journey_49 : decode cX12_journey 49 = .ok (.i2l, 1) := by decide +kernel
theorem dX12_journey_50 : decode cX12_journey 50 = .ok (.invokevirtual 330, 3) := by decide +kernel
theorem dX12_journey_53 : decode cX12_journey 53 = .ok (.ifCond .eq 6, 3) := by decide +kernel
theorem dX12_journey_56 : decode cX12_journey 56 = .ok (.goto 12, 3) := by decide +kernel
theorem dX12_journey_59 : decode cX12_journey 59 = .ok (.aload_n 0, 1) := by decide +kernel
theorem dX12_journey_60 : decode cX12_journey 60 = .ok (.iload 5, 2) := by decide +kernel
theorem dX12_journey_62 : decode cX12_journey 62 = .ok (.invokevirtual 333, 3) := by decide +kernel
theorem dX12_journey_65 : decode cX12_journey 65 = .ok (.iinc 3 1, 3) := by decide +kernel
theorem dX12_journey_68 : decode cX12_journey 68 = .ok (.iinc 4 1, 3) := by decide +kernel
theorem dX12_journey_71 : decode cX12_journey 71 = .ok (.goto (-37), 3) := by decide +kernel
theorem dX12_journey_74 : decode cX12_journey 74 = .ok (.iload_n 3, 1) := by decide +kernel
theorem dX12_journey_75 : decode cX12_journey 75 = .ok (.ifCond .le 7, 3) := by decide +kernel
theorem dX12_journey_78 : decode cX12_journey 78 = .ok (.aload_n 0, 1) := by decide +kernel
theorem dX12_journey_79 : decode cX12_journey 79 = .ok (.invokevirtual 297, 3) := by decide +kernel
theorem dX12_journey_82 : decode cX12_journey 82 = .ok (.iload_n 3, 1) := by decide +kernel
theorem dX12_journey_83 : decode cX12_journey 83 = .ok (.ireturn, 1) := by decide +kernel
theorem kl_X12_355 : Cond.constantLong RX12 355 (40) ∈ Wd := mW 1834 (by decide +kernel) rfl
theorem ml_X12_357 : Cond.methodLink RX12 357 yX12_drawn ∈ Wd := mW 1835 (by decide +kernel) rfl
theorem mk_X12_drawn : MokV yX12_drawn cX12_drawn 2 (some .int) 0 := ⟨⟨mW 14 (by decide +kernel) rfl, mW 1838 (by decide +kernel) rfl, ⟨by decide, by decide, by decide +kernel⟩, by decide⟩, mW 1837 (by decide +kernel) rfl, mS (q := (yX12_drawn, 46)) 100 (by decide +kernel)⟩
def M_journey_L34 (x2 : Int32) (K74 : Int32 → Hp → Prop) : Nat → Int32 → Int32 → Hp → Prop
  | 0, _, _, _ => False
  | n + 1, x3, x4, h => (x2 ≤ x4 → K74 x3 h) ∧ (¬ x2 ≤ x4 → M_drawn  h (fun r6 h7 => M_whyNot ((r6).toInt64) h7 (fun r8 h9 => ∀ J68 : Int32 → Hp → Prop, J68 = (fun x3_10 h11 => ∀ v12 : Int32, v12 = (x4 + 1) → M_journey_L34 x2 K74 n x3_10 v12 h11) → (r8 = 0 → M_does r6 h9 (fun h13 => ∀ v14 : Int32, v14 = (x3 + 1) → J68 v14 h13)) ∧ (¬ r8 = 0 → J68 x3 h9))))
set_option maxHeartbeats 4000000 in
set_option maxRecDepth 20000 in
theorem gl_M_journey_L34 {G : Gx}  {x2 : Int32} {Q : Int32 → Hp → Prop} {K74 : Int32 → Hp → Prop} (hK74 : ∀ (y3 : Int32) (h1 : Hp), K74 y3 h1 → Go cX12_journey 6 RX12 (some .int) 7 G (QI G Q) 74 [(0, .ref (gAd G 98)), (3, .int y3)] [] h1) : ∀ (n : Nat) (x3 : Int32) (x4 : Int32) (h : Hp), M_journey_L34 x2 K74 n x3 x4 h → Go cX12_journey 6 RX12 (some .int) 7 G (QI G Q) 34 [(0, .ref (gAd G 98)), (2, .int x2), (3, .int x3), (4, .int x4)] [] h := by
  intro n
  induction n with
  | zero => intro _ _ h hw; exact False.elim hw
  | succ n ih =>
    intro x3 x4 h hw
    refine g_iload dX12_journey_34 rfl ?_
    refine g_iload_n dX12_journey_36 rfl rfl ?_
    refine g_icmp_ge 74 dX12_journey_37 rfl (fun hc => ?_) (fun hc => ?_)
    · have hw := hw.1 hc
      refine g_lv [0, 2] rfl ?_
      exact hK74 _ _ hw
    · have hw := hw.2 hc
      refine g_aload_n dX12_journey_40 rfl rfl ?_
      refine g_callVI [] (ci := 12) dX12_journey_41 ml_X12_357 mk_X12_drawn rfl rfl sh98 (Nat.le_of_ble_eq_true rfl) (Nat.le_of_ble_eq_true rfl) rfl (c_M_drawn hw) (fun r6 h7 hw => ?_)
      refine g_istore dX12_journey_44 (by decide) (lv1 := [(0, .ref (gAd G 98)), (2, .int x2), (3, .int x3), (4, .int x4), (5, .int r6)]) rfl ?_
      refine g_aload_n dX12_journey_46 rfl rfl ?_
      refine g_iload dX12_journey_47 rfl ?_
      refine g_i2l dX12_journey_49 ?_
      refine g_callVI [.long ((r6).toInt64)] (ci := 12) dX12_journey_50 ml_X12_330 mk_X12_whyNot rfl rfl sh98 (Nat.le_of_ble_eq_true rfl) (Nat.le_of_ble_eq_true rfl) rfl (c_M_whyNot hw) (fun r8 h9 hw => ?_)
      refine jn_el hw (fun J68 eJ68 hw => ?_)
      have hJ68 : ∀ (x3_10 : Int32) (h11 : Hp), J68 x3_10 h11 → Go cX12_journey 6 RX12 (some .int) 7 G (QI G Q) 68 [(0, .ref (gAd G 98)), (2, .int x2), (3, .int x3_10), (4, .int x4)] [] h11 := by
        intro x3_10 h11 hw
        subst eJ68
        obtain ⟨v12, ev12⟩ : ∃ y : Int32, y = (x4 + 1) := ⟨_, rfl⟩
        have hw := hw v12 ev12
        refine g_iinc dX12_journey_68 rfl (by rw [ev12]; rfl) (by decide) (lv1 := [(0, .ref (gAd G 98)), (2, .int x2), (3, .int x3_10), (4, .int v12)]) rfl ?_
        refine g_goto 34 dX12_journey_71 rfl ?_
        exact ih _ _ _ hw
      refine g_if_eq 59 dX12_journey_53 rfl (fun hc => ?_) (fun hc => ?_)
      · have hw := hw.1 hc
        refine g_aload_n dX12_journey_59 rfl rfl ?_
        refine g_iload dX12_journey_60 rfl ?_
        refine g_callVV [.int r6] (ci := 12) dX12_journey_62 ml_X12_333 mk_X12_does rfl rfl sh98 (Nat.le_of_ble_eq_true rfl) (Nat.le_of_ble_eq_true rfl) rfl (c_M_does hw) (fun h13 hw => ?_)
        obtain ⟨v14, ev14⟩ : ∃ y : Int32, y = (x3 + 1) := ⟨_, rfl⟩
        have hw := hw v14 ev14
        refine g_iinc dX12_journey_65 rfl (by rw [ev14]; rfl) (by decide) (lv1 := [(0, .ref (gAd G 98)), (2, .int x2), (3, .int v14), (4, .int x4), (5, .int r6)]) rfl ?_
        refine g_lv [0, 1, 2, 3] rfl ?_
        exact hJ68 _ _ hw
      · have hw := hw.2 hc
        refine g_goto 68 dX12_journey_56 rfl ?_
        refine g_lv [0, 1, 2, 3] rfl ?_
        exact hJ68 _ _ hw
def M_journey (x1 : Int32) (x2 : Int32) (h : Hp) (Q : Int32 → Hp → Prop) : Prop := ∀ h1 : Hp, h1 = sI h 98 0 0 → M_within ((x2).toInt64) (1 : Int64) (40 : Int64) h1 (fun r2 h3 => (¬ r2 = 0 → M_stores  h3 (fun h4 => ∀ h5 : Hp, h5 = sI h4 98 23 x1 → ∃ n15, M_journey_L34 x2 (fun x3_16 h17 => (x3_16 ≤ 0 → Q x3_16 h17) ∧ (¬ x3_16 ≤ 0 → M_notes  h17 (fun h18 => Q x3_16 h18))) n15 0 0 h5)) ∧ (r2 = 0 → Q (-3) h3))
set_option maxHeartbeats 4000000 in
set_option maxRecDepth 20000 in
theorem c_M_journey {G : Gx}  {x1 : Int32} {x2 : Int32} {h : Hp} {Q : Int32 → Hp → Prop} (hw : M_journey x1 x2 h Q) : Ct yX12_journey cX12_journey 6 (some .int) 7 G [.ref (gAd G 98), .int x1, .int x2] h (QI G Q) := by
  refine ct_go [(0, .ref (gAd G 98)), (1, .int x1), (2, .int x2)] (plainFor_of_name (by decide)) rfl (Nat.le_of_ble_eq_true rfl) rfl ?_
  refine g_aload_n dX12_journey_0 rfl rfl ?_
  refine g_iconst (v := 0) dX12_journey_1 (by decide) ?_
  refine g_putI dX12_journey_2 fl_X12_1 sh98 rfl rfl pf_12_0 ?_
  refine g_heap (fun h1 eh1 => ?_)
  have hw := hw h1 eh1
  refine g_iload_n dX12_journey_5 rfl rfl ?_
  refine g_i2l dX12_journey_6 ?_
  refine g_lconst (v := (1 : Int64)) dX12_journey_7 (by decide) ?_
  refine g_ldc2 dX12_journey_8 kl_X12_355 ?_
  refine g_callSI [.long ((x2).toInt64), .long (1 : Int64), .long (40 : Int64)] dX12_journey_11 ml_X12_169 mk_X12_within rfl (Nat.le_of_ble_eq_true rfl) (Nat.le_of_ble_eq_true rfl) rfl (c_M_within hw) (fun r2 h3 hw => ?_)
  refine g_if_ne 20 dX12_journey_14 rfl (fun hc => ?_) (fun hc => ?_)
  · have hw := hw.1 hc
    refine g_aload_n dX12_journey_20 rfl rfl ?_
    refine g_callVV [] (ci := 12) dX12_journey_21 ml_X12_288 mk_X12_stores rfl rfl sh98 (Nat.le_of_ble_eq_true rfl) (Nat.le_of_ble_eq_true rfl) rfl (c_M_stores hw) (fun h4 hw => ?_)
    refine g_aload_n dX12_journey_24 rfl rfl ?_
    refine g_iload_n dX12_journey_25 rfl rfl ?_
    refine g_putI dX12_journey_26 fl_X12_349 sh98 rfl rfl pf_12_23 ?_
    refine g_heap (fun h5 eh5 => ?_)
    have hw := hw h5 eh5
    refine g_iconst (v := 0) dX12_journey_29 (by decide) ?_
    refine g_istore_n dX12_journey_30 rfl (by decide) (lv1 := [(0, .ref (gAd G 98)), (1, .int x1), (2, .int x2), (3, .int 0)]) rfl ?_
    refine g_iconst (v := 0) dX12_journey_31 (by decide) ?_
    refine g_istore dX12_journey_32 (by decide) (lv1 := [(0, .ref (gAd G 98)), (1, .int x1), (2, .int x2), (3, .int 0), (4, .int 0)]) rfl ?_
    obtain ⟨n15, hw⟩ := hw
    refine g_lv [0, 2, 3, 4] rfl ?_
    refine gl_M_journey_L34  ?_ _ _ _ _ hw
    · intro x3_16 h17 hw
      refine g_iload_n dX12_journey_74 rfl rfl ?_
      refine g_if_le 82 dX12_journey_75 rfl (fun hc => ?_) (fun hc => ?_)
      · have hw := hw.1 hc
        refine g_iload_n dX12_journey_82 rfl rfl ?_
        exact g_iret dX12_journey_83 hw
      · have hw := hw.2 hc
        refine g_aload_n dX12_journey_78 rfl rfl ?_
        refine g_callVV [] (ci := 12) dX12_journey_79 ml_X12_297 mk_X12_notes rfl rfl sh98 (Nat.le_of_ble_eq_true rfl) (Nat.le_of_ble_eq_true rfl) rfl (c_M_notes hw) (fun h18 hw => ?_)
        refine g_iload_n dX12_journey_82 rfl rfl ?_
        exact g_iret dX12_journey_83 hw
  · have hw := hw.2 hc
    refine g_bipush (v := (-3)) dX12_journey_17 (by decide) ?_
    exact g_iret dX12_journey_19 hw
theorem dX12_rings_0 : decode cX12_rings 0 = .ok (.aload_n 0, 1) := by decide +kernel
theorem dX12_rings_1 : decode cX12_rings 1 = .ok (.iconst 0, 1) := by decide +kernel
theorem dX12_rings_2 : decode cX12_rings 2 = .ok (.putfield 1, 3) := by decide +kernel
theorem dX12_rings_5 : decode cX12_rings 5 = .ok (.aload_n 0, 1) := by decide +kernel
theorem dX12_rings_6 : decode cX12_rings 6 = .ok (.invokevirtual 379, 3) := by decide +kernel
theorem dX12_rings_9 : decode cX12_rings 9 = .ok (.aload_n 0, 1) := by decide +kernel
theorem dX12_rings_10 : decode cX12_rings 10 = .ok (.getfield 360, 3) := by decide +kernel
theorem dX12_rings_13 : decode cX12_rings 13 = .ok (.ireturn, 1) := by decide +kernel
def M_rings  (h : Hp) (Q : Int32 → Hp → Prop) : Prop := ∀ h1 : Hp, h1 = sI h 98 0 0 → M_laysRings  h1 (fun h2 => Q (gI h2 98 28) h2)
set_option maxHeartbeats 4000000 in
set_option maxRecDepth 20000 in
theorem c_M_rings {G : Gx}   {h : Hp} {Q : Int32 → Hp → Prop} (hw : M_rings  h Q) : Ct yX12_rings cX12_rings 1 (some .int) 14 G [.ref (gAd G 98)] h (QI G Q) := by
  refine ct_go [(0, .ref (gAd G 98))] (plainFor_of_name (by decide)) rfl (Nat.le_of_ble_eq_true rfl) rfl ?_
  refine g_aload_n dX12_rings_0 rfl rfl ?_
  refine g_iconst (v := 0) dX12_rings_1 (by decide) ?_
  refine g_putI dX12_rings_2 fl_X12_1 sh98 rfl rfl pf_12_0 ?_
  refine g_heap (fun h1 eh1 => ?_)
  have hw := hw h1 eh1
  refine g_aload_n dX12_rings_5 rfl rfl ?_
  refine g_callVV [] (ci := 12) dX12_rings_6 ml_X12_379 mk_X12_laysRings rfl rfl sh98 (Nat.le_of_ble_eq_true rfl) (Nat.le_of_ble_eq_true rfl) rfl (c_M_laysRings hw) (fun h2 hw => ?_)
  refine g_aload_n dX12_rings_9 rfl rfl ?_
  refine g_getI dX12_rings_10 fl_X12_360 sh98 rfl ?_
  exact g_iret dX12_rings_13 hw
theorem dX12_allWays_0 : decode cX12_allWays 0 = .ok (.iconst 0, 1) := by decide +kernel
theorem dX12_allWays_1 : decode cX12_allWays 1 = .ok (.istore_n 1, 1) := by decide +kernel
theorem dX12_allWays_2 : decode cX12_allWays 2 = .ok (.iconst 0, 1) := by decide +kernel
theorem dX12_allWays_3 : decode cX12_allWays 3 = .ok (.istore_n 2, 1) := by decide +kernel
theorem dX12_allWays_4 : decode cX12_allWays 4 = .ok (.iload_n 2, 1) := by decide +kernel
theorem dX12_allWays_5 : decode cX12_allWays 5 = .ok (.aload_n 0, 1) := by decide +kernel
theorem dX12_allWays_6 : decode cX12_allWays 6 = .ok (.getfield 13, 3) := by decide +kernel
theorem dX12_allWays_9 : decode cX12_allWays 9 = .ok (.iconst 1, 1) := by decide +kernel
theorem dX12_allWays_10 : decode cX12_allWays 10 = .ok (.iaload, 1) := by decide +kernel
theorem dX12_allWays_11 : decode cX12_allWays 11 = .ok (.if_icmp .ge 18, 3) := by decide +kernel
theorem dX12_allWays_14 : decode cX12_allWays 14 = .ok (.iload_n 1, 1) := by decide +kernel
theorem dX12_allWays_15 : decode cX12_allWays 15 = .ok (.aload_n 0, 1) := by decide +kernel
theorem dX12_allWays_16 : decode cX12_allWays 16 = .ok (.getfield 45, 3) := by decide +kernel
theorem dX12_allWays_19 : decode cX12_allWays 19 = .ok (.iload_n 2, 1) := by decide +kernel
theorem dX12_allWays_20 : decode cX12_allWays 20 = .ok (.iaload, 1) := by decide +kernel
theorem dX12_allWays_21 : decode cX12_allWays 21 = .ok (.ior, 1) := by decide +kernel
theorem dX12_allWays_22 : decode cX12_allWays 22 = .ok (.istore_n 1, 1) := by decide +kernel
theorem dX12_allWays_23 : decode cX12_allWays 23 = .ok (.iinc 2 1, 3) := by decide +kernel
theorem dX12_allWays_26 : decode cX12_allWays 26 = .ok (.goto (-22), 3) := by decide +kernel
theorem dX12_allWays_29 : decode cX12_allWays 29 = .ok (.iload_n 1, 1) := by decide +kernel
theorem dX12_allWays_30 : decode cX12_allWays 30 = .ok (.ireturn, 1) := by decide +kernel
def M_allWays_L4 (Q : Int32 → Hp → Prop) : Nat → Int32 → Int32 → Hp → Prop
  | 0, _, _, _ => False
  | n + 1, x1, x2, h => ((gI h 99 1) ≤ x2 → Q x1 h) ∧ (¬ (gI h 99 1) ≤ x2 → vp_in x2 8 ∧ ∀ v1 : Int32, v1 = (x1 ||| (gI h 108 (x2).toNatClampNeg)) → ∀ v2 : Int32, v2 = (x2 + 1) → M_allWays_L4 Q n v1 v2 h)
set_option maxHeartbeats 4000000 in
set_option maxRecDepth 20000 in
theorem gl_M_allWays_L4 {G : Gx}  {Q : Int32 → Hp → Prop} : ∀ (n : Nat) (x1 : Int32) (x2 : Int32) (h : Hp), M_allWays_L4 Q n x1 x2 h → Go cX12_allWays 3 RX12 (some .int) 1 G (QI G Q) 4 [(0, .ref (gAd G 98)), (1, .int x1), (2, .int x2)] [] h := by
  intro n
  induction n with
  | zero => intro _ _ h hw; exact False.elim hw
  | succ n ih =>
    intro x1 x2 h hw
    refine g_iload_n dX12_allWays_4 rfl rfl ?_
    refine g_aload_n dX12_allWays_5 rfl rfl ?_
    refine g_getA dX12_allWays_6 fl_X12_13 sh98 rfl ?_
    refine g_iconst (v := 1) dX12_allWays_9 (by decide) ?_
    refine g_ialdK dX12_allWays_10 ia99 al99 (by unfold vp_in; decide) (k := 1) (by decide) ?_
    refine g_icmp_ge 29 dX12_allWays_11 rfl (fun hc => ?_) (fun hc => ?_)
    · have hw := hw.1 hc
      refine g_iload_n dX12_allWays_29 rfl rfl ?_
      exact g_iret dX12_allWays_30 hw
    · have hw := hw.2 hc
      refine g_iload_n dX12_allWays_14 rfl rfl ?_
      refine g_aload_n dX12_allWays_15 rfl rfl ?_
      refine g_getA dX12_allWays_16 fl_X12_45 sh98 rfl ?_
      refine g_iload_n dX12_allWays_19 rfl rfl ?_
      refine g_iald dX12_allWays_20 ia108 al108 hw.1 ?_
      have hw := hw.2
      refine g_ior dX12_allWays_21 ?_
      refine g_topi (fun v1 ev1 => ?_)
      have hw := hw v1 ev1
      refine g_istore_n dX12_allWays_22 rfl (by decide) (lv1 := [(0, .ref (gAd G 98)), (1, .int v1), (2, .int x2)]) rfl ?_
      obtain ⟨v2, ev2⟩ : ∃ y : Int32, y = (x2 + 1) := ⟨_, rfl⟩
      have hw := hw v2 ev2
      refine g_iinc dX12_allWays_23 rfl (by rw [ev2]; rfl) (by decide) (lv1 := [(0, .ref (gAd G 98)), (1, .int v1), (2, .int v2)]) rfl ?_
      refine g_goto 4 dX12_allWays_26 rfl ?_
      exact ih _ _ _ hw
def M_allWays  (h : Hp) (Q : Int32 → Hp → Prop) : Prop := ∃ n3, M_allWays_L4 Q n3 0 0 h
set_option maxHeartbeats 4000000 in
set_option maxRecDepth 20000 in
theorem c_M_allWays {G : Gx}   {h : Hp} {Q : Int32 → Hp → Prop} (hw : M_allWays  h Q) : Ct yX12_allWays cX12_allWays 3 (some .int) 1 G [.ref (gAd G 98)] h (QI G Q) := by
  refine ct_go [(0, .ref (gAd G 98))] (plainFor_of_name (by decide)) rfl (Nat.le_of_ble_eq_true rfl) rfl ?_
  refine g_iconst (v := 0) dX12_allWays_0 (by decide) ?_
  refine g_istore_n dX12_allWays_1 rfl (by decide) (lv1 := [(0, .ref (gAd G 98)), (1, .int 0)]) rfl ?_
  refine g_iconst (v := 0) dX12_allWays_2 (by decide) ?_
  refine g_istore_n dX12_allWays_3 rfl (by decide) (lv1 := [(0, .ref (gAd G 98)), (1, .int 0), (2, .int 0)]) rfl ?_
  obtain ⟨n3, hw⟩ := hw
  refine gl_M_allWays_L4   _ _ _ _ hw
theorem dX12_common_0 : decode cX12_common 0 = .ok (.lload_n 2, 1) := by decide +kernel
theorem dX12_common_1 : decode cX12_common 1 = .ok (.lconst 0, 1) := by decide +kernel
theorem dX12_common_2 : decode cX12_common 2 = .ok (.lcmp, 1) := by decide +kernel
theorem dX12_common_3 : decode cX12_common 3 = .ok (.ifCond .ne 18, 3) := by decide +kernel
theorem dX12_common_6 : decode cX12_common 6 = .ok (.lload_n 0, 1) := by decide +kernel
theorem dX12_common_7 : decode cX12_common 7 = .ok (.lconst 0, 1) := by decide +kernel
theorem dX12_common_8 : decode cX12_common 8 = .ok (.lcmp, 1) := by decide +kernel
theorem dX12_common_9 : decode cX12_common 9 = .ok (.ifCond .ge 8, 3) := by decide +kernel
theorem dX12_common_12 : decode cX12_common 12 = .ok (.lload_n 0, 1) := by decide +kernel
theorem dX12_common_13 : decode cX12_common 13 = .ok (.lneg, 1) := by decide +kernel
theorem dX12_common_14 : decode cX12_common 14 = .ok (.goto 14, 3) := by decide +kernel
theorem dX12_common_17 : decode cX12_common 17 = .ok (.lload_n 0, 1) := by decide +kernel
theorem dX12_common_18 : decode cX12_common 18 = .ok (.goto 10, 3) := by decide +kernel
theorem dX12_common_21 : decode cX12_common 21 = .ok (.lload_n 2, 1) := by decide +kernel
theorem dX12_common_22 : decode cX12_common 22 = .ok (.lload_n 0, 1) := by decide +kernel
theorem dX12_common_23 : decode cX12_common 23 = .ok (.lload_n 2, 1) := by decide +kernel
theorem dX12_common_24 : decode cX12_common 24 = .ok (.lrem, 1) := by decide +kernel
theorem dX12_common_25 : decode cX12_common 25 = .ok (.invokestatic 371, 3) := by decide +kernel
theorem dX12_common_28 : decode cX12_common 28 = .ok (.lreturn, 1) := by decide +kernel
theorem ml_X12_371 : Cond.methodLink RX12 371 yX12_common ∈ Wd := mW 1863 (by decide +kernel) rfl
theorem mk_X12_common : MokS yX12_common cX12_common 4 (some .long) 2 := ⟨⟨mW 14 (by decide +kernel) rfl, mW 1865 (by decide +kernel) rfl, ⟨by decide, by decide, by decide +kernel⟩, by decide⟩, mW 1864 (by decide +kernel) rfl⟩
def M_common_B  (R_common : Int64 → Int64 → Hp → (Int64 → Hp → Prop) → Prop) (x0 : Int64) (x2 : Int64) (h : Hp) (Q : Int64 → Hp → Prop) : Prop := (¬ x2 = (0 : Int64) → ¬ x2 = 0 ∧ R_common x2 (x0 - x0 / x2 * x2) h (fun r1 h2 => Q r1 h2)) ∧ (x2 = (0 : Int64) → ((0 : Int64) ≤ x0 → Q x0 h) ∧ (¬ (0 : Int64) ≤ x0 → Q (-x0) h))
set_option maxHeartbeats 4000000 in
set_option maxRecDepth 20000 in
theorem cb_M_common {G : Gx}  {d d1 : Nat} (hdd : d1 + 1 ≤ d) (hD : 1 ≤ d) {R_common : Int64 → Int64 → Hp → (Int64 → Hp → Prop) → Prop} (hR_common : ∀ (y0 : Int64) (y1 : Int64) (h : Hp) (Q : Int64 → Hp → Prop), R_common y0 y1 h Q → Ct yX12_common cX12_common 4 (some .long) d1 G [.long y0, .long y1] h (QJ G Q)) {x0 : Int64} {x2 : Int64} {h : Hp} {Q : Int64 → Hp → Prop} (hw : M_common_B  R_common x0 x2 h Q) : Ct yX12_common cX12_common 4 (some .long) d G [.long x0, .long x2] h (QJ G Q) := by
  refine ct_go [(0, .long x0), (2, .long x2)] (plainFor_of_name (by decide)) rfl (Nat.le_of_ble_eq_true rfl) rfl ?_
  refine g_lload_n dX12_common_0 rfl rfl ?_
  refine g_lconst (v := (0 : Int64)) dX12_common_1 (by decide) ?_
  refine g_lc_ne 21 dX12_common_2 dX12_common_3 rfl (fun hc => ?_) (fun hc => ?_)
  · have hw := hw.1 hc
    refine g_lload_n dX12_common_21 rfl rfl ?_
    refine g_lload_n dX12_common_22 rfl rfl ?_
    refine g_lload_n dX12_common_23 rfl rfl ?_
    refine g_lrem dX12_common_24 hw.1 ?_
    have hw := hw.2
    refine g_callSJ [.long x2, .long (x0 - x0 / x2 * x2)] dX12_common_25 ml_X12_371 mk_X12_common rfl hdd (Nat.le_of_ble_eq_true rfl) rfl (hR_common _ _ _ _ hw) (fun r1 h2 hw => ?_)
    exact g_lret dX12_common_28 hw
  · have hw := hw.2 hc
    refine g_lload_n dX12_common_6 rfl rfl ?_
    refine g_lconst (v := (0 : Int64)) dX12_common_7 (by decide) ?_
    refine g_lc_ge 17 dX12_common_8 dX12_common_9 rfl (fun hc => ?_) (fun hc => ?_)
    · have hw := hw.1 hc
      refine g_lload_n dX12_common_17 rfl rfl ?_
      refine g_goto 28 dX12_common_18 rfl ?_
      exact g_lret dX12_common_28 hw
    · have hw := hw.2 hc
      refine g_lload_n dX12_common_12 rfl rfl ?_
      refine g_lneg dX12_common_13 ?_
      refine g_goto 28 dX12_common_14 rfl ?_
      exact g_lret dX12_common_28 hw
def M_common  : Nat → Int64 → Int64 → Hp → (Int64 → Hp → Prop) → Prop
  | 0, _, _, _, _ => False
  | n + 1, x0, x2, h, Q => M_common_B  (M_common  n) x0 x2 h Q
theorem cn_M_common {G : Gx}  : ∀ (n : Nat) (x0 : Int64) (x2 : Int64) (h : Hp) (Q : Int64 → Hp → Prop), M_common  n x0 x2 h Q → Ct yX12_common cX12_common 4 (some .long) (1 + n) G [.long x0, .long x2] h (QJ G Q) := by
  intro n
  induction n with
  | zero => intro _ _ _ _ hw; exact False.elim hw
  | succ n ih =>
    intro x0 x2 h Q hw
    exact cb_M_common  (d := 1 + (n + 1)) (d1 := 1 + n) (by omega) (by omega) ih hw
theorem c_M_common {G : Gx}  {x0 : Int64} {x2 : Int64} {h : Hp} {Q : Int64 → Hp → Prop} (hw : M_common  100 x0 x2 h Q) : Ct yX12_common cX12_common 4 (some .long) 101 G [.long x0, .long x2] h (QJ G Q) := cn_M_common  100 _ _ _ _ hw
theorem dX12_part_0 : decode cX12_part 0 = .ok (.iload 4, 2) := by decide +kernel
theorem dX12_part_2 : decode cX12_part 2 = .ok (.ifCond .ne 7, 3) := by decide +kernel
theorem dX12_part_5 : decode cX12_part 5 = .ok (.lload_n 0, 1) := by decide +kernel
theorem dX12_part_6 : decode cX12_part 6 = .ok (.goto 4, 3) := by decide +kernel
theorem dX12_part_9 : decode cX12_part 9 = .ok (.lload_n 2, 1) := by decide +kernel
theorem dX12_part_10 : decode cX12_part 10 = .ok (.lload_n 0, 1) := by decide +kernel
theorem dX12_part_11 : decode cX12_part 11 = .ok (.lload_n 2, 1) := by decide +kernel
theorem dX12_part_12 : decode cX12_part 12 = .ok (.invokestatic 371, 3) := by decide +kernel
theorem dX12_part_15 : decode cX12_part 15 = .ok (.ldiv, 1) := by decide +kernel
theorem dX12_part_16 : decode cX12_part 16 = .ok (.lreturn, 1) := by decide +kernel
def M_part (x0 : Int64) (x2 : Int64) (x4 : Int32) (h : Hp) (Q : Int64 → Hp → Prop) : Prop := ∀ J10 : Int64 → Hp → Prop, J10 = (fun s1 h2 => M_common 100 x0 x2 h2 (fun r3 h4 => ¬ r3 = 0 ∧ Q (s1 / r3) h4)) → (¬ x4 = 0 → J10 x2 h) ∧ (x4 = 0 → J10 x0 h)
set_option maxHeartbeats 4000000 in
set_option maxRecDepth 20000 in
theorem c_M_part {G : Gx}  {x0 : Int64} {x2 : Int64} {x4 : Int32} {h : Hp} {Q : Int64 → Hp → Prop} (hw : M_part x0 x2 x4 h Q) : Ct yX12_part cX12_part 5 (some .long) 102 G [.long x0, .long x2, .int x4] h (QJ G Q) := by
  refine ct_go [(0, .long x0), (2, .long x2), (4, .int x4)] (plainFor_of_name (by decide)) rfl (Nat.le_of_ble_eq_true rfl) rfl ?_
  refine g_iload dX12_part_0 rfl ?_
  refine jn_el hw (fun J10 eJ10 hw => ?_)
  have hJ10 : ∀ (s1 : Int64) (h2 : Hp), J10 s1 h2 → Go cX12_part 5 RX12 (some .long) 102 G (QJ G Q) 10 [(0, .long x0), (2, .long x2)] [.long s1] h2 := by
    intro s1 h2 hw
    subst eJ10
    refine g_lload_n dX12_part_10 rfl rfl ?_
    refine g_lload_n dX12_part_11 rfl rfl ?_
    refine g_callSJ [.long x0, .long x2] dX12_part_12 ml_X12_371 mk_X12_common rfl (Nat.le_of_ble_eq_true rfl) (Nat.le_of_ble_eq_true rfl) rfl (c_M_common hw) (fun r3 h4 hw => ?_)
    refine g_ldiv dX12_part_15 hw.1 ?_
    have hw := hw.2
    exact g_lret dX12_part_16 hw
  refine g_if_ne 9 dX12_part_2 rfl (fun hc => ?_) (fun hc => ?_)
  · have hw := hw.1 hc
    refine g_lload_n dX12_part_9 rfl rfl ?_
    refine g_lv [0, 1] rfl ?_
    exact hJ10 _ _ hw
  · have hw := hw.2 hc
    refine g_lload_n dX12_part_5 rfl rfl ?_
    refine g_goto 10 dX12_part_6 rfl ?_
    refine g_lv [0, 1] rfl ?_
    exact hJ10 _ _ hw
theorem dX12_meanOf_0 : decode cX12_meanOf 0 = .ok (.aload_n 0, 1) := by decide +kernel
theorem dX12_meanOf_1 : decode cX12_meanOf 1 = .ok (.getfield 57, 3) := by decide +kernel
theorem dX12_meanOf_4 : decode cX12_meanOf 4 = .ok (.iload_n 1, 1) := by decide +kernel
theorem dX12_meanOf_5 : decode cX12_meanOf 5 = .ok (.iaload, 1) := by decide +kernel
theorem dX12_meanOf_6 : decode cX12_meanOf 6 = .ok (.i2l, 1) := by decide +kernel
theorem dX12_meanOf_7 : decode cX12_meanOf 7 = .ok (.aload_n 0, 1) := by decide +kernel
theorem dX12_meanOf_8 : decode cX12_meanOf 8 = .ok (.getfield 60, 3) := by decide +kernel
theorem dX12_meanOf_11 : decode cX12_meanOf 11 = .ok (.iload_n 1, 1) := by decide +kernel
theorem dX12_meanOf_12 : decode cX12_meanOf 12 = .ok (.iaload, 1) := by decide +kernel
theorem dX12_meanOf_13 : decode cX12_meanOf 13 = .ok (.i2l, 1) := by decide +kernel
theorem dX12_meanOf_14 : decode cX12_meanOf 14 = .ok (.iload_n 2, 1) := by decide +kernel
theorem dX12_meanOf_15 : decode cX12_meanOf 15 = .ok (.invokestatic 375, 3) := by decide +kernel
theorem dX12_meanOf_18 : decode cX12_meanOf 18 = .ok (.lreturn, 1) := by decide +kernel
theorem ml_X12_375 : Cond.methodLink RX12 375 yX12_part ∈ Wd := mW 1860 (by decide +kernel) rfl
theorem mk_X12_part : MokS yX12_part cX12_part 5 (some .long) 3 := ⟨⟨mW 14 (by decide +kernel) rfl, mW 1862 (by decide +kernel) rfl, ⟨by decide, by decide, by decide +kernel⟩, by decide⟩, mW 1861 (by decide +kernel) rfl⟩
def M_meanOf (x1 : Int32) (x2 : Int32) (h : Hp) (Q : Int64 → Hp → Prop) : Prop := vp_in x1 1024 ∧ vp_in x1 1024 ∧ M_part (((gI h 112 (x1).toNatClampNeg)).toInt64) (((gI h 113 (x1).toNatClampNeg)).toInt64) x2 h (fun r1 h2 => Q r1 h2)
set_option maxHeartbeats 4000000 in
set_option maxRecDepth 20000 in
theorem c_M_meanOf {G : Gx}  {x1 : Int32} {x2 : Int32} {h : Hp} {Q : Int64 → Hp → Prop} (hw : M_meanOf x1 x2 h Q) : Ct yX12_meanOf cX12_meanOf 3 (some .long) 103 G [.ref (gAd G 98), .int x1, .int x2] h (QJ G Q) := by
  refine ct_go [(0, .ref (gAd G 98)), (1, .int x1), (2, .int x2)] (plainFor_of_name (by decide)) rfl (Nat.le_of_ble_eq_true rfl) rfl ?_
  refine g_aload_n dX12_meanOf_0 rfl rfl ?_
  refine g_getA dX12_meanOf_1 fl_X12_57 sh98 rfl ?_
  refine g_iload_n dX12_meanOf_4 rfl rfl ?_
  refine g_iald dX12_meanOf_5 ia112 al112 hw.1 ?_
  have hw := hw.2
  refine g_i2l dX12_meanOf_6 ?_
  refine g_aload_n dX12_meanOf_7 rfl rfl ?_
  refine g_getA dX12_meanOf_8 fl_X12_60 sh98 rfl ?_
  refine g_iload_n dX12_meanOf_11 rfl rfl ?_
  refine g_iald dX12_meanOf_12 ia113 al113 hw.1 ?_
  have hw := hw.2
  refine g_i2l dX12_meanOf_13 ?_
  refine g_iload_n dX12_meanOf_14 rfl rfl ?_
  refine g_callSJ [.long (((gI h 112 (x1).toNatClampNeg)).toInt64), .long (((gI h 113 (x1).toNatClampNeg)).toInt64), .int x2] dX12_meanOf_15 ml_X12_375 mk_X12_part rfl (Nat.le_of_ble_eq_true rfl) (Nat.le_of_ble_eq_true rfl) rfl (c_M_part hw) (fun r1 h2 hw => ?_)
  exact g_lret dX12_meanOf_18 hw
theorem dX12_ring_0 : decode cX12_ring 0 = .ok (.aload_n 0, 1) := by decide +kernel
theorem dX12_ring_1 : decode cX12_ring 1 = .ok (.iconst 0, 1) := by decide +kernel
theorem dX12_ring_2 : decode cX12_ring 2 = .ok (.putfield 1, 3) := by decide +kernel
theorem dX12_ring_5 : decode cX12_ring 5 = .ok (.aload_n 0, 1) := by decide +kernel
theorem dX12_ring_6 : decode cX12_ring 6 = .ok (.iload_n 1, 1) := by decide +kernel
theorem dX12_ring_7 : decode cX12_ring 7 = .ok (.i2l, 1) := by decide +kernel
theorem dX12_ring_8 : decode cX12_ring 8 = .ok (.invokevirtual 256, 3) := by decide +kernel
theorem dX12_ring_11 : decode cX12_ring 11 = .ok (.ifCond .eq 23, 3) := by decide +kernel
theorem dX12_ring_14 : decode cX12_ring 14 = .ok (.iload_n 2, 1) := by decide +kernel
theorem dX12_ring_15 : decode cX12_ring 15 = .ok (.i2l, 1) := by decide +kernel
theorem dX12_ring_16 : decode cX12_ring 16 = .ok (.lconst 0, 1) := by decide +kernel
theorem dX12_ring_17 : decode cX12_ring 17 = .ok (.lconst 1, 1) := by decide +kernel
theorem dX12_ring_18 : decode cX12_ring 18 = .ok (.invokestatic 169, 3) := by decide +kernel
theorem dX12_ring_21 : decode cX12_ring 21 = .ok (.ifCond .eq 13, 3) := by decide +kernel
theorem dX12_ring_24 : decode cX12_ring 24 = .ok (.iload_n 3, 1) := by decide +kernel
theorem dX12_ring_25 : decode cX12_ring 25 = .ok (.i2l, 1) := by decide +kernel
theorem dX12_ring_26 : decode cX12_ring 26 = .ok (.lconst 0, 1) := by decide +kernel
theorem dX12_ring_27 : decode cX12_ring 27 = .ok (.lconst 1, 1) := by decide +kernel
theorem dX12_ring_28 : decode cX12_ring 28 = .ok (.invokestatic 169, 3) := by decide +kernel
theorem dX12_ring_31 : decode cX12_ring 31 = .ok (.ifCond .ne 7, 3) := by decide +kernel
theorem dX12_ring_34 : decode cX12_ring 34 = .ok (.ldc2_w 278, 3) := by decide +kernel
theorem dX12_ring_37 : decode cX12_ring 37 = .ok (.lreturn, 1) := by decide +kernel
theorem dX12_ring_38 : decode cX12_ring 38 = .ok (.aload_n 0, 1) := by decide +kernel
theorem dX12_ring_39 : decode cX12_ring 39 = .ok (.invokevirtual 379, 3) := by decide +kernel
theorem dX12_ring_42 : decode cX12_ring 42 = .ok (.aload_n 0, 1) := by decide +kernel
theorem dX12_ring_43 : decode cX12_ring 43 = .ok (.aload_n 0, 1) := by decide +kernel
theorem dX12_ring_44 : decode cX12_ring 44 = .ok (.aload_n 0, 1) := by decide +kernel
theorem dX12_ring_45 : decode cX12_ring 45 = .ok (.iload_n 1, 1) := by decide +kernel
theorem dX12_ring_46 : decode cX12_ring 46 = .ok (.aload_n 0, 1) := by decide +kernel
theorem dX12_ring_47 : decode cX12_ring 47 = .ok (.invokevirtual 382, 3) := by decide +kernel
theorem dX12_ring_50 : decode cX12_ring 50 = .ok (.invokevirtual 385, 3) := by decide +kernel
theorem dX12_ring_53 : decode cX12_ring 53 = .ok (.aload_n 0, 1) := by decide +kernel
theorem dX12_ring_54 : decode cX12_ring 54 = .ok (.invokevirtual 382, 3) := by decide +kernel
theorem dX12_ring_57 : decode cX12_ring 57 = .ok (.iload_n 2, 1) := by decide +kernel
theorem dX12_ring_58 : decode cX12_ring 58 = .ok (.iconst 1, 1) := by decide +kernel
theorem dX12_ring_59 : decode cX12_ring 59 = .ok (.if_icmp .ne 7, 3) := by decide +kernel
theorem dX12_ring_62 : decode cX12_ring 62 = .ok (.iconst 1, 1) := by decide +kernel
theorem dX12_ring_63 : decode cX12_ring 63 = .ok (.goto 4, 3) := by decide +kernel
theorem dX12_ring_66 : decode cX12_ring 66 = .ok (.iconst 0, 1) := by decide +kernel
theorem dX12_ring_67 : decode cX12_ring 67 = .ok (.invokevirtual 388, 3) := by decide +kernel
theorem dX12_ring_70 : decode cX12_ring 70 = .ok (.iload_n 3, 1) := by decide +kernel
theorem dX12_ring_71 : decode cX12_ring 71 = .ok (.invokevirtual 392, 3) := by decide +kernel
theorem dX12_ring_74 : decode cX12_ring 74 = .ok (.lreturn, 1) := by decide +kernel
theorem ml_X12_382 : Cond.methodLink RX12 382 yX12_allWays ∈ Wd := mW 1852 (by decide +kernel) rfl
theorem mk_X12_allWays : MokV yX12_allWays cX12_allWays 3 (some .int) 0 := ⟨⟨mW 14 (by decide +kernel) rfl, mW 1855 (by decide +kernel) rfl, ⟨by decide, by decide, by decide +kernel⟩, by decide⟩, mW 1854 (by decide +kernel) rfl, mS (q := (yX12_allWays, 46)) 102 (by decide +kernel)⟩
theorem ml_X12_392 : Cond.methodLink RX12 392 yX12_meanOf ∈ Wd := mW 1856 (by decide +kernel) rfl
theorem mk_X12_meanOf : MokV yX12_meanOf cX12_meanOf 3 (some .long) 2 := ⟨⟨mW 14 (by decide +kernel) rfl, mW 1859 (by decide +kernel) rfl, ⟨by decide, by decide, by decide +kernel⟩, by decide⟩, mW 1858 (by decide +kernel) rfl, mS (q := (yX12_meanOf, 46)) 103 (by decide +kernel)⟩
def M_ring (x1 : Int32) (x2 : Int32) (x3 : Int32) (h : Hp) (Q : Int64 → Hp → Prop) : Prop := ∀ h1 : Hp, h1 = sI h 98 0 0 → M_isPlace ((x1).toInt64) h1 (fun r2 h3 => (r2 = 0 → Q (-9000000000000000002 : Int64) h3) ∧ (¬ r2 = 0 → M_within ((x2).toInt64) (0 : Int64) (1 : Int64) h3 (fun r4 h5 => (r4 = 0 → Q (-9000000000000000002 : Int64) h5) ∧ (¬ r4 = 0 → M_within ((x3).toInt64) (0 : Int64) (1 : Int64) h5 (fun r6 h7 => (¬ r6 = 0 → M_laysRings  h7 (fun h8 => M_allWays  h8 (fun r9 h10 => M_comesBy x1 r9 h10 (fun r11 h12 => M_allWays  h12 (fun r13 h14 => ∀ J67 : Int32 → Hp → Prop, J67 = (fun s15 h16 => M_ringBy r11 r13 s15 h16 (fun r17 h18 => M_meanOf r17 x3 h18 (fun r19 h20 => Q r19 h20))) → (¬ x2 = 1 → J67 0 h14) ∧ (x2 = 1 → J67 1 h14)))))) ∧ (r6 = 0 → Q (-9000000000000000002 : Int64) h7))))))
set_option maxHeartbeats 4000000 in
set_option maxRecDepth 20000 in
theorem c_M_ring {G : Gx}  {x1 : Int32} {x2 : Int32} {x3 : Int32} {h : Hp} {Q : Int64 → Hp → Prop} (hw : M_ring x1 x2 x3 h Q) : Ct yX12_ring cX12_ring 4 (some .long) 104 G [.ref (gAd G 98), .int x1, .int x2, .int x3] h (QJ G Q) := by
  refine ct_go [(0, .ref (gAd G 98)), (1, .int x1), (2, .int x2), (3, .int x3)] (plainFor_of_name (by decide)) rfl (Nat.le_of_ble_eq_true rfl) rfl ?_
  refine g_aload_n dX12_ring_0 rfl rfl ?_
  refine g_iconst (v := 0) dX12_ring_1 (by decide) ?_
  refine g_putI dX12_ring_2 fl_X12_1 sh98 rfl rfl pf_12_0 ?_
  refine g_heap (fun h1 eh1 => ?_)
  have hw := hw h1 eh1
  refine g_aload_n dX12_ring_5 rfl rfl ?_
  refine g_iload_n dX12_ring_6 rfl rfl ?_
  refine g_i2l dX12_ring_7 ?_
  refine g_callVI [.long ((x1).toInt64)] (ci := 12) dX12_ring_8 ml_X12_256 mk_X12_isPlace rfl rfl sh98 (Nat.le_of_ble_eq_true rfl) (Nat.le_of_ble_eq_true rfl) rfl (c_M_isPlace hw) (fun r2 h3 hw => ?_)
  refine g_if_eq 34 dX12_ring_11 rfl (fun hc => ?_) (fun hc => ?_)
  · have hw := hw.1 hc
    refine g_ldc2 dX12_ring_34 kl_X12_278 ?_
    exact g_lret dX12_ring_37 hw
  · have hw := hw.2 hc
    refine g_iload_n dX12_ring_14 rfl rfl ?_
    refine g_i2l dX12_ring_15 ?_
    refine g_lconst (v := (0 : Int64)) dX12_ring_16 (by decide) ?_
    refine g_lconst (v := (1 : Int64)) dX12_ring_17 (by decide) ?_
    refine g_callSI [.long ((x2).toInt64), .long (0 : Int64), .long (1 : Int64)] dX12_ring_18 ml_X12_169 mk_X12_within rfl (Nat.le_of_ble_eq_true rfl) (Nat.le_of_ble_eq_true rfl) rfl (c_M_within hw) (fun r4 h5 hw => ?_)
    refine g_if_eq 34 dX12_ring_21 rfl (fun hc => ?_) (fun hc => ?_)
    · have hw := hw.1 hc
      refine g_ldc2 dX12_ring_34 kl_X12_278 ?_
      exact g_lret dX12_ring_37 hw
    · have hw := hw.2 hc
      refine g_iload_n dX12_ring_24 rfl rfl ?_
      refine g_i2l dX12_ring_25 ?_
      refine g_lconst (v := (0 : Int64)) dX12_ring_26 (by decide) ?_
      refine g_lconst (v := (1 : Int64)) dX12_ring_27 (by decide) ?_
      refine g_callSI [.long ((x3).toInt64), .long (0 : Int64), .long (1 : Int64)] dX12_ring_28 ml_X12_169 mk_X12_within rfl (Nat.le_of_ble_eq_true rfl) (Nat.le_of_ble_eq_true rfl) rfl (c_M_within hw) (fun r6 h7 hw => ?_)
      refine g_if_ne 38 dX12_ring_31 rfl (fun hc => ?_) (fun hc => ?_)
      · have hw := hw.1 hc
        refine g_aload_n dX12_ring_38 rfl rfl ?_
        refine g_callVV [] (ci := 12) dX12_ring_39 ml_X12_379 mk_X12_laysRings rfl rfl sh98 (Nat.le_of_ble_eq_true rfl) (Nat.le_of_ble_eq_true rfl) rfl (c_M_laysRings hw) (fun h8 hw => ?_)
        refine g_aload_n dX12_ring_42 rfl rfl ?_
        refine g_aload_n dX12_ring_43 rfl rfl ?_
        refine g_aload_n dX12_ring_44 rfl rfl ?_
        refine g_iload_n dX12_ring_45 rfl rfl ?_
        refine g_aload_n dX12_ring_46 rfl rfl ?_
        refine g_callVI [] (ci := 12) dX12_ring_47 ml_X12_382 mk_X12_allWays rfl rfl sh98 (Nat.le_of_ble_eq_true rfl) (Nat.le_of_ble_eq_true rfl) rfl (c_M_allWays hw) (fun r9 h10 hw => ?_)
        refine g_callVI [.int x1, .int r9] (ci := 12) dX12_ring_50 ml_X12_385 mk_X12_comesBy rfl rfl sh98 (Nat.le_of_ble_eq_true rfl) (Nat.le_of_ble_eq_true rfl) rfl (c_M_comesBy hw) (fun r11 h12 hw => ?_)
        refine g_aload_n dX12_ring_53 rfl rfl ?_
        refine g_callVI [] (ci := 12) dX12_ring_54 ml_X12_382 mk_X12_allWays rfl rfl sh98 (Nat.le_of_ble_eq_true rfl) (Nat.le_of_ble_eq_true rfl) rfl (c_M_allWays hw) (fun r13 h14 hw => ?_)
        refine g_iload_n dX12_ring_57 rfl rfl ?_
        refine g_iconst (v := 1) dX12_ring_58 (by decide) ?_
        refine jn_el hw (fun J67 eJ67 hw => ?_)
        have hJ67 : ∀ (s15 : Int32) (h16 : Hp), J67 s15 h16 → Go cX12_ring 4 RX12 (some .long) 104 G (QJ G Q) 67 [(3, .int x3)] [.int s15, .int r13, .int r11, .ref (gAd G 98), .ref (gAd G 98)] h16 := by
          intro s15 h16 hw
          subst eJ67
          refine g_callVI [.int r11, .int r13, .int s15] (ci := 12) dX12_ring_67 ml_X12_388 mk_X12_ringBy rfl rfl sh98 (Nat.le_of_ble_eq_true rfl) (Nat.le_of_ble_eq_true rfl) rfl (c_M_ringBy hw) (fun r17 h18 hw => ?_)
          refine g_iload_n dX12_ring_70 rfl rfl ?_
          refine g_callVJ [.int r17, .int x3] (ci := 12) dX12_ring_71 ml_X12_392 mk_X12_meanOf rfl rfl sh98 (Nat.le_of_ble_eq_true rfl) (Nat.le_of_ble_eq_true rfl) rfl (c_M_meanOf hw) (fun r19 h20 hw => ?_)
          exact g_lret dX12_ring_74 hw
        refine g_icmp_ne 66 dX12_ring_59 rfl (fun hc => ?_) (fun hc => ?_)
        · have hw := hw.1 hc
          refine g_iconst (v := 0) dX12_ring_66 (by decide) ?_
          refine g_lv [3] rfl ?_
          exact hJ67 _ _ hw
        · have hw := hw.2 hc
          refine g_iconst (v := 1) dX12_ring_62 (by decide) ?_
          refine g_goto 67 dX12_ring_63 rfl ?_
          refine g_lv [3] rfl ?_
          exact hJ67 _ _ hw
      · have hw := hw.2 hc
        refine g_ldc2 dX12_ring_34 kl_X12_278 ?_
        exact g_lret dX12_ring_37 hw
theorem dX12_reach_0 : decode cX12_reach 0 = .ok (.aload_n 0, 1) := by decide +kernel
theorem dX12_reach_1 : decode cX12_reach 1 = .ok (.iconst 0, 1) := by decide +kernel
theorem dX12_reach_2 : decode cX12_reach 2 = .ok (.putfield 1, 3) := by decide +kernel
theorem dX12_reach_5 : decode cX12_reach 5 = .ok (.aload_n 0, 1) := by decide +kernel
theorem dX12_reach_6 : decode cX12_reach 6 = .ok (.iload_n 1, 1) := by decide +kernel
theorem dX12_reach_7 : decode cX12_reach 7 = .ok (.i2l, 1) := by decide +kernel
theorem dX12_reach_8 : decode cX12_reach 8 = .ok (.invokevirtual 256, 3) := by decide +kernel
theorem dX12_reach_11 : decode cX12_reach 11 = .ok (.ifCond .ne 6, 3) := by decide +kernel
theorem dX12_reach_14 : decode cX12_reach 14 = .ok (.bipush (-2), 2) := by decide +kernel
theorem dX12_reach_16 : decode cX12_reach 16 = .ok (.ireturn, 1) := by decide +kernel
theorem dX12_reach_17 : decode cX12_reach 17 = .ok (.aload_n 0, 1) := by decide +kernel
theorem dX12_reach_18 : decode cX12_reach 18 = .ok (.invokevirtual 260, 3) := by decide +kernel
theorem dX12_reach_21 : decode cX12_reach 21 = .ok (.aload_n 0, 1) := by decide +kernel
theorem dX12_reach_22 : decode cX12_reach 22 = .ok (.iload_n 1, 1) := by decide +kernel
theorem dX12_reach_23 : decode cX12_reach 23 = .ok (.aload_n 0, 1) := by decide +kernel
theorem dX12_reach_24 : decode cX12_reach 24 = .ok (.invokevirtual 382, 3) := by decide +kernel
theorem dX12_reach_27 : decode cX12_reach 27 = .ok (.invokevirtual 385, 3) := by decide +kernel
theorem dX12_reach_30 : decode cX12_reach 30 = .ok (.ireturn, 1) := by decide +kernel
def M_reach (x1 : Int32) (h : Hp) (Q : Int32 → Hp → Prop) : Prop := ∀ h1 : Hp, h1 = sI h 98 0 0 → M_isPlace ((x1).toInt64) h1 (fun r2 h3 => (¬ r2 = 0 → M_laysWays  h3 (fun h4 => M_allWays  h4 (fun r5 h6 => M_comesBy x1 r5 h6 (fun r7 h8 => Q r7 h8)))) ∧ (r2 = 0 → Q (-2) h3))
set_option maxHeartbeats 4000000 in
set_option maxRecDepth 20000 in
theorem c_M_reach {G : Gx}  {x1 : Int32} {h : Hp} {Q : Int32 → Hp → Prop} (hw : M_reach x1 h Q) : Ct yX12_reach cX12_reach 2 (some .int) 5 G [.ref (gAd G 98), .int x1] h (QI G Q) := by
  refine ct_go [(0, .ref (gAd G 98)), (1, .int x1)] (plainFor_of_name (by decide)) rfl (Nat.le_of_ble_eq_true rfl) rfl ?_
  refine g_aload_n dX12_reach_0 rfl rfl ?_
  refine g_iconst (v := 0) dX12_reach_1 (by decide) ?_
  refine g_putI dX12_reach_2 fl_X12_1 sh98 rfl rfl pf_12_0 ?_
  refine g_heap (fun h1 eh1 => ?_)
  have hw := hw h1 eh1
  refine g_aload_n dX12_reach_5 rfl rfl ?_
  refine g_iload_n dX12_reach_6 rfl rfl ?_
  refine g_i2l dX12_reach_7 ?_
  refine g_callVI [.long ((x1).toInt64)] (ci := 12) dX12_reach_8 ml_X12_256 mk_X12_isPlace rfl rfl sh98 (Nat.le_of_ble_eq_true rfl) (Nat.le_of_ble_eq_true rfl) rfl (c_M_isPlace hw) (fun r2 h3 hw => ?_)
  refine g_if_ne 17 dX12_reach_11 rfl (fun hc => ?_) (fun hc => ?_)
  · have hw := hw.1 hc
    refine g_aload_n dX12_reach_17 rfl rfl ?_
    refine g_callVV [] (ci := 12) dX12_reach_18 ml_X12_260 mk_X12_laysWays rfl rfl sh98 (Nat.le_of_ble_eq_true rfl) (Nat.le_of_ble_eq_true rfl) rfl (c_M_laysWays hw) (fun h4 hw => ?_)
    refine g_aload_n dX12_reach_21 rfl rfl ?_
    refine g_iload_n dX12_reach_22 rfl rfl ?_
    refine g_aload_n dX12_reach_23 rfl rfl ?_
    refine g_callVI [] (ci := 12) dX12_reach_24 ml_X12_382 mk_X12_allWays rfl rfl sh98 (Nat.le_of_ble_eq_true rfl) (Nat.le_of_ble_eq_true rfl) rfl (c_M_allWays hw) (fun r5 h6 hw => ?_)
    refine g_callVI [.int x1, .int r5] (ci := 12) dX12_reach_27 ml_X12_385 mk_X12_comesBy rfl rfl sh98 (Nat.le_of_ble_eq_true rfl) (Nat.le_of_ble_eq_true rfl) rfl (c_M_comesBy hw) (fun r7 h8 hw => ?_)
    exact g_iret dX12_reach_30 hw
  · have hw := hw.2 hc
    refine g_bipush (v := (-2)) dX12_reach_14 (by decide) ?_
    exact g_iret dX12_reach_16 hw
theorem dX12_onRing_0 : decode cX12_onRing 0 = .ok (.aload_n 0, 1) := by decide +kernel
theorem dX12_onRing_1 : decode cX12_onRing 1 = .ok (.iconst 0, 1) := by decide +kernel
theorem dX12_onRing_2 : decode cX12_onRing 2 = .ok (.putfield 1, 3) := by decide +kernel
theorem dX12_onRing_5 : decode cX12_onRing 5 = .ok (.iload_n 1, 1) := by decide +kernel
theorem dX12_onRing_6 : decode cX12_onRing 6 = .ok (.i2l, 1) := by decide +kernel
theorem dX12_onRing_7 : decode cX12_onRing 7 = .ok (.lconst 0, 1) := by decide +kernel
theorem dX12_onRing_8 : decode cX12_onRing 8 = .ok (.lconst 1, 1) := by decide +kernel
theorem dX12_onRing_9 : decode cX12_onRing 9 = .ok (.invokestatic 169, 3) := by decide +kernel
theorem dX12_onRing_12 : decode cX12_onRing 12 = .ok (.ifCond .ne 6, 3) := by decide +kernel
theorem dX12_onRing_15 : decode cX12_onRing 15 = .ok (.bipush (-2), 2) := by decide +kernel
theorem dX12_onRing_17 : decode cX12_onRing 17 = .ok (.ireturn, 1) := by decide +kernel
theorem dX12_onRing_18 : decode cX12_onRing 18 = .ok (.aload_n 0, 1) := by decide +kernel
theorem dX12_onRing_19 : decode cX12_onRing 19 = .ok (.invokevirtual 379, 3) := by decide +kernel
theorem dX12_onRing_22 : decode cX12_onRing 22 = .ok (.aload_n 0, 1) := by decide +kernel
theorem dX12_onRing_23 : decode cX12_onRing 23 = .ok (.iconst 1, 1) := by decide +kernel
theorem dX12_onRing_24 : decode cX12_onRing 24 = .ok (.aload_n 0, 1) := by decide +kernel
theorem dX12_onRing_25 : decode cX12_onRing 25 = .ok (.getfield 13, 3) := by decide +kernel
theorem dX12_onRing_28 : decode cX12_onRing 28 = .ok (.iconst 1, 1) := by decide +kernel
theorem dX12_onRing_29 : decode cX12_onRing 29 = .ok (.iaload, 1) := by decide +kernel
theorem dX12_onRing_30 : decode cX12_onRing 30 = .ok (.ishl, 1) := by decide +kernel
theorem dX12_onRing_31 : decode cX12_onRing 31 = .ok (.iconst 1, 1) := by decide +kernel
theorem dX12_onRing_32 : decode cX12_onRing 32 = .ok (.isub, 1) := by decide +kernel
theorem dX12_onRing_33 : decode cX12_onRing 33 = .ok (.aload_n 0, 1) := by decide +kernel
theorem dX12_onRing_34 : decode cX12_onRing 34 = .ok (.invokevirtual 382, 3) := by decide +kernel
theorem dX12_onRing_37 : decode cX12_onRing 37 = .ok (.iload_n 1, 1) := by decide +kernel
theorem dX12_onRing_38 : decode cX12_onRing 38 = .ok (.iconst 1, 1) := by decide +kernel
theorem dX12_onRing_39 : decode cX12_onRing 39 = .ok (.if_icmp .ne 7, 3) := by decide +kernel
theorem dX12_onRing_42 : decode cX12_onRing 42 = .ok (.iconst 1, 1) := by decide +kernel
theorem dX12_onRing_43 : decode cX12_onRing 43 = .ok (.goto 4, 3) := by decide +kernel
theorem dX12_onRing_46 : decode cX12_onRing 46 = .ok (.iconst 0, 1) := by decide +kernel
theorem dX12_onRing_47 : decode cX12_onRing 47 = .ok (.invokevirtual 388, 3) := by decide +kernel
theorem dX12_onRing_50 : decode cX12_onRing 50 = .ok (.istore_n 2, 1) := by decide +kernel
theorem dX12_onRing_51 : decode cX12_onRing 51 = .ok (.iconst 0, 1) := by decide +kernel
theorem dX12_onRing_52 : decode cX12_onRing 52 = .ok (.istore_n 3, 1) := by decide +kernel
theorem dX12_onRing_53 : decode cX12_onRing 53 = .ok (.iconst 0, 1) := by decide +kernel
theorem dX12_onRing_54 : decode cX12_onRing 54 = .ok (.istore 4, 2) := by decide +kernel
theorem dX12_onRing_56 : decode cX12_onRing 56 = .ok (.iload 4, 2) := by decide +kernel
theorem dX12_onRing_58 : decode cX12_onRing 58 = .ok (.aload_n 0, 1) := by decide +kernel
theorem dX12_onRing_59 : decode cX12_onRing 59 = .ok (.getfield 360, 3) := by decide +kernel
theorem dX12_onRing_62 : decode cX12_onRing 62 = .ok (.if_icmp .ge 43, 3) := by decide +kernel
theorem dX12_onRing_65 : decode cX12_onRing 65 = .ok (.iload_n 3, 1) := by decide +kernel
theorem dX12_onRing_66 : decode cX12_onRing 66 = .ok (.aload_n 0, 1) := by decide +kernel
theorem dX12_onRing_67 : decode cX12_onRing 67 = .ok (.iload 4, 2) := by decide +kernel
theorem dX12_onRing_69 : decode cX12_onRing 69 = .ok (.iload_n 2, 1) := by decide +kernel
theorem dX12_onRing_70 : decode cX12_onRing 70 = .ok (.invokevirtual 367, 3) := by decide +kernel
theorem dX12_onRing_73 : decode cX12_onRing 73 = .ok (.ifCond .ne 13, 3) := by decide +kernel
theorem dX12_onRing_76 : decode cX12_onRing 76 = .ok (.aload_n 0, 1) := by decide +kernel
theorem dX12_onRing_77 : decode cX12_onRing 77 = .ok (.iload_n 2, 1) := by decide +kernel
theorem dX12_onRing_78 : decode cX12_onRing 78 = .ok (.iload 4, 2) := by decide +kernel
theorem dX12_onRing_80 : decode cX12_onRing 80 = .ok (.invokevirtual 367, 3) := by decide +kernel
theorem dX12_onRing_83 : decode cX12_onRing 83 = .ok (.ifCond .eq 7, 3) := by decide +kernel
theorem dX12_onRing_86 : decode cX12_onRing 86 = .ok (.iconst 0, 1) := by decide +kernel
theorem dX12_onRing_87 : decode cX12_onRing 87 = .ok (.goto 10, 3) := by decide +kernel
theorem dX12_onRing_90 : decode cX12_onRing 90 = .ok (.aload_n 0, 1) := by decide +kernel
theorem dX12_onRing_91 : decode cX12_onRing 91 = .ok (.getfield 54, 3) := by decide +kernel
theorem dX12_onRing_94 : decode cX12_onRing 94 = .ok (.iload 4, 2) := by decide +kernel
theorem dX12_onRing_96 : decode cX12_onRing 96 = .ok (.iaload, 1) := by decide +kernel
theorem dX12_onRing_97 : decode cX12_onRing 97 = .ok (.ior, 1) := by decide +kernel
theorem dX12_onRing_98 : decode cX12_onRing 98 = .ok (.istore_n 3, 1) := by decide +kernel
theorem dX12_onRing_99 : decode cX12_onRing 99 = .ok (.iinc 4 1, 3) := by decide +kernel
theorem dX12_onRing_102 : decode cX12_onRing 102 = .ok (.goto (-46), 3) := by decide +kernel
theorem dX12_onRing_105 : decode cX12_onRing 105 = .ok (.iload_n 3, 1) := by decide +kernel
theorem dX12_onRing_106 : decode cX12_onRing 106 = .ok (.ireturn, 1) := by decide +kernel
def M_onRing_L56 (x2 : Int32) (Q : Int32 → Hp → Prop) : Nat → Int32 → Int32 → Hp → Prop
  | 0, _, _, _ => False
  | n + 1, x3, x4, h => ((gI h 98 28) ≤ x4 → Q x3 h) ∧ (¬ (gI h 98 28) ≤ x4 → M_isLess x4 x2 h (fun r11 h12 => ∀ J97 : Int32 → Hp → Prop, J97 = (fun s13 h14 => ∀ v15 : Int32, v15 = (x3 ||| s13) → ∀ v16 : Int32, v16 = (x4 + 1) → M_onRing_L56 x2 Q n v15 v16 h14) → ∀ J86 : Hp → Prop, J86 = (fun h17 => J97 0 h17) → (¬ r11 = 0 → J86 h12) ∧ (r11 = 0 → M_isLess x2 x4 h12 (fun r18 h19 => (r18 = 0 → vp_in x4 1024 ∧ J97 (gI h19 111 (x4).toNatClampNeg) h19) ∧ (¬ r18 = 0 → J86 h19)))))
set_option maxHeartbeats 4000000 in
set_option maxRecDepth 20000 in
theorem gl_M_onRing_L56 {G : Gx}  {x2 : Int32} {Q : Int32 → Hp → Prop} : ∀ (n : Nat) (x3 : Int32) (x4 : Int32) (h : Hp), M_onRing_L56 x2 Q n x3 x4 h → Go cX12_onRing 5 RX12 (some .int) 14 G (QI G Q) 56 [(0, .ref (gAd G 98)), (2, .int x2), (3, .int x3), (4, .int x4)] [] h := by
  intro n
  induction n with
  | zero => intro _ _ h hw; exact False.elim hw
  | succ n ih =>
    intro x3 x4 h hw
    refine g_iload dX12_onRing_56 rfl ?_
    refine g_aload_n dX12_onRing_58 rfl rfl ?_
    refine g_getI dX12_onRing_59 fl_X12_360 sh98 rfl ?_
    refine g_icmp_ge 105 dX12_onRing_62 rfl (fun hc => ?_) (fun hc => ?_)
    · have hw := hw.1 hc
      refine g_iload_n dX12_onRing_105 rfl rfl ?_
      exact g_iret dX12_onRing_106 hw
    · have hw := hw.2 hc
      refine g_iload_n dX12_onRing_65 rfl rfl ?_
      refine g_aload_n dX12_onRing_66 rfl rfl ?_
      refine g_iload dX12_onRing_67 rfl ?_
      refine g_iload_n dX12_onRing_69 rfl rfl ?_
      refine g_callVI [.int x4, .int x2] (ci := 12) dX12_onRing_70 ml_X12_367 mk_X12_isLess rfl rfl sh98 (Nat.le_of_ble_eq_true rfl) (Nat.le_of_ble_eq_true rfl) rfl (c_M_isLess hw) (fun r11 h12 hw => ?_)
      refine jn_el hw (fun J97 eJ97 hw => ?_)
      have hJ97 : ∀ (s13 : Int32) (h14 : Hp), J97 s13 h14 → Go cX12_onRing 5 RX12 (some .int) 14 G (QI G Q) 97 [(0, .ref (gAd G 98)), (2, .int x2), (4, .int x4)] [.int s13, .int x3] h14 := by
        intro s13 h14 hw
        subst eJ97
        refine g_ior dX12_onRing_97 ?_
        refine g_topi (fun v15 ev15 => ?_)
        have hw := hw v15 ev15
        refine g_istore_n dX12_onRing_98 rfl (by decide) (lv1 := [(0, .ref (gAd G 98)), (2, .int x2), (3, .int v15), (4, .int x4)]) rfl ?_
        obtain ⟨v16, ev16⟩ : ∃ y : Int32, y = (x4 + 1) := ⟨_, rfl⟩
        have hw := hw v16 ev16
        refine g_iinc dX12_onRing_99 rfl (by rw [ev16]; rfl) (by decide) (lv1 := [(0, .ref (gAd G 98)), (2, .int x2), (3, .int v15), (4, .int v16)]) rfl ?_
        refine g_goto 56 dX12_onRing_102 rfl ?_
        exact ih _ _ _ hw
      refine jn_el hw (fun J86 eJ86 hw => ?_)
      have hJ86 : ∀ (h17 : Hp), J86 h17 → Go cX12_onRing 5 RX12 (some .int) 14 G (QI G Q) 86 [(0, .ref (gAd G 98)), (2, .int x2), (4, .int x4)] [.int x3] h17 := by
        intro h17 hw
        subst eJ86
        refine g_iconst (v := 0) dX12_onRing_86 (by decide) ?_
        refine g_goto 97 dX12_onRing_87 rfl ?_
        exact hJ97 _ _ hw
      refine g_if_ne 86 dX12_onRing_73 rfl (fun hc => ?_) (fun hc => ?_)
      · have hw := hw.1 hc
        refine g_lv [0, 1, 3] rfl ?_
        exact hJ86 _ hw
      · have hw := hw.2 hc
        refine g_aload_n dX12_onRing_76 rfl rfl ?_
        refine g_iload_n dX12_onRing_77 rfl rfl ?_
        refine g_iload dX12_onRing_78 rfl ?_
        refine g_callVI [.int x2, .int x4] (ci := 12) dX12_onRing_80 ml_X12_367 mk_X12_isLess rfl rfl sh98 (Nat.le_of_ble_eq_true rfl) (Nat.le_of_ble_eq_true rfl) rfl (c_M_isLess hw) (fun r18 h19 hw => ?_)
        refine g_if_eq 90 dX12_onRing_83 rfl (fun hc => ?_) (fun hc => ?_)
        · have hw := hw.1 hc
          refine g_aload_n dX12_onRing_90 rfl rfl ?_
          refine g_getA dX12_onRing_91 fl_X12_54 sh98 rfl ?_
          refine g_iload dX12_onRing_94 rfl ?_
          refine g_iald dX12_onRing_96 ia111 al111 hw.1 ?_
          have hw := hw.2
          refine g_lv [0, 1, 3] rfl ?_
          exact hJ97 _ _ hw
        · have hw := hw.2 hc
          refine g_lv [0, 1, 3] rfl ?_
          exact hJ86 _ hw
def M_onRing (x1 : Int32) (h : Hp) (Q : Int32 → Hp → Prop) : Prop := ∀ h1 : Hp, h1 = sI h 98 0 0 → M_within ((x1).toInt64) (0 : Int64) (1 : Int64) h1 (fun r2 h3 => (¬ r2 = 0 → M_laysRings  h3 (fun h4 => M_allWays  h4 (fun r5 h6 => ∀ J47 : Int32 → Hp → Prop, J47 = (fun s7 h8 => M_ringBy (((1 : Int32) <<< ((gI h4 99 1) &&& 31)) - 1) r5 s7 h8 (fun r9 h10 => ∃ n20, M_onRing_L56 r9 Q n20 0 0 h10)) → (¬ x1 = 1 → J47 0 h6) ∧ (x1 = 1 → J47 1 h6)))) ∧ (r2 = 0 → Q (-2) h3))
set_option maxHeartbeats 4000000 in
set_option maxRecDepth 20000 in
theorem c_M_onRing {G : Gx}  {x1 : Int32} {h : Hp} {Q : Int32 → Hp → Prop} (hw : M_onRing x1 h Q) : Ct yX12_onRing cX12_onRing 5 (some .int) 14 G [.ref (gAd G 98), .int x1] h (QI G Q) := by
  refine ct_go [(0, .ref (gAd G 98)), (1, .int x1)] (plainFor_of_name (by decide)) rfl (Nat.le_of_ble_eq_true rfl) rfl ?_
  refine g_aload_n dX12_onRing_0 rfl rfl ?_
  refine g_iconst (v := 0) dX12_onRing_1 (by decide) ?_
  refine g_putI dX12_onRing_2 fl_X12_1 sh98 rfl rfl pf_12_0 ?_
  refine g_heap (fun h1 eh1 => ?_)
  have hw := hw h1 eh1
  refine g_iload_n dX12_onRing_5 rfl rfl ?_
  refine g_i2l dX12_onRing_6 ?_
  refine g_lconst (v := (0 : Int64)) dX12_onRing_7 (by decide) ?_
  refine g_lconst (v := (1 : Int64)) dX12_onRing_8 (by decide) ?_
  refine g_callSI [.long ((x1).toInt64), .long (0 : Int64), .long (1 : Int64)] dX12_onRing_9 ml_X12_169 mk_X12_within rfl (Nat.le_of_ble_eq_true rfl) (Nat.le_of_ble_eq_true rfl) rfl (c_M_within hw) (fun r2 h3 hw => ?_)
  refine g_if_ne 18 dX12_onRing_12 rfl (fun hc => ?_) (fun hc => ?_)
  · have hw := hw.1 hc
    refine g_aload_n dX12_onRing_18 rfl rfl ?_
    refine g_callVV [] (ci := 12) dX12_onRing_19 ml_X12_379 mk_X12_laysRings rfl rfl sh98 (Nat.le_of_ble_eq_true rfl) (Nat.le_of_ble_eq_true rfl) rfl (c_M_laysRings hw) (fun h4 hw => ?_)
    refine g_aload_n dX12_onRing_22 rfl rfl ?_
    refine g_iconst (v := 1) dX12_onRing_23 (by decide) ?_
    refine g_aload_n dX12_onRing_24 rfl rfl ?_
    refine g_getA dX12_onRing_25 fl_X12_13 sh98 rfl ?_
    refine g_iconst (v := 1) dX12_onRing_28 (by decide) ?_
    refine g_ialdK dX12_onRing_29 ia99 al99 (by unfold vp_in; decide) (k := 1) (by decide) ?_
    refine g_ishl dX12_onRing_30 ?_
    refine g_iconst (v := 1) dX12_onRing_31 (by decide) ?_
    refine g_isub dX12_onRing_32 ?_
    refine g_aload_n dX12_onRing_33 rfl rfl ?_
    refine g_callVI [] (ci := 12) dX12_onRing_34 ml_X12_382 mk_X12_allWays rfl rfl sh98 (Nat.le_of_ble_eq_true rfl) (Nat.le_of_ble_eq_true rfl) rfl (c_M_allWays hw) (fun r5 h6 hw => ?_)
    refine g_iload_n dX12_onRing_37 rfl rfl ?_
    refine g_iconst (v := 1) dX12_onRing_38 (by decide) ?_
    refine jn_el hw (fun J47 eJ47 hw => ?_)
    have hJ47 : ∀ (s7 : Int32) (h8 : Hp), J47 s7 h8 → Go cX12_onRing 5 RX12 (some .int) 14 G (QI G Q) 47 [(0, .ref (gAd G 98))] [.int s7, .int r5, .int (((1 : Int32) <<< ((gI h4 99 1) &&& 31)) - 1), .ref (gAd G 98)] h8 := by
      intro s7 h8 hw
      subst eJ47
      refine g_callVI [.int (((1 : Int32) <<< ((gI h4 99 1) &&& 31)) - 1), .int r5, .int s7] (ci := 12) dX12_onRing_47 ml_X12_388 mk_X12_ringBy rfl rfl sh98 (Nat.le_of_ble_eq_true rfl) (Nat.le_of_ble_eq_true rfl) rfl (c_M_ringBy hw) (fun r9 h10 hw => ?_)
      refine g_istore_n dX12_onRing_50 rfl (by decide) (lv1 := [(0, .ref (gAd G 98)), (2, .int r9)]) rfl ?_
      refine g_iconst (v := 0) dX12_onRing_51 (by decide) ?_
      refine g_istore_n dX12_onRing_52 rfl (by decide) (lv1 := [(0, .ref (gAd G 98)), (2, .int r9), (3, .int 0)]) rfl ?_
      refine g_iconst (v := 0) dX12_onRing_53 (by decide) ?_
      refine g_istore dX12_onRing_54 (by decide) (lv1 := [(0, .ref (gAd G 98)), (2, .int r9), (3, .int 0), (4, .int 0)]) rfl ?_
      obtain ⟨n20, hw⟩ := hw
      refine gl_M_onRing_L56   _ _ _ _ hw
    refine g_icmp_ne 46 dX12_onRing_39 rfl (fun hc => ?_) (fun hc => ?_)
    · have hw := hw.1 hc
      refine g_iconst (v := 0) dX12_onRing_46 (by decide) ?_
      refine g_lv [0] rfl ?_
      exact hJ47 _ _ hw
    · have hw := hw.2 hc
      refine g_iconst (v := 1) dX12_onRing_42 (by decide) ?_
      refine g_goto 47 dX12_onRing_43 rfl ?_
      refine g_lv [0] rfl ?_
      exact hJ47 _ _ hw
  · have hw := hw.2 hc
    refine g_bipush (v := (-2)) dX12_onRing_15 (by decide) ?_
    exact g_iret dX12_onRing_17 hw
theorem dX12_worth_0 : decode cX12_worth 0 = .ok (.aload_n 0, 1) := by decide +kernel
theorem dX12_worth_1 : decode cX12_worth 1 = .ok (.iconst 0, 1) := by decide +kernel
theorem dX12_worth_2 : decode cX12_worth 2 = .ok (.putfield 1, 3) := by decide +kernel
theorem dX12_worth_5 : decode cX12_worth 5 = .ok (.aload_n 0, 1) := by decide +kernel
theorem dX12_worth_6 : decode cX12_worth 6 = .ok (.iload_n 1, 1) := by decide +kernel
theorem dX12_worth_7 : decode cX12_worth 7 = .ok (.i2l, 1) := by decide +kernel
theorem dX12_worth_8 : decode cX12_worth 8 = .ok (.invokevirtual 256, 3) := by decide +kernel
theorem dX12_worth_11 : decode cX12_worth 11 = .ok (.ifCond .eq 13, 3) := by decide +kernel
theorem dX12_worth_14 : decode cX12_worth 14 = .ok (.iload_n 2, 1) := by decide +kernel
theorem dX12_worth_15 : decode cX12_worth 15 = .ok (.i2l, 1) := by decide +kernel
theorem dX12_worth_16 : decode cX12_worth 16 = .ok (.lconst 0, 1) := by decide +kernel
theorem dX12_worth_17 : decode cX12_worth 17 = .ok (.lconst 1, 1) := by decide +kernel
theorem dX12_worth_18 : decode cX12_worth 18 = .ok (.invokestatic 169, 3) := by decide +kernel
theorem dX12_worth_21 : decode cX12_worth 21 = .ok (.ifCond .ne 7, 3) := by decide +kernel
theorem dX12_worth_24 : decode cX12_worth 24 = .ok (.ldc2_w 278, 3) := by decide +kernel
theorem dX12_worth_27 : decode cX12_worth 27 = .ok (.lreturn, 1) := by decide +kernel
theorem dX12_worth_28 : decode cX12_worth 28 = .ok (.aload_n 0, 1) := by decide +kernel
theorem dX12_worth_29 : decode cX12_worth 29 = .ok (.invokevirtual 310, 3) := by decide +kernel
theorem dX12_worth_32 : decode cX12_worth 32 = .ok (.aload_n 0, 1) := by decide +kernel
theorem dX12_worth_33 : decode cX12_worth 33 = .ok (.aload_n 0, 1) := by decide +kernel
theorem dX12_worth_34 : decode cX12_worth 34 = .ok (.getfield 66, 3) := by decide +kernel
theorem dX12_worth_37 : decode cX12_worth 37 = .ok (.iload_n 1, 1) := by decide +kernel
theorem dX12_worth_38 : decode cX12_worth 38 = .ok (.iaload, 1) := by decide +kernel
theorem dX12_worth_39 : decode cX12_worth 39 = .ok (.iload_n 2, 1) := by decide +kernel
theorem dX12_worth_40 : decode cX12_worth 40 = .ok (.invokevirtual 392, 3) := by decide +kernel
theorem dX12_worth_43 : decode cX12_worth 43 = .ok (.lreturn, 1) := by decide +kernel
def M_worth (x1 : Int32) (x2 : Int32) (h : Hp) (Q : Int64 → Hp → Prop) : Prop := ∀ h1 : Hp, h1 = sI h 98 0 0 → M_isPlace ((x1).toInt64) h1 (fun r2 h3 => (r2 = 0 → Q (-9000000000000000002 : Int64) h3) ∧ (¬ r2 = 0 → M_within ((x2).toInt64) (0 : Int64) (1 : Int64) h3 (fun r4 h5 => (¬ r4 = 0 → M_laysGame  h5 (fun h6 => vp_in x1 8 ∧ M_meanOf (gI h6 115 (x1).toNatClampNeg) x2 h6 (fun r7 h8 => Q r7 h8))) ∧ (r4 = 0 → Q (-9000000000000000002 : Int64) h5))))
set_option maxHeartbeats 4000000 in
set_option maxRecDepth 20000 in
theorem c_M_worth {G : Gx}  {x1 : Int32} {x2 : Int32} {h : Hp} {Q : Int64 → Hp → Prop} (hw : M_worth x1 x2 h Q) : Ct yX12_worth cX12_worth 3 (some .long) 104 G [.ref (gAd G 98), .int x1, .int x2] h (QJ G Q) := by
  refine ct_go [(0, .ref (gAd G 98)), (1, .int x1), (2, .int x2)] (plainFor_of_name (by decide)) rfl (Nat.le_of_ble_eq_true rfl) rfl ?_
  refine g_aload_n dX12_worth_0 rfl rfl ?_
  refine g_iconst (v := 0) dX12_worth_1 (by decide) ?_
  refine g_putI dX12_worth_2 fl_X12_1 sh98 rfl rfl pf_12_0 ?_
  refine g_heap (fun h1 eh1 => ?_)
  have hw := hw h1 eh1
  refine g_aload_n dX12_worth_5 rfl rfl ?_
  refine g_iload_n dX12_worth_6 rfl rfl ?_
  refine g_i2l dX12_worth_7 ?_
  refine g_callVI [.long ((x1).toInt64)] (ci := 12) dX12_worth_8 ml_X12_256 mk_X12_isPlace rfl rfl sh98 (Nat.le_of_ble_eq_true rfl) (Nat.le_of_ble_eq_true rfl) rfl (c_M_isPlace hw) (fun r2 h3 hw => ?_)
  refine g_if_eq 24 dX12_worth_11 rfl (fun hc => ?_) (fun hc => ?_)
  · have hw := hw.1 hc
    refine g_ldc2 dX12_worth_24 kl_X12_278 ?_
    exact g_lret dX12_worth_27 hw
  · have hw := hw.2 hc
    refine g_iload_n dX12_worth_14 rfl rfl ?_
    refine g_i2l dX12_worth_15 ?_
    refine g_lconst (v := (0 : Int64)) dX12_worth_16 (by decide) ?_
    refine g_lconst (v := (1 : Int64)) dX12_worth_17 (by decide) ?_
    refine g_callSI [.long ((x2).toInt64), .long (0 : Int64), .long (1 : Int64)] dX12_worth_18 ml_X12_169 mk_X12_within rfl (Nat.le_of_ble_eq_true rfl) (Nat.le_of_ble_eq_true rfl) rfl (c_M_within hw) (fun r4 h5 hw => ?_)
    refine g_if_ne 28 dX12_worth_21 rfl (fun hc => ?_) (fun hc => ?_)
    · have hw := hw.1 hc
      refine g_aload_n dX12_worth_28 rfl rfl ?_
      refine g_callVV [] (ci := 12) dX12_worth_29 ml_X12_310 mk_X12_laysGame rfl rfl sh98 (Nat.le_of_ble_eq_true rfl) (Nat.le_of_ble_eq_true rfl) rfl (c_M_laysGame hw) (fun h6 hw => ?_)
      refine g_aload_n dX12_worth_32 rfl rfl ?_
      refine g_aload_n dX12_worth_33 rfl rfl ?_
      refine g_getA dX12_worth_34 fl_X12_66 sh98 rfl ?_
      refine g_iload_n dX12_worth_37 rfl rfl ?_
      refine g_iald dX12_worth_38 ia115 al115 hw.1 ?_
      have hw := hw.2
      refine g_iload_n dX12_worth_39 rfl rfl ?_
      refine g_callVJ [.int (gI h6 115 (x1).toNatClampNeg), .int x2] (ci := 12) dX12_worth_40 ml_X12_392 mk_X12_meanOf rfl rfl sh98 (Nat.le_of_ble_eq_true rfl) (Nat.le_of_ble_eq_true rfl) rfl (c_M_meanOf hw) (fun r7 h8 hw => ?_)
      exact g_lret dX12_worth_43 hw
    · have hw := hw.2 hc
      refine g_ldc2 dX12_worth_24 kl_X12_278 ?_
      exact g_lret dX12_worth_27 hw
theorem dX12_wins_0 : decode cX12_wins 0 = .ok (.aload_n 0, 1) := by decide +kernel
theorem dX12_wins_1 : decode cX12_wins 1 = .ok (.iconst 0, 1) := by decide +kernel
theorem dX12_wins_2 : decode cX12_wins 2 = .ok (.putfield 1, 3) := by decide +kernel
theorem dX12_wins_5 : decode cX12_wins 5 = .ok (.iload_n 1, 1) := by decide +kernel
theorem dX12_wins_6 : decode cX12_wins 6 = .ok (.i2l, 1) := by decide +kernel
theorem dX12_wins_7 : decode cX12_wins 7 = .ok (.lconst 0, 1) := by decide +kernel
theorem dX12_wins_8 : decode cX12_wins 8 = .ok (.ldc2_w 409, 3) := by decide +kernel
theorem dX12_wins_11 : decode cX12_wins 11 = .ok (.invokestatic 169, 3) := by decide +kernel
theorem dX12_wins_14 : decode cX12_wins 14 = .ok (.ifCond .ne 6, 3) := by decide +kernel
theorem dX12_wins_17 : decode cX12_wins 17 = .ok (.bipush (-2), 2) := by decide +kernel
theorem dX12_wins_19 : decode cX12_wins 19 = .ok (.ireturn, 1) := by decide +kernel
theorem dX12_wins_20 : decode cX12_wins 20 = .ok (.aload_n 0, 1) := by decide +kernel
theorem dX12_wins_21 : decode cX12_wins 21 = .ok (.invokevirtual 310, 3) := by decide +kernel
theorem dX12_wins_24 : decode cX12_wins 24 = .ok (.iconst 0, 1) := by decide +kernel
theorem dX12_wins_25 : decode cX12_wins 25 = .ok (.istore_n 2, 1) := by decide +kernel
theorem dX12_wins_26 : decode cX12_wins 26 = .ok (.iconst 0, 1) := by decide +kernel
theorem dX12_wins_27 : decode cX12_wins 27 = .ok (.istore_n 3, 1) := by decide +kernel
theorem dX12_wins_28 : decode cX12_wins 28 = .ok (.iload_n 3, 1) := by decide +kernel
theorem dX12_wins_29 : decode cX12_wins 29 = .ok (.aload_n 0, 1) := by decide +kernel
theorem dX12_wins_30 : decode cX12_wins 30 = .ok (.getfield 13, 3) := by decide +kernel
theorem dX12_wins_33 : decode cX12_wins 33 = .ok (.iconst 1, 1) := by decide +kernel
theorem dX12_wins_34 : decode cX12_wins 34 = .ok (.iaload, 1) := by decide +kernel
theorem dX12_wins_35 : decode cX12_wins 35 = .ok (.if_icmp .ge 55, 3) := by decide +kernel
theorem dX12_wins_38 : decode cX12_wins 38 = .ok (.aload_n 0, 1) := by decide +kernel
theorem dX12_wins_39 : decode cX12_wins 39 = .ok (.getfield 57, 3) := by decide +kernel
theorem dX12_wins_42 : decode cX12_wins 42 = .ok (.aload_n 0, 1) := by decide +kernel
theorem dX12_wins_43 : decode cX12_wins 43 = .ok (.getfield 66, 3) := by decide +kernel
theorem dX12_wins_46 : decode cX12_wins 46 = .ok (.iload_n 3, 1) := by decide +kernel
theorem dX12_wins_47 : decode cX12_wins 47 = .ok (.iaload, 1) := by decide +kernel
theorem dX12_wins_48 : decode cX12_wins 48 = .ok (.iaload, 1) := by decide +kernel
theorem dX12_wins_49 : decode cX12_wins 49 = .ok (.istore 4, 2) := by decide +kernel
theorem dX12_wins_51 : decode cX12_wins 51 = .ok (.iload_n 2, 1) := by decide +kernel
theorem dX12_wins_52 : decode cX12_wins 52 = .ok (.iload 4, 2) := by decide +kernel
theorem dX12_wins_54 : decode cX12_wins 54 = .ok (.ifCond .ge 7, 3) := by decide +kernel
theorem dX12_wins_57 : decode cX12_wins 57 = .ok (.iconst 0, 1) := by decide +kernel
theorem dX12_wins_58 : decode cX12_wins 58 = .ok (.goto 13, 3) := by decide +kernel
theorem dX12_wins_61 : decode cX12_wins 61 = .ok (.iload 4, 2) := by decide +kernel
theorem dX12_wins_63 : decode cX12_wins 63 = .ok (.ifCond .ne 7, 3) := by decide +kernel
theorem dX12_wins_66 : decode cX12_wins 66 = .ok (.iconst 1, 1) := by decide +kernel
theorem dX12_wins_67 : decode cX12_wins 67 = .ok (.goto 4, 3) := by decide +kernel
theorem dX12_wins_70 : decode cX12_wins 70 = .ok (.iconst 2, 1) := by decide +kernel
theorem dX12_wins_71 : decode cX12_wins 71 = .ok (.iload_n 1, 1) := by decide +kernel
theorem dX12_wins_72 : decode cX12_wins 72 = .ok (.if_icmp .ne 9, 3) := by decide +kernel
theorem dX12_wins_75 : decode cX12_wins 75 = .ok (.iconst 1, 1) := by decide +kernel
theorem dX12_wins_76 : decode cX12_wins 76 = .ok (.iload_n 3, 1) := by decide +kernel
theorem dX12_wins_77 : decode cX12_wins 77 = .ok (.ishl, 1) := by decide +kernel
theorem dX12_wins_78 : decode cX12_wins 78 = .ok (.goto 4, 3) := by decide +kernel
theorem dX12_wins_81 : decode cX12_wins 81 = .ok (.iconst 0, 1) := by decide +kernel
theorem dX12_wins_82 : decode cX12_wins 82 = .ok (.ior, 1) := by decide +kernel
theorem dX12_wins_83 : decode cX12_wins 83 = .ok (.istore_n 2, 1) := by decide +kernel
theorem dX12_wins_84 : decode cX12_wins 84 = .ok (.iinc 3 1, 3) := by decide +kernel
theorem dX12_wins_87 : decode cX12_wins 87 = .ok (.goto (-59), 3) := by decide +kernel
theorem dX12_wins_90 : decode cX12_wins 90 = .ok (.iload_n 2, 1) := by decide +kernel
theorem dX12_wins_91 : decode cX12_wins 91 = .ok (.ireturn, 1) := by decide +kernel
theorem kl_X12_409 : Cond.constantLong RX12 409 (2) ∈ Wd := mW 1882 (by decide +kernel) rfl
def M_wins_L28 (x1 : Int32) (Q : Int32 → Hp → Prop) : Nat → Int32 → Int32 → Hp → Prop
  | 0, _, _, _ => False
  | n + 1, x2, x3, h => ((gI h 99 1) ≤ x3 → Q x2 h) ∧ (¬ (gI h 99 1) ≤ x3 → vp_in x3 8 ∧ vp_in (gI h 115 (x3).toNatClampNeg) 1024 ∧ ∀ v5 : Int32, v5 = (gI h 112 ((gI h 115 (x3).toNatClampNeg)).toNatClampNeg) → ∀ J71 : Int32 → Hp → Prop, J71 = (fun s6 h7 => ∀ J82 : Int32 → Hp → Prop, J82 = (fun s8 h9 => ∀ v10 : Int32, v10 = (x2 ||| s8) → ∀ v11 : Int32, v11 = (x3 + 1) → M_wins_L28 x1 Q n v10 v11 h9) → (¬ s6 = x1 → J82 0 h7) ∧ (s6 = x1 → J82 ((1 : Int32) <<< (x3 &&& 31)) h7)) → (0 ≤ v5 → (¬ v5 = 0 → J71 2 h) ∧ (v5 = 0 → J71 1 h)) ∧ (¬ 0 ≤ v5 → J71 0 h))
set_option maxHeartbeats 4000000 in
set_option maxRecDepth 20000 in
theorem gl_M_wins_L28 {G : Gx}  {x1 : Int32} {Q : Int32 → Hp → Prop} : ∀ (n : Nat) (x2 : Int32) (x3 : Int32) (h : Hp), M_wins_L28 x1 Q n x2 x3 h → Go cX12_wins 5 RX12 (some .int) 16 G (QI G Q) 28 [(0, .ref (gAd G 98)), (1, .int x1), (2, .int x2), (3, .int x3)] [] h := by
  intro n
  induction n with
  | zero => intro _ _ h hw; exact False.elim hw
  | succ n ih =>
    intro x2 x3 h hw
    refine g_iload_n dX12_wins_28 rfl rfl ?_
    refine g_aload_n dX12_wins_29 rfl rfl ?_
    refine g_getA dX12_wins_30 fl_X12_13 sh98 rfl ?_
    refine g_iconst (v := 1) dX12_wins_33 (by decide) ?_
    refine g_ialdK dX12_wins_34 ia99 al99 (by unfold vp_in; decide) (k := 1) (by decide) ?_
    refine g_icmp_ge 90 dX12_wins_35 rfl (fun hc => ?_) (fun hc => ?_)
    · have hw := hw.1 hc
      refine g_iload_n dX12_wins_90 rfl rfl ?_
      exact g_iret dX12_wins_91 hw
    · have hw := hw.2 hc
      refine g_aload_n dX12_wins_38 rfl rfl ?_
      refine g_getA dX12_wins_39 fl_X12_57 sh98 rfl ?_
      refine g_aload_n dX12_wins_42 rfl rfl ?_
      refine g_getA dX12_wins_43 fl_X12_66 sh98 rfl ?_
      refine g_iload_n dX12_wins_46 rfl rfl ?_
      refine g_iald dX12_wins_47 ia115 al115 hw.1 ?_
      have hw := hw.2
      refine g_iald dX12_wins_48 ia112 al112 hw.1 ?_
      have hw := hw.2
      refine g_topi (fun v5 ev5 => ?_)
      have hw := hw v5 ev5
      refine g_istore dX12_wins_49 (by decide) (lv1 := [(0, .ref (gAd G 98)), (1, .int x1), (2, .int x2), (3, .int x3), (4, .int v5)]) rfl ?_
      refine g_iload_n dX12_wins_51 rfl rfl ?_
      refine g_iload dX12_wins_52 rfl ?_
      refine jn_el hw (fun J71 eJ71 hw => ?_)
      have hJ71 : ∀ (s6 : Int32) (h7 : Hp), J71 s6 h7 → Go cX12_wins 5 RX12 (some .int) 16 G (QI G Q) 71 [(0, .ref (gAd G 98)), (1, .int x1), (3, .int x3)] [.int s6, .int x2] h7 := by
        intro s6 h7 hw
        subst eJ71
        refine g_iload_n dX12_wins_71 rfl rfl ?_
        refine jn_el hw (fun J82 eJ82 hw => ?_)
        have hJ82 : ∀ (s8 : Int32) (h9 : Hp), J82 s8 h9 → Go cX12_wins 5 RX12 (some .int) 16 G (QI G Q) 82 [(0, .ref (gAd G 98)), (1, .int x1), (3, .int x3)] [.int s8, .int x2] h9 := by
          intro s8 h9 hw
          subst eJ82
          refine g_ior dX12_wins_82 ?_
          refine g_topi (fun v10 ev10 => ?_)
          have hw := hw v10 ev10
          refine g_istore_n dX12_wins_83 rfl (by decide) (lv1 := [(0, .ref (gAd G 98)), (1, .int x1), (2, .int v10), (3, .int x3)]) rfl ?_
          obtain ⟨v11, ev11⟩ : ∃ y : Int32, y = (x3 + 1) := ⟨_, rfl⟩
          have hw := hw v11 ev11
          refine g_iinc dX12_wins_84 rfl (by rw [ev11]; rfl) (by decide) (lv1 := [(0, .ref (gAd G 98)), (1, .int x1), (2, .int v10), (3, .int v11)]) rfl ?_
          refine g_goto 28 dX12_wins_87 rfl ?_
          exact ih _ _ _ hw
        refine g_icmp_ne 81 dX12_wins_72 rfl (fun hc => ?_) (fun hc => ?_)
        · have hw := hw.1 hc
          refine g_iconst (v := 0) dX12_wins_81 (by decide) ?_
          exact hJ82 _ _ hw
        · have hw := hw.2 hc
          refine g_iconst (v := 1) dX12_wins_75 (by decide) ?_
          refine g_iload_n dX12_wins_76 rfl rfl ?_
          refine g_ishl dX12_wins_77 ?_
          refine g_goto 82 dX12_wins_78 rfl ?_
          exact hJ82 _ _ hw
      refine g_if_ge 61 dX12_wins_54 rfl (fun hc => ?_) (fun hc => ?_)
      · have hw := hw.1 hc
        refine g_iload dX12_wins_61 rfl ?_
        refine g_if_ne 70 dX12_wins_63 rfl (fun hc => ?_) (fun hc => ?_)
        · have hw := hw.1 hc
          refine g_iconst (v := 2) dX12_wins_70 (by decide) ?_
          refine g_lv [0, 1, 3] rfl ?_
          exact hJ71 _ _ hw
        · have hw := hw.2 hc
          refine g_iconst (v := 1) dX12_wins_66 (by decide) ?_
          refine g_goto 71 dX12_wins_67 rfl ?_
          refine g_lv [0, 1, 3] rfl ?_
          exact hJ71 _ _ hw
      · have hw := hw.2 hc
        refine g_iconst (v := 0) dX12_wins_57 (by decide) ?_
        refine g_goto 71 dX12_wins_58 rfl ?_
        refine g_lv [0, 1, 3] rfl ?_
        exact hJ71 _ _ hw
def M_wins (x1 : Int32) (h : Hp) (Q : Int32 → Hp → Prop) : Prop := ∀ h1 : Hp, h1 = sI h 98 0 0 → M_within ((x1).toInt64) (0 : Int64) (2 : Int64) h1 (fun r2 h3 => (¬ r2 = 0 → M_laysGame  h3 (fun h4 => ∃ n12, M_wins_L28 x1 Q n12 0 0 h4)) ∧ (r2 = 0 → Q (-2) h3))
set_option maxHeartbeats 4000000 in
set_option maxRecDepth 20000 in
theorem c_M_wins {G : Gx}  {x1 : Int32} {h : Hp} {Q : Int32 → Hp → Prop} (hw : M_wins x1 h Q) : Ct yX12_wins cX12_wins 5 (some .int) 16 G [.ref (gAd G 98), .int x1] h (QI G Q) := by
  refine ct_go [(0, .ref (gAd G 98)), (1, .int x1)] (plainFor_of_name (by decide)) rfl (Nat.le_of_ble_eq_true rfl) rfl ?_
  refine g_aload_n dX12_wins_0 rfl rfl ?_
  refine g_iconst (v := 0) dX12_wins_1 (by decide) ?_
  refine g_putI dX12_wins_2 fl_X12_1 sh98 rfl rfl pf_12_0 ?_
  refine g_heap (fun h1 eh1 => ?_)
  have hw := hw h1 eh1
  refine g_iload_n dX12_wins_5 rfl rfl ?_
  refine g_i2l dX12_wins_6 ?_
  refine g_lconst (v := (0 : Int64)) dX12_wins_7 (by decide) ?_
  refine g_ldc2 dX12_wins_8 kl_X12_409 ?_
  refine g_callSI [.long ((x1).toInt64), .long (0 : Int64), .long (2 : Int64)] dX12_wins_11 ml_X12_169 mk_X12_within rfl (Nat.le_of_ble_eq_true rfl) (Nat.le_of_ble_eq_true rfl) rfl (c_M_within hw) (fun r2 h3 hw => ?_)
  refine g_if_ne 20 dX12_wins_14 rfl (fun hc => ?_) (fun hc => ?_)
  · have hw := hw.1 hc
    refine g_aload_n dX12_wins_20 rfl rfl ?_
    refine g_callVV [] (ci := 12) dX12_wins_21 ml_X12_310 mk_X12_laysGame rfl rfl sh98 (Nat.le_of_ble_eq_true rfl) (Nat.le_of_ble_eq_true rfl) rfl (c_M_laysGame hw) (fun h4 hw => ?_)
    refine g_iconst (v := 0) dX12_wins_24 (by decide) ?_
    refine g_istore_n dX12_wins_25 rfl (by decide) (lv1 := [(0, .ref (gAd G 98)), (1, .int x1), (2, .int 0)]) rfl ?_
    refine g_iconst (v := 0) dX12_wins_26 (by decide) ?_
    refine g_istore_n dX12_wins_27 rfl (by decide) (lv1 := [(0, .ref (gAd G 98)), (1, .int x1), (2, .int 0), (3, .int 0)]) rfl ?_
    obtain ⟨n12, hw⟩ := hw
    refine gl_M_wins_L28   _ _ _ _ hw
  · have hw := hw.2 hc
    refine g_bipush (v := (-2)) dX12_wins_17 (by decide) ?_
    exact g_iret dX12_wins_19 hw
theorem dX12_atLeast_0 : decode cX12_atLeast 0 = .ok (.aload_n 0, 1) := by decide +kernel
theorem dX12_atLeast_1 : decode cX12_atLeast 1 = .ok (.iconst 0, 1) := by decide +kernel
theorem dX12_atLeast_2 : decode cX12_atLeast 2 = .ok (.putfield 1, 3) := by decide +kernel
theorem dX12_atLeast_5 : decode cX12_atLeast 5 = .ok (.aload_n 0, 1) := by decide +kernel
theorem dX12_atLeast_6 : decode cX12_atLeast 6 = .ok (.iload_n 1, 1) := by decide +kernel
theorem dX12_atLeast_7 : decode cX12_atLeast 7 = .ok (.i2l, 1) := by decide +kernel
theorem dX12_atLeast_8 : decode cX12_atLeast 8 = .ok (.invokevirtual 256, 3) := by decide +kernel
theorem dX12_atLeast_11 : decode cX12_atLeast 11 = .ok (.ifCond .ne 6, 3) := by decide +kernel
theorem dX12_atLeast_14 : decode cX12_atLeast 14 = .ok (.bipush (-2), 2) := by decide +kernel
theorem dX12_atLeast_16 : decode cX12_atLeast 16 = .ok (.ireturn, 1) := by decide +kernel
theorem dX12_atLeast_17 : decode cX12_atLeast 17 = .ok (.iload_n 2, 1) := by decide +kernel
theorem dX12_atLeast_18 : decode cX12_atLeast 18 = .ok (.i2l, 1) := by decide +kernel
theorem dX12_atLeast_19 : decode cX12_atLeast 19 = .ok (.ldc2_w 411, 3) := by decide +kernel
theorem dX12_atLeast_22 : decode cX12_atLeast 22 = .ok (.ldc2_w 413, 3) := by decide +kernel
theorem dX12_atLeast_25 : decode cX12_atLeast 25 = .ok (.invokestatic 169, 3) := by decide +kernel
theorem dX12_atLeast_28 : decode cX12_atLeast 28 = .ok (.ifCond .eq 15, 3) := by decide +kernel
theorem dX12_atLeast_31 : decode cX12_atLeast 31 = .ok (.iload_n 3, 1) := by decide +kernel
theorem dX12_atLeast_32 : decode cX12_atLeast 32 = .ok (.i2l, 1) := by decide +kernel
theorem dX12_atLeast_33 : decode cX12_atLeast 33 = .ok (.lconst 1, 1) := by decide +kernel
theorem dX12_atLeast_34 : decode cX12_atLeast 34 = .ok (.ldc2_w 300, 3) := by decide +kernel
theorem dX12_atLeast_37 : decode cX12_atLeast 37 = .ok (.invokestatic 169, 3) := by decide +kernel
theorem dX12_atLeast_40 : decode cX12_atLeast 40 = .ok (.ifCond .ne 6, 3) := by decide +kernel
theorem dX12_atLeast_43 : decode cX12_atLeast 43 = .ok (.bipush (-3), 2) := by decide +kernel
theorem dX12_atLeast_45 : decode cX12_atLeast 45 = .ok (.ireturn, 1) := by decide +kernel
theorem dX12_atLeast_46 : decode cX12_atLeast 46 = .ok (.aload_n 0, 1) := by decide +kernel
theorem dX12_atLeast_47 : decode cX12_atLeast 47 = .ok (.invokevirtual 310, 3) := by decide +kernel
theorem dX12_atLeast_50 : decode cX12_atLeast 50 = .ok (.aload_n 0, 1) := by decide +kernel
theorem dX12_atLeast_51 : decode cX12_atLeast 51 = .ok (.getfield 57, 3) := by decide +kernel
theorem dX12_atLeast_54 : decode cX12_atLeast 54 = .ok (.aload_n 0, 1) := by decide +kernel
theorem dX12_atLeast_55 : decode cX12_atLeast 55 = .ok (.getfield 66, 3) := by decide +kernel
theorem dX12_atLeast_58 : decode cX12_atLeast 58 = .ok (.iload_n 1, 1) := by decide +kernel
theorem dX12_atLeast_59 : decode cX12_atLeast 59 = .ok (.iaload, 1) := by decide +kernel
theorem dX12_atLeast_60 : decode cX12_atLeast 60 = .ok (.iaload, 1) := by decide +kernel
theorem dX12_atLeast_61 : decode cX12_atLeast 61 = .ok (.iload_n 3, 1) := by decide +kernel
theorem dX12_atLeast_62 : decode cX12_atLeast 62 = .ok (.imul, 1) := by decide +kernel
theorem dX12_atLeast_63 : decode cX12_atLeast 63 = .ok (.iload_n 2, 1) := by decide +kernel
theorem dX12_atLeast_64 : decode cX12_atLeast 64 = .ok (.aload_n 0, 1) := by decide +kernel
theorem dX12_atLeast_65 : decode cX12_atLeast 65 = .ok (.getfield 60, 3) := by decide +kernel
theorem dX12_atLeast_68 : decode cX12_atLeast 68 = .ok (.aload_n 0, 1) := by decide +kernel
theorem dX12_atLeast_69 : decode cX12_atLeast 69 = .ok (.getfield 66, 3) := by decide +kernel
theorem dX12_atLeast_72 : decode cX12_atLeast 72 = .ok (.iload_n 1, 1) := by decide +kernel
theorem dX12_atLeast_73 : decode cX12_atLeast 73 = .ok (.iaload, 1) := by decide +kernel
theorem dX12_atLeast_74 : decode cX12_atLeast 74 = .ok (.iaload, 1) := by decide +kernel
theorem dX12_atLeast_75 : decode cX12_atLeast 75 = .ok (.imul, 1) := by decide +kernel
theorem dX12_atLeast_76 : decode cX12_atLeast 76 = .ok (.if_icmp .lt 7, 3) := by decide +kernel
theorem dX12_atLeast_79 : decode cX12_atLeast 79 = .ok (.iconst 1, 1) := by decide +kernel
theorem dX12_atLeast_80 : decode cX12_atLeast 80 = .ok (.goto 4, 3) := by decide +kernel
theorem dX12_atLeast_83 : decode cX12_atLeast 83 = .ok (.iconst 0, 1) := by decide +kernel
theorem dX12_atLeast_84 : decode cX12_atLeast 84 = .ok (.ireturn, 1) := by decide +kernel
theorem kl_X12_411 : Cond.constantLong RX12 411 (-9999) ∈ Wd := mW 1887 (by decide +kernel) rfl
theorem kl_X12_413 : Cond.constantLong RX12 413 (9999) ∈ Wd := mW 1888 (by decide +kernel) rfl
def M_atLeast (x1 : Int32) (x2 : Int32) (x3 : Int32) (h : Hp) (Q : Int32 → Hp → Prop) : Prop := ∀ h1 : Hp, h1 = sI h 98 0 0 → M_isPlace ((x1).toInt64) h1 (fun r2 h3 => (¬ r2 = 0 → M_within ((x2).toInt64) (-9999 : Int64) (9999 : Int64) h3 (fun r4 h5 => (r4 = 0 → Q (-3) h5) ∧ (¬ r4 = 0 → M_within ((x3).toInt64) (1 : Int64) (99 : Int64) h5 (fun r6 h7 => (¬ r6 = 0 → M_laysGame  h7 (fun h8 => vp_in x1 8 ∧ vp_in (gI h8 115 (x1).toNatClampNeg) 1024 ∧ vp_in x1 8 ∧ vp_in (gI h8 115 (x1).toNatClampNeg) 1024 ∧ (((gI h8 112 ((gI h8 115 (x1).toNatClampNeg)).toNatClampNeg) * x3) < (x2 * (gI h8 113 ((gI h8 115 (x1).toNatClampNeg)).toNatClampNeg)) → Q 0 h8) ∧ (¬ ((gI h8 112 ((gI h8 115 (x1).toNatClampNeg)).toNatClampNeg) * x3) < (x2 * (gI h8 113 ((gI h8 115 (x1).toNatClampNeg)).toNatClampNeg)) → Q 1 h8))) ∧ (r6 = 0 → Q (-3) h7))))) ∧ (r2 = 0 → Q (-2) h3))
set_option maxHeartbeats 4000000 in
set_option maxRecDepth 20000 in
theorem c_M_atLeast {G : Gx}  {x1 : Int32} {x2 : Int32} {x3 : Int32} {h : Hp} {Q : Int32 → Hp → Prop} (hw : M_atLeast x1 x2 x3 h Q) : Ct yX12_atLeast cX12_atLeast 4 (some .int) 16 G [.ref (gAd G 98), .int x1, .int x2, .int x3] h (QI G Q) := by
  refine ct_go [(0, .ref (gAd G 98)), (1, .int x1), (2, .int x2), (3, .int x3)] (plainFor_of_name (by decide)) rfl (Nat.le_of_ble_eq_true rfl) rfl ?_
  refine g_aload_n dX12_atLeast_0 rfl rfl ?_
  refine g_iconst (v := 0) dX12_atLeast_1 (by decide) ?_
  refine g_putI dX12_atLeast_2 fl_X12_1 sh98 rfl rfl pf_12_0 ?_
  refine g_heap (fun h1 eh1 => ?_)
  have hw := hw h1 eh1
  refine g_aload_n dX12_atLeast_5 rfl rfl ?_
  refine g_iload_n dX12_atLeast_6 rfl rfl ?_
  refine g_i2l dX12_atLeast_7 ?_
  refine g_callVI [.long ((x1).toInt64)] (ci := 12) dX12_atLeast_8 ml_X12_256 mk_X12_isPlace rfl rfl sh98 (Nat.le_of_ble_eq_true rfl) (Nat.le_of_ble_eq_true rfl) rfl (c_M_isPlace hw) (fun r2 h3 hw => ?_)
  refine g_if_ne 17 dX12_atLeast_11 rfl (fun hc => ?_) (fun hc => ?_)
  · have hw := hw.1 hc
    refine g_iload_n dX12_atLeast_17 rfl rfl ?_
    refine g_i2l dX12_atLeast_18 ?_
    refine g_ldc2 dX12_atLeast_19 kl_X12_411 ?_
    refine g_ldc2 dX12_atLeast_22 kl_X12_413 ?_
    refine g_callSI [.long ((x2).toInt64), .long (-9999 : Int64), .long (9999 : Int64)] dX12_atLeast_25 ml_X12_169 mk_X12_within rfl (Nat.le_of_ble_eq_true rfl) (Nat.le_of_ble_eq_true rfl) rfl (c_M_within hw) (fun r4 h5 hw => ?_)
    refine g_if_eq 43 dX12_atLeast_28 rfl (fun hc => ?_) (fun hc => ?_)
    · have hw := hw.1 hc
      refine g_bipush (v := (-3)) dX12_atLeast_43 (by decide) ?_
      exact g_iret dX12_atLeast_45 hw
    · have hw := hw.2 hc
      refine g_iload_n dX12_atLeast_31 rfl rfl ?_
      refine g_i2l dX12_atLeast_32 ?_
      refine g_lconst (v := (1 : Int64)) dX12_atLeast_33 (by decide) ?_
      refine g_ldc2 dX12_atLeast_34 kl_X12_300 ?_
      refine g_callSI [.long ((x3).toInt64), .long (1 : Int64), .long (99 : Int64)] dX12_atLeast_37 ml_X12_169 mk_X12_within rfl (Nat.le_of_ble_eq_true rfl) (Nat.le_of_ble_eq_true rfl) rfl (c_M_within hw) (fun r6 h7 hw => ?_)
      refine g_if_ne 46 dX12_atLeast_40 rfl (fun hc => ?_) (fun hc => ?_)
      · have hw := hw.1 hc
        refine g_aload_n dX12_atLeast_46 rfl rfl ?_
        refine g_callVV [] (ci := 12) dX12_atLeast_47 ml_X12_310 mk_X12_laysGame rfl rfl sh98 (Nat.le_of_ble_eq_true rfl) (Nat.le_of_ble_eq_true rfl) rfl (c_M_laysGame hw) (fun h8 hw => ?_)
        refine g_aload_n dX12_atLeast_50 rfl rfl ?_
        refine g_getA dX12_atLeast_51 fl_X12_57 sh98 rfl ?_
        refine g_aload_n dX12_atLeast_54 rfl rfl ?_
        refine g_getA dX12_atLeast_55 fl_X12_66 sh98 rfl ?_
        refine g_iload_n dX12_atLeast_58 rfl rfl ?_
        refine g_iald dX12_atLeast_59 ia115 al115 hw.1 ?_
        have hw := hw.2
        refine g_iald dX12_atLeast_60 ia112 al112 hw.1 ?_
        have hw := hw.2
        refine g_iload_n dX12_atLeast_61 rfl rfl ?_
        refine g_imul dX12_atLeast_62 ?_
        refine g_iload_n dX12_atLeast_63 rfl rfl ?_
        refine g_aload_n dX12_atLeast_64 rfl rfl ?_
        refine g_getA dX12_atLeast_65 fl_X12_60 sh98 rfl ?_
        refine g_aload_n dX12_atLeast_68 rfl rfl ?_
        refine g_getA dX12_atLeast_69 fl_X12_66 sh98 rfl ?_
        refine g_iload_n dX12_atLeast_72 rfl rfl ?_
        refine g_iald dX12_atLeast_73 ia115 al115 hw.1 ?_
        have hw := hw.2
        refine g_iald dX12_atLeast_74 ia113 al113 hw.1 ?_
        have hw := hw.2
        refine g_imul dX12_atLeast_75 ?_
        refine g_icmp_lt 83 dX12_atLeast_76 rfl (fun hc => ?_) (fun hc => ?_)
        · have hw := hw.1 hc
          refine g_iconst (v := 0) dX12_atLeast_83 (by decide) ?_
          exact g_iret dX12_atLeast_84 hw
        · have hw := hw.2 hc
          refine g_iconst (v := 1) dX12_atLeast_79 (by decide) ?_
          refine g_goto 84 dX12_atLeast_80 rfl ?_
          exact g_iret dX12_atLeast_84 hw
      · have hw := hw.2 hc
        refine g_bipush (v := (-3)) dX12_atLeast_43 (by decide) ?_
        exact g_iret dX12_atLeast_45 hw
  · have hw := hw.2 hc
    refine g_bipush (v := (-2)) dX12_atLeast_14 (by decide) ?_
    exact g_iret dX12_atLeast_16 hw
theorem dX12_best_0 : decode cX12_best 0 = .ok (.aload_n 0, 1) := by decide +kernel
theorem dX12_best_1 : decode cX12_best 1 = .ok (.iconst 0, 1) := by decide +kernel
theorem dX12_best_2 : decode cX12_best 2 = .ok (.putfield 1, 3) := by decide +kernel
theorem dX12_best_5 : decode cX12_best 5 = .ok (.aload_n 0, 1) := by decide +kernel
theorem dX12_best_6 : decode cX12_best 6 = .ok (.iload_n 1, 1) := by decide +kernel
theorem dX12_best_7 : decode cX12_best 7 = .ok (.i2l, 1) := by decide +kernel
theorem dX12_best_8 : decode cX12_best 8 = .ok (.invokevirtual 256, 3) := by decide +kernel
theorem dX12_best_11 : decode cX12_best 11 = .ok (.ifCond .ne 6, 3) := by decide +kernel
theorem dX12_best_14 : decode cX12_best 14 = .ok (.bipush (-2), 2) := by decide +kernel
theorem dX12_best_16 : decode cX12_best 16 = .ok (.ireturn, 1) := by decide +kernel
theorem dX12_best_17 : decode cX12_best 17 = .ok (.aload_n 0, 1) := by decide +kernel
theorem dX12_best_18 : decode cX12_best 18 = .ok (.invokevirtual 310, 3) := by decide +kernel
theorem dX12_best_21 : decode cX12_best 21 = .ok (.aload_n 0, 1) := by decide +kernel
theorem dX12_best_22 : decode cX12_best 22 = .ok (.getfield 63, 3) := by decide +kernel
theorem dX12_best_25 : decode cX12_best 25 = .ok (.aload_n 0, 1) := by decide +kernel
theorem dX12_best_26 : decode cX12_best 26 = .ok (.iload_n 1, 1) := by decide +kernel
theorem dX12_best_27 : decode cX12_best 27 = .ok (.invokevirtual 263, 3) := by decide +kernel
theorem dX12_best_30 : decode cX12_best 30 = .ok (.ifCond .eq 7, 3) := by decide +kernel
theorem dX12_best_33 : decode cX12_best 33 = .ok (.iconst 1, 1) := by decide +kernel
theorem dX12_best_34 : decode cX12_best 34 = .ok (.goto 4, 3) := by decide +kernel
theorem dX12_best_37 : decode cX12_best 37 = .ok (.iconst 0, 1) := by decide +kernel
theorem dX12_best_38 : decode cX12_best 38 = .ok (.iaload, 1) := by decide +kernel
theorem dX12_best_39 : decode cX12_best 39 = .ok (.aload_n 0, 1) := by decide +kernel
theorem dX12_best_40 : decode cX12_best 40 = .ok (.getfield 45, 3) := by decide +kernel
theorem dX12_best_43 : decode cX12_best 43 = .ok (.iload_n 1, 1) := by decide +kernel
theorem dX12_best_44 : decode cX12_best 44 = .ok (.iaload, 1) := by decide +kernel
theorem dX12_best_45 : decode cX12_best 45 = .ok (.iand, 1) := by decide +kernel
theorem dX12_best_46 : decode cX12_best 46 = .ok (.invokestatic 253, 3) := by decide +kernel
theorem dX12_best_49 : decode cX12_best 49 = .ok (.invokestatic 272, 3) := by decide +kernel
theorem dX12_best_52 : decode cX12_best 52 = .ok (.ireturn, 1) := by decide +kernel
def M_best (x1 : Int32) (h : Hp) (Q : Int32 → Hp → Prop) : Prop := ∀ h1 : Hp, h1 = sI h 98 0 0 → M_isPlace ((x1).toInt64) h1 (fun r2 h3 => (¬ r2 = 0 → M_laysGame  h3 (fun h4 => M_isMine x1 h4 (fun r5 h6 => ∀ J38 : Int32 → Hp → Prop, J38 = (fun s7 h8 => vp_in s7 2 ∧ vp_in x1 8 ∧ M_firstIn ((gI h8 114 (s7).toNatClampNeg) &&& (gI h8 108 (x1).toNatClampNeg)) h8 (fun r9 h10 => M_toldWay r9 h10 (fun r11 h12 => Q r11 h12))) → (r5 = 0 → J38 0 h6) ∧ (¬ r5 = 0 → J38 1 h6)))) ∧ (r2 = 0 → Q (-2) h3))
set_option maxHeartbeats 4000000 in
set_option maxRecDepth 20000 in
theorem c_M_best {G : Gx}  {x1 : Int32} {h : Hp} {Q : Int32 → Hp → Prop} (hw : M_best x1 h Q) : Ct yX12_best cX12_best 2 (some .int) 16 G [.ref (gAd G 98), .int x1] h (QI G Q) := by
  refine ct_go [(0, .ref (gAd G 98)), (1, .int x1)] (plainFor_of_name (by decide)) rfl (Nat.le_of_ble_eq_true rfl) rfl ?_
  refine g_aload_n dX12_best_0 rfl rfl ?_
  refine g_iconst (v := 0) dX12_best_1 (by decide) ?_
  refine g_putI dX12_best_2 fl_X12_1 sh98 rfl rfl pf_12_0 ?_
  refine g_heap (fun h1 eh1 => ?_)
  have hw := hw h1 eh1
  refine g_aload_n dX12_best_5 rfl rfl ?_
  refine g_iload_n dX12_best_6 rfl rfl ?_
  refine g_i2l dX12_best_7 ?_
  refine g_callVI [.long ((x1).toInt64)] (ci := 12) dX12_best_8 ml_X12_256 mk_X12_isPlace rfl rfl sh98 (Nat.le_of_ble_eq_true rfl) (Nat.le_of_ble_eq_true rfl) rfl (c_M_isPlace hw) (fun r2 h3 hw => ?_)
  refine g_if_ne 17 dX12_best_11 rfl (fun hc => ?_) (fun hc => ?_)
  · have hw := hw.1 hc
    refine g_aload_n dX12_best_17 rfl rfl ?_
    refine g_callVV [] (ci := 12) dX12_best_18 ml_X12_310 mk_X12_laysGame rfl rfl sh98 (Nat.le_of_ble_eq_true rfl) (Nat.le_of_ble_eq_true rfl) rfl (c_M_laysGame hw) (fun h4 hw => ?_)
    refine g_aload_n dX12_best_21 rfl rfl ?_
    refine g_getA dX12_best_22 fl_X12_63 sh98 rfl ?_
    refine g_aload_n dX12_best_25 rfl rfl ?_
    refine g_iload_n dX12_best_26 rfl rfl ?_
    refine g_callVI [.int x1] (ci := 12) dX12_best_27 ml_X12_263 mk_X12_isMine rfl rfl sh98 (Nat.le_of_ble_eq_true rfl) (Nat.le_of_ble_eq_true rfl) rfl (c_M_isMine hw) (fun r5 h6 hw => ?_)
    refine jn_el hw (fun J38 eJ38 hw => ?_)
    have hJ38 : ∀ (s7 : Int32) (h8 : Hp), J38 s7 h8 → Go cX12_best 2 RX12 (some .int) 16 G (QI G Q) 38 [(0, .ref (gAd G 98)), (1, .int x1)] [.int s7, .ref (gAd G 114)] h8 := by
      intro s7 h8 hw
      subst eJ38
      refine g_iald dX12_best_38 ia114 al114 hw.1 ?_
      have hw := hw.2
      refine g_aload_n dX12_best_39 rfl rfl ?_
      refine g_getA dX12_best_40 fl_X12_45 sh98 rfl ?_
      refine g_iload_n dX12_best_43 rfl rfl ?_
      refine g_iald dX12_best_44 ia108 al108 hw.1 ?_
      have hw := hw.2
      refine g_iand dX12_best_45 ?_
      refine g_callSI [.int ((gI h8 114 (s7).toNatClampNeg) &&& (gI h8 108 (x1).toNatClampNeg))] dX12_best_46 ml_X12_253 mk_X12_firstIn rfl (Nat.le_of_ble_eq_true rfl) (Nat.le_of_ble_eq_true rfl) rfl (c_M_firstIn hw) (fun r9 h10 hw => ?_)
      refine g_callSI [.int r9] dX12_best_49 ml_X12_272 mk_X12_toldWay rfl (Nat.le_of_ble_eq_true rfl) (Nat.le_of_ble_eq_true rfl) rfl (c_M_toldWay hw) (fun r11 h12 hw => ?_)
      exact g_iret dX12_best_52 hw
    refine g_if_eq 37 dX12_best_30 rfl (fun hc => ?_) (fun hc => ?_)
    · have hw := hw.1 hc
      refine g_iconst (v := 0) dX12_best_37 (by decide) ?_
      exact hJ38 _ _ hw
    · have hw := hw.2 hc
      refine g_iconst (v := 1) dX12_best_33 (by decide) ?_
      refine g_goto 38 dX12_best_34 rfl ?_
      exact hJ38 _ _ hw
  · have hw := hw.2 hc
    refine g_bipush (v := (-2)) dX12_best_14 (by decide) ?_
    exact g_iret dX12_best_16 hw
theorem dX12_laysSet_0 : decode cX12_laysSet 0 = .ok (.iconst 0, 1) := by decide +kernel
theorem dX12_laysSet_1 : decode cX12_laysSet 1 = .ok (.istore_n 2, 1) := by decide +kernel
theorem dX12_laysSet_2 : decode cX12_laysSet 2 = .ok (.iconst 0, 1) := by decide +kernel
theorem dX12_laysSet_3 : decode cX12_laysSet 3 = .ok (.istore_n 3, 1) := by decide +kernel
theorem dX12_laysSet_4 : decode cX12_laysSet 4 = .ok (.iload_n 3, 1) := by decide +kernel
theorem dX12_laysSet_5 : decode cX12_laysSet 5 = .ok (.aload_n 0, 1) := by decide +kernel
theorem dX12_laysSet_6 : decode cX12_laysSet 6 = .ok (.getfield 13, 3) := by decide +kernel
theorem dX12_laysSet_9 : decode cX12_laysSet 9 = .ok (.iconst 1, 1) := by decide +kernel
theorem dX12_laysSet_10 : decode cX12_laysSet 10 = .ok (.iaload, 1) := by decide +kernel
theorem dX12_laysSet_11 : decode cX12_laysSet 11 = .ok (.if_icmp .ge 46, 3) := by decide +kernel
theorem dX12_laysSet_14 : decode cX12_laysSet 14 = .ok (.iload_n 2, 1) := by decide +kernel
theorem dX12_laysSet_15 : decode cX12_laysSet 15 = .ok (.aload_n 0, 1) := by decide +kernel
theorem dX12_laysSet_16 : decode cX12_laysSet 16 = .ok (.iload_n 3, 1) := by decide +kernel
theorem dX12_laysSet_17 : decode cX12_laysSet 17 = .ok (.invokevirtual 263, 3) := by decide +kernel
theorem dX12_laysSet_20 : decode cX12_laysSet 20 = .ok (.iload_n 1, 1) := by decide +kernel
theorem dX12_laysSet_21 : decode cX12_laysSet 21 = .ok (.iconst 1, 1) := by decide +kernel
theorem dX12_laysSet_22 : decode cX12_laysSet 22 = .ok (.if_icmp .ne 7, 3) := by decide +kernel
theorem dX12_laysSet_25 : decode cX12_laysSet 25 = .ok (.iconst 1, 1) := by decide +kernel
theorem dX12_laysSet_26 : decode cX12_laysSet 26 = .ok (.goto 4, 3) := by decide +kernel
theorem dX12_laysSet_29 : decode cX12_laysSet 29 = .ok (.iconst 0, 1) := by decide +kernel
theorem dX12_laysSet_30 : decode cX12_laysSet 30 = .ok (.if_icmp .ne 13, 3) := by decide +kernel
theorem dX12_laysSet_33 : decode cX12_laysSet 33 = .ok (.iconst 1, 1) := by decide +kernel
theorem dX12_laysSet_34 : decode cX12_laysSet 34 = .ok (.aload_n 0, 1) := by decide +kernel
theorem dX12_laysSet_35 : decode cX12_laysSet 35 = .ok (.iload_n 3, 1) := by decide +kernel
theorem dX12_laysSet_36 : decode cX12_laysSet 36 = .ok (.invokevirtual 269, 3) := by decide +kernel
theorem dX12_laysSet_39 : decode cX12_laysSet 39 = .ok (.ishl, 1) := by decide +kernel
theorem dX12_laysSet_40 : decode cX12_laysSet 40 = .ok (.goto 9, 3) := by decide +kernel
theorem dX12_laysSet_43 : decode cX12_laysSet 43 = .ok (.aload_n 0, 1) := by decide +kernel
theorem dX12_laysSet_44 : decode cX12_laysSet 44 = .ok (.getfield 45, 3) := by decide +kernel
theorem dX12_laysSet_47 : decode cX12_laysSet 47 = .ok (.iload_n 3, 1) := by decide +kernel
theorem dX12_laysSet_48 : decode cX12_laysSet 48 = .ok (.iaload, 1) := by decide +kernel
theorem dX12_laysSet_49 : decode cX12_laysSet 49 = .ok (.ior, 1) := by decide +kernel
theorem dX12_laysSet_50 : decode cX12_laysSet 50 = .ok (.istore_n 2, 1) := by decide +kernel
theorem dX12_laysSet_51 : decode cX12_laysSet 51 = .ok (.iinc 3 1, 3) := by decide +kernel
theorem dX12_laysSet_54 : decode cX12_laysSet 54 = .ok (.goto (-50), 3) := by decide +kernel
theorem dX12_laysSet_57 : decode cX12_laysSet 57 = .ok (.aload_n 0, 1) := by decide +kernel
theorem dX12_laysSet_58 : decode cX12_laysSet 58 = .ok (.iload_n 1, 1) := by decide +kernel
theorem dX12_laysSet_59 : decode cX12_laysSet 59 = .ok (.iload_n 2, 1) := by decide +kernel
theorem dX12_laysSet_60 : decode cX12_laysSet 60 = .ok (.invokevirtual 400, 3) := by decide +kernel
theorem dX12_laysSet_63 : decode cX12_laysSet 63 = .ok (.return_, 1) := by decide +kernel
def M_laysSet_L4 (x1 : Int32) (Q : Hp → Prop) : Nat → Int32 → Int32 → Hp → Prop
  | 0, _, _, _ => False
  | n + 1, x2, x3, h => ((gI h 99 1) ≤ x3 → M_laysSecured x1 x2 h (fun h1 => Q h1)) ∧ (¬ (gI h 99 1) ≤ x3 → M_isMine x3 h (fun r2 h3 => ∀ J30 : Int32 → Hp → Prop, J30 = (fun s4 h5 => ∀ J49 : Int32 → Hp → Prop, J49 = (fun s6 h7 => ∀ v8 : Int32, v8 = (x2 ||| s6) → ∀ v9 : Int32, v9 = (x3 + 1) → M_laysSet_L4 x1 Q n v8 v9 h7) → (¬ r2 = s4 → vp_in x3 8 ∧ J49 (gI h5 108 (x3).toNatClampNeg) h5) ∧ (r2 = s4 → M_planned x3 h5 (fun r10 h11 => J49 ((1 : Int32) <<< (r10 &&& 31)) h11))) → (¬ x1 = 1 → J30 0 h3) ∧ (x1 = 1 → J30 1 h3)))
set_option maxHeartbeats 4000000 in
set_option maxRecDepth 20000 in
theorem gl_M_laysSet_L4 {G : Gx}  {x1 : Int32} {Q : Hp → Prop} : ∀ (n : Nat) (x2 : Int32) (x3 : Int32) (h : Hp), M_laysSet_L4 x1 Q n x2 x3 h → Go cX12_laysSet 4 RX12 none 4 G (QV G Q) 4 [(0, .ref (gAd G 98)), (1, .int x1), (2, .int x2), (3, .int x3)] [] h := by
  intro n
  induction n with
  | zero => intro _ _ h hw; exact False.elim hw
  | succ n ih =>
    intro x2 x3 h hw
    refine g_iload_n dX12_laysSet_4 rfl rfl ?_
    refine g_aload_n dX12_laysSet_5 rfl rfl ?_
    refine g_getA dX12_laysSet_6 fl_X12_13 sh98 rfl ?_
    refine g_iconst (v := 1) dX12_laysSet_9 (by decide) ?_
    refine g_ialdK dX12_laysSet_10 ia99 al99 (by unfold vp_in; decide) (k := 1) (by decide) ?_
    refine g_icmp_ge 57 dX12_laysSet_11 rfl (fun hc => ?_) (fun hc => ?_)
    · have hw := hw.1 hc
      refine g_aload_n dX12_laysSet_57 rfl rfl ?_
      refine g_iload_n dX12_laysSet_58 rfl rfl ?_
      refine g_iload_n dX12_laysSet_59 rfl rfl ?_
      refine g_callVV [.int x1, .int x2] (ci := 12) dX12_laysSet_60 ml_X12_400 mk_X12_laysSecured rfl rfl sh98 (Nat.le_of_ble_eq_true rfl) (Nat.le_of_ble_eq_true rfl) rfl (c_M_laysSecured hw) (fun h1 hw => ?_)
      exact g_vret dX12_laysSet_63 hw
    · have hw := hw.2 hc
      refine g_iload_n dX12_laysSet_14 rfl rfl ?_
      refine g_aload_n dX12_laysSet_15 rfl rfl ?_
      refine g_iload_n dX12_laysSet_16 rfl rfl ?_
      refine g_callVI [.int x3] (ci := 12) dX12_laysSet_17 ml_X12_263 mk_X12_isMine rfl rfl sh98 (Nat.le_of_ble_eq_true rfl) (Nat.le_of_ble_eq_true rfl) rfl (c_M_isMine hw) (fun r2 h3 hw => ?_)
      refine g_iload_n dX12_laysSet_20 rfl rfl ?_
      refine g_iconst (v := 1) dX12_laysSet_21 (by decide) ?_
      refine jn_el hw (fun J30 eJ30 hw => ?_)
      have hJ30 : ∀ (s4 : Int32) (h5 : Hp), J30 s4 h5 → Go cX12_laysSet 4 RX12 none 4 G (QV G Q) 30 [(0, .ref (gAd G 98)), (1, .int x1), (3, .int x3)] [.int s4, .int r2, .int x2] h5 := by
        intro s4 h5 hw
        subst eJ30
        refine jn_el hw (fun J49 eJ49 hw => ?_)
        have hJ49 : ∀ (s6 : Int32) (h7 : Hp), J49 s6 h7 → Go cX12_laysSet 4 RX12 none 4 G (QV G Q) 49 [(0, .ref (gAd G 98)), (1, .int x1), (3, .int x3)] [.int s6, .int x2] h7 := by
          intro s6 h7 hw
          subst eJ49
          refine g_ior dX12_laysSet_49 ?_
          refine g_topi (fun v8 ev8 => ?_)
          have hw := hw v8 ev8
          refine g_istore_n dX12_laysSet_50 rfl (by decide) (lv1 := [(0, .ref (gAd G 98)), (1, .int x1), (2, .int v8), (3, .int x3)]) rfl ?_
          obtain ⟨v9, ev9⟩ : ∃ y : Int32, y = (x3 + 1) := ⟨_, rfl⟩
          have hw := hw v9 ev9
          refine g_iinc dX12_laysSet_51 rfl (by rw [ev9]; rfl) (by decide) (lv1 := [(0, .ref (gAd G 98)), (1, .int x1), (2, .int v8), (3, .int v9)]) rfl ?_
          refine g_goto 4 dX12_laysSet_54 rfl ?_
          exact ih _ _ _ hw
        refine g_icmp_ne 43 dX12_laysSet_30 rfl (fun hc => ?_) (fun hc => ?_)
        · have hw := hw.1 hc
          refine g_aload_n dX12_laysSet_43 rfl rfl ?_
          refine g_getA dX12_laysSet_44 fl_X12_45 sh98 rfl ?_
          refine g_iload_n dX12_laysSet_47 rfl rfl ?_
          refine g_iald dX12_laysSet_48 ia108 al108 hw.1 ?_
          have hw := hw.2
          exact hJ49 _ _ hw
        · have hw := hw.2 hc
          refine g_iconst (v := 1) dX12_laysSet_33 (by decide) ?_
          refine g_aload_n dX12_laysSet_34 rfl rfl ?_
          refine g_iload_n dX12_laysSet_35 rfl rfl ?_
          refine g_callVI [.int x3] (ci := 12) dX12_laysSet_36 ml_X12_269 mk_X12_planned rfl rfl sh98 (Nat.le_of_ble_eq_true rfl) (Nat.le_of_ble_eq_true rfl) rfl (c_M_planned hw) (fun r10 h11 hw => ?_)
          refine g_ishl dX12_laysSet_39 ?_
          refine g_goto 49 dX12_laysSet_40 rfl ?_
          exact hJ49 _ _ hw
      refine g_icmp_ne 29 dX12_laysSet_22 rfl (fun hc => ?_) (fun hc => ?_)
      · have hw := hw.1 hc
        refine g_iconst (v := 0) dX12_laysSet_29 (by decide) ?_
        refine g_lv [0, 1, 3] rfl ?_
        exact hJ30 _ _ hw
      · have hw := hw.2 hc
        refine g_iconst (v := 1) dX12_laysSet_25 (by decide) ?_
        refine g_goto 30 dX12_laysSet_26 rfl ?_
        refine g_lv [0, 1, 3] rfl ?_
        exact hJ30 _ _ hw
def M_laysSet (x1 : Int32) (h : Hp) (Q : Hp → Prop) : Prop := ∃ n12, M_laysSet_L4 x1 Q n12 0 0 h
set_option maxHeartbeats 4000000 in
set_option maxRecDepth 20000 in
theorem c_M_laysSet {G : Gx}  {x1 : Int32} {h : Hp} {Q : Hp → Prop} (hw : M_laysSet x1 h Q) : Ct yX12_laysSet cX12_laysSet 4 none 4 G [.ref (gAd G 98), .int x1] h (QV G Q) := by
  refine ct_go [(0, .ref (gAd G 98)), (1, .int x1)] (plainFor_of_name (by decide)) rfl (Nat.le_of_ble_eq_true rfl) rfl ?_
  refine g_iconst (v := 0) dX12_laysSet_0 (by decide) ?_
  refine g_istore_n dX12_laysSet_1 rfl (by decide) (lv1 := [(0, .ref (gAd G 98)), (1, .int x1), (2, .int 0)]) rfl ?_
  refine g_iconst (v := 0) dX12_laysSet_2 (by decide) ?_
  refine g_istore_n dX12_laysSet_3 rfl (by decide) (lv1 := [(0, .ref (gAd G 98)), (1, .int x1), (2, .int 0), (3, .int 0)]) rfl ?_
  obtain ⟨n12, hw⟩ := hw
  refine gl_M_laysSet_L4   _ _ _ _ hw
theorem dX12_secures_0 : decode cX12_secures 0 = .ok (.aload_n 0, 1) := by decide +kernel
theorem dX12_secures_1 : decode cX12_secures 1 = .ok (.iconst 0, 1) := by decide +kernel
theorem dX12_secures_2 : decode cX12_secures 2 = .ok (.putfield 1, 3) := by decide +kernel
theorem dX12_secures_5 : decode cX12_secures 5 = .ok (.iload_n 1, 1) := by decide +kernel
theorem dX12_secures_6 : decode cX12_secures 6 = .ok (.i2l, 1) := by decide +kernel
theorem dX12_secures_7 : decode cX12_secures 7 = .ok (.lconst 0, 1) := by decide +kernel
theorem dX12_secures_8 : decode cX12_secures 8 = .ok (.lconst 1, 1) := by decide +kernel
theorem dX12_secures_9 : decode cX12_secures 9 = .ok (.invokestatic 169, 3) := by decide +kernel
theorem dX12_secures_12 : decode cX12_secures 12 = .ok (.ifCond .eq 22, 3) := by decide +kernel
theorem dX12_secures_15 : decode cX12_secures 15 = .ok (.aload_n 0, 1) := by decide +kernel
theorem dX12_secures_16 : decode cX12_secures 16 = .ok (.iload_n 2, 1) := by decide +kernel
theorem dX12_secures_17 : decode cX12_secures 17 = .ok (.i2l, 1) := by decide +kernel
theorem dX12_secures_18 : decode cX12_secures 18 = .ok (.invokevirtual 256, 3) := by decide +kernel
theorem dX12_secures_21 : decode cX12_secures 21 = .ok (.ifCond .eq 13, 3) := by decide +kernel
theorem dX12_secures_24 : decode cX12_secures 24 = .ok (.iload_n 3, 1) := by decide +kernel
theorem dX12_secures_25 : decode cX12_secures 25 = .ok (.i2l, 1) := by decide +kernel
theorem dX12_secures_26 : decode cX12_secures 26 = .ok (.lconst 0, 1) := by decide +kernel
theorem dX12_secures_27 : decode cX12_secures 27 = .ok (.lconst 1, 1) := by decide +kernel
theorem dX12_secures_28 : decode cX12_secures 28 = .ok (.invokestatic 169, 3) := by decide +kernel
theorem dX12_secures_31 : decode cX12_secures 31 = .ok (.ifCond .ne 7, 3) := by decide +kernel
theorem dX12_secures_34 : decode cX12_secures 34 = .ok (.ldc2_w 278, 3) := by decide +kernel
theorem dX12_secures_37 : decode cX12_secures 37 = .ok (.lreturn, 1) := by decide +kernel
theorem dX12_secures_38 : decode cX12_secures 38 = .ok (.aload_n 0, 1) := by decide +kernel
theorem dX12_secures_39 : decode cX12_secures 39 = .ok (.invokevirtual 379, 3) := by decide +kernel
theorem dX12_secures_42 : decode cX12_secures 42 = .ok (.aload_n 0, 1) := by decide +kernel
theorem dX12_secures_43 : decode cX12_secures 43 = .ok (.iload_n 1, 1) := by decide +kernel
theorem dX12_secures_44 : decode cX12_secures 44 = .ok (.invokevirtual 415, 3) := by decide +kernel
theorem dX12_secures_47 : decode cX12_secures 47 = .ok (.aload_n 0, 1) := by decide +kernel
theorem dX12_secures_48 : decode cX12_secures 48 = .ok (.aload_n 0, 1) := by decide +kernel
theorem dX12_secures_49 : decode cX12_secures 49 = .ok (.getfield 72, 3) := by decide +kernel
theorem dX12_secures_52 : decode cX12_secures 52 = .ok (.iload_n 2, 1) := by decide +kernel
theorem dX12_secures_53 : decode cX12_secures 53 = .ok (.iaload, 1) := by decide +kernel
theorem dX12_secures_54 : decode cX12_secures 54 = .ok (.iload_n 3, 1) := by decide +kernel
theorem dX12_secures_55 : decode cX12_secures 55 = .ok (.invokevirtual 392, 3) := by decide +kernel
theorem dX12_secures_58 : decode cX12_secures 58 = .ok (.lreturn, 1) := by decide +kernel
theorem ml_X12_415 : Cond.methodLink RX12 415 yX12_laysSet ∈ Wd := mW 1897 (by decide +kernel) rfl
theorem mk_X12_laysSet : MokV yX12_laysSet cX12_laysSet 4 none 1 := ⟨⟨mW 14 (by decide +kernel) rfl, mW 1900 (by decide +kernel) rfl, ⟨by decide, by decide, by decide +kernel⟩, by decide⟩, mW 1899 (by decide +kernel) rfl, mS (q := (yX12_laysSet, 46)) 104 (by decide +kernel)⟩
def M_secures (x1 : Int32) (x2 : Int32) (x3 : Int32) (h : Hp) (Q : Int64 → Hp → Prop) : Prop := ∀ h1 : Hp, h1 = sI h 98 0 0 → M_within ((x1).toInt64) (0 : Int64) (1 : Int64) h1 (fun r2 h3 => (r2 = 0 → Q (-9000000000000000002 : Int64) h3) ∧ (¬ r2 = 0 → M_isPlace ((x2).toInt64) h3 (fun r4 h5 => (r4 = 0 → Q (-9000000000000000002 : Int64) h5) ∧ (¬ r4 = 0 → M_within ((x3).toInt64) (0 : Int64) (1 : Int64) h5 (fun r6 h7 => (¬ r6 = 0 → M_laysRings  h7 (fun h8 => M_laysSet x1 h8 (fun h9 => vp_in x2 8 ∧ M_meanOf (gI h9 117 (x2).toNatClampNeg) x3 h9 (fun r10 h11 => Q r10 h11)))) ∧ (r6 = 0 → Q (-9000000000000000002 : Int64) h7))))))
set_option maxHeartbeats 4000000 in
set_option maxRecDepth 20000 in
theorem c_M_secures {G : Gx}  {x1 : Int32} {x2 : Int32} {x3 : Int32} {h : Hp} {Q : Int64 → Hp → Prop} (hw : M_secures x1 x2 x3 h Q) : Ct yX12_secures cX12_secures 4 (some .long) 104 G [.ref (gAd G 98), .int x1, .int x2, .int x3] h (QJ G Q) := by
  refine ct_go [(0, .ref (gAd G 98)), (1, .int x1), (2, .int x2), (3, .int x3)] (plainFor_of_name (by decide)) rfl (Nat.le_of_ble_eq_true rfl) rfl ?_
  refine g_aload_n dX12_secures_0 rfl rfl ?_
  refine g_iconst (v := 0) dX12_secures_1 (by decide) ?_
  refine g_putI dX12_secures_2 fl_X12_1 sh98 rfl rfl pf_12_0 ?_
  refine g_heap (fun h1 eh1 => ?_)
  have hw := hw h1 eh1
  refine g_iload_n dX12_secures_5 rfl rfl ?_
  refine g_i2l dX12_secures_6 ?_
  refine g_lconst (v := (0 : Int64)) dX12_secures_7 (by decide) ?_
  refine g_lconst (v := (1 : Int64)) dX12_secures_8 (by decide) ?_
  refine g_callSI [.long ((x1).toInt64), .long (0 : Int64), .long (1 : Int64)] dX12_secures_9 ml_X12_169 mk_X12_within rfl (Nat.le_of_ble_eq_true rfl) (Nat.le_of_ble_eq_true rfl) rfl (c_M_within hw) (fun r2 h3 hw => ?_)
  refine g_if_eq 34 dX12_secures_12 rfl (fun hc => ?_) (fun hc => ?_)
  · have hw := hw.1 hc
    refine g_ldc2 dX12_secures_34 kl_X12_278 ?_
    exact g_lret dX12_secures_37 hw
  · have hw := hw.2 hc
    refine g_aload_n dX12_secures_15 rfl rfl ?_
    refine g_iload_n dX12_secures_16 rfl rfl ?_
    refine g_i2l dX12_secures_17 ?_
    refine g_callVI [.long ((x2).toInt64)] (ci := 12) dX12_secures_18 ml_X12_256 mk_X12_isPlace rfl rfl sh98 (Nat.le_of_ble_eq_true rfl) (Nat.le_of_ble_eq_true rfl) rfl (c_M_isPlace hw) (fun r4 h5 hw => ?_)
    refine g_if_eq 34 dX12_secures_21 rfl (fun hc => ?_) (fun hc => ?_)
    · have hw := hw.1 hc
      refine g_ldc2 dX12_secures_34 kl_X12_278 ?_
      exact g_lret dX12_secures_37 hw
    · have hw := hw.2 hc
      refine g_iload_n dX12_secures_24 rfl rfl ?_
      refine g_i2l dX12_secures_25 ?_
      refine g_lconst (v := (0 : Int64)) dX12_secures_26 (by decide) ?_
      refine g_lconst (v := (1 : Int64)) dX12_secures_27 (by decide) ?_
      refine g_callSI [.long ((x3).toInt64), .long (0 : Int64), .long (1 : Int64)] dX12_secures_28 ml_X12_169 mk_X12_within rfl (Nat.le_of_ble_eq_true rfl) (Nat.le_of_ble_eq_true rfl) rfl (c_M_within hw) (fun r6 h7 hw => ?_)
      refine g_if_ne 38 dX12_secures_31 rfl (fun hc => ?_) (fun hc => ?_)
      · have hw := hw.1 hc
        refine g_aload_n dX12_secures_38 rfl rfl ?_
        refine g_callVV [] (ci := 12) dX12_secures_39 ml_X12_379 mk_X12_laysRings rfl rfl sh98 (Nat.le_of_ble_eq_true rfl) (Nat.le_of_ble_eq_true rfl) rfl (c_M_laysRings hw) (fun h8 hw => ?_)
        refine g_aload_n dX12_secures_42 rfl rfl ?_
        refine g_iload_n dX12_secures_43 rfl rfl ?_
        refine g_callVV [.int x1] (ci := 12) dX12_secures_44 ml_X12_415 mk_X12_laysSet rfl rfl sh98 (Nat.le_of_ble_eq_true rfl) (Nat.le_of_ble_eq_true rfl) rfl (c_M_laysSet hw) (fun h9 hw => ?_)
        refine g_aload_n dX12_secures_47 rfl rfl ?_
        refine g_aload_n dX12_secures_48 rfl rfl ?_
        refine g_getA dX12_secures_49 fl_X12_72 sh98 rfl ?_
        refine g_iload_n dX12_secures_52 rfl rfl ?_
        refine g_iald dX12_secures_53 ia117 al117 hw.1 ?_
        have hw := hw.2
        refine g_iload_n dX12_secures_54 rfl rfl ?_
        refine g_callVJ [.int (gI h9 117 (x2).toNatClampNeg), .int x3] (ci := 12) dX12_secures_55 ml_X12_392 mk_X12_meanOf rfl rfl sh98 (Nat.le_of_ble_eq_true rfl) (Nat.le_of_ble_eq_true rfl) rfl (c_M_meanOf hw) (fun r10 h11 hw => ?_)
        exact g_lret dX12_secures_58 hw
      · have hw := hw.2 hc
        refine g_ldc2 dX12_secures_34 kl_X12_278 ?_
        exact g_lret dX12_secures_37 hw
theorem dX12_meet_0 : decode cX12_meet 0 = .ok (.aload_n 0, 1) := by decide +kernel
theorem dX12_meet_1 : decode cX12_meet 1 = .ok (.iconst 0, 1) := by decide +kernel
theorem dX12_meet_2 : decode cX12_meet 2 = .ok (.putfield 1, 3) := by decide +kernel
theorem dX12_meet_5 : decode cX12_meet 5 = .ok (.aload_n 0, 1) := by decide +kernel
theorem dX12_meet_6 : decode cX12_meet 6 = .ok (.invokevirtual 379, 3) := by decide +kernel
theorem dX12_meet_9 : decode cX12_meet 9 = .ok (.aload_n 0, 1) := by decide +kernel
theorem dX12_meet_10 : decode cX12_meet 10 = .ok (.iconst 0, 1) := by decide +kernel
theorem dX12_meet_11 : decode cX12_meet 11 = .ok (.invokevirtual 415, 3) := by decide +kernel
theorem dX12_meet_14 : decode cX12_meet 14 = .ok (.iconst 0, 1) := by decide +kernel
theorem dX12_meet_15 : decode cX12_meet 15 = .ok (.istore_n 1, 1) := by decide +kernel
theorem dX12_meet_16 : decode cX12_meet 16 = .ok (.iload_n 1, 1) := by decide +kernel
theorem dX12_meet_17 : decode cX12_meet 17 = .ok (.aload_n 0, 1) := by decide +kernel
theorem dX12_meet_18 : decode cX12_meet 18 = .ok (.getfield 13, 3) := by decide +kernel
theorem dX12_meet_21 : decode cX12_meet 21 = .ok (.iconst 1, 1) := by decide +kernel
theorem dX12_meet_22 : decode cX12_meet 22 = .ok (.iaload, 1) := by decide +kernel
theorem dX12_meet_23 : decode cX12_meet 23 = .ok (.if_icmp .ge 21, 3) := by decide +kernel
theorem dX12_meet_26 : decode cX12_meet 26 = .ok (.aload_n 0, 1) := by decide +kernel
theorem dX12_meet_27 : decode cX12_meet 27 = .ok (.getfield 66, 3) := by decide +kernel
theorem dX12_meet_30 : decode cX12_meet 30 = .ok (.iload_n 1, 1) := by decide +kernel
theorem dX12_meet_31 : decode cX12_meet 31 = .ok (.aload_n 0, 1) := by decide +kernel
theorem dX12_meet_32 : decode cX12_meet 32 = .ok (.getfield 72, 3) := by decide +kernel
theorem dX12_meet_35 : decode cX12_meet 35 = .ok (.iload_n 1, 1) := by decide +kernel
theorem dX12_meet_36 : decode cX12_meet 36 = .ok (.iaload, 1) := by decide +kernel
theorem dX12_meet_37 : decode cX12_meet 37 = .ok (.iastore, 1) := by decide +kernel
theorem dX12_meet_38 : decode cX12_meet 38 = .ok (.iinc 1 1, 3) := by decide +kernel
theorem dX12_meet_41 : decode cX12_meet 41 = .ok (.goto (-25), 3) := by decide +kernel
theorem dX12_meet_44 : decode cX12_meet 44 = .ok (.aload_n 0, 1) := by decide +kernel
theorem dX12_meet_45 : decode cX12_meet 45 = .ok (.iconst 1, 1) := by decide +kernel
theorem dX12_meet_46 : decode cX12_meet 46 = .ok (.invokevirtual 415, 3) := by decide +kernel
theorem dX12_meet_49 : decode cX12_meet 49 = .ok (.iconst 0, 1) := by decide +kernel
theorem dX12_meet_50 : decode cX12_meet 50 = .ok (.istore_n 1, 1) := by decide +kernel
theorem dX12_meet_51 : decode cX12_meet 51 = .ok (.iconst 0, 1) := by decide +kernel
theorem dX12_meet_52 : decode cX12_meet 52 = .ok (.istore_n 2, 1) := by decide +kernel
theorem dX12_meet_53 : decode cX12_meet 53 = .ok (.iload_n 2, 1) := by decide +kernel
theorem dX12_meet_54 : decode cX12_meet 54 = .ok (.aload_n 0, 1) := by decide +kernel
theorem dX12_meet_55 : decode cX12_meet 55 = .ok (.getfield 13, 3) := by decide +kernel
theorem dX12_meet_58 : decode cX12_meet 58 = .ok (.iconst 1, 1) := by decide +kernel
theorem dX12_meet_59 : decode cX12_meet 59 = .ok (.iaload, 1) := by decide +kernel
theorem dX12_meet_60 : decode cX12_meet 60 = .ok (.if_icmp .ge 57, 3) := by decide +kernel
theorem dX12_meet_63 : decode cX12_meet 63 = .ok (.iload_n 1, 1) := by decide +kernel
theorem dX12_meet_64 : decode cX12_meet 64 = .ok (.aload_n 0, 1) := by decide +kernel
theorem dX12_meet_65 : decode cX12_meet 65 = .ok (.aload_n 0, 1) := by decide +kernel
theorem dX12_meet_66 : decode cX12_meet 66 = .ok (.getfield 66, 3) := by decide +kernel
theorem dX12_meet_69 : decode cX12_meet 69 = .ok (.iload_n 2, 1) := by decide +kernel
theorem dX12_meet_70 : decode cX12_meet 70 = .ok (.iaload, 1) := by decide +kernel
theorem dX12_meet_71 : decode cX12_meet 71 = .ok (.aload_n 0, 1) := by decide +kernel
theorem dX12_meet_72 : decode cX12_meet 72 = .ok (.getfield 72, 3) := by decide +kernel
theorem dX12_meet_75 : decode cX12_meet 75 = .ok (.iload_n 2, 1) := by decide +kernel
theorem dX12_meet_76 : decode cX12_meet 76 = .ok (.iaload, 1) := by decide +kernel
theorem dX12_meet_77 : decode cX12_meet 77 = .ok (.invokevirtual 367, 3) := by decide +kernel
theorem dX12_meet_80 : decode cX12_meet 80 = .ok (.ifCond .ne 22, 3) := by decide +kernel
theorem dX12_meet_83 : decode cX12_meet 83 = .ok (.aload_n 0, 1) := by decide +kernel
theorem dX12_meet_84 : decode cX12_meet 84 = .ok (.aload_n 0, 1) := by decide +kernel
theorem dX12_meet_85 : decode cX12_meet 85 = .ok (.getfield 72, 3) := by decide +kernel
theorem dX12_meet_88 : decode cX12_meet 88 = .ok (.iload_n 2, 1) := by decide +kernel
theorem dX12_meet_89 : decode cX12_meet 89 = .ok (.iaload, 1) := by decide +kernel
theorem dX12_meet_90 : decode cX12_meet 90 = .ok (.aload_n 0, 1) := by decide +kernel
theorem dX12_meet_91 : decode cX12_meet 91 = .ok (.getfield 66, 3) := by decide +kernel
theorem dX12_meet_94 : decode cX12_meet 94 = .ok (.iload_n 2, 1) := by decide +kernel
theorem dX12_meet_95 : decode cX12_meet 95 = .ok (.iaload, 1) := by decide +kernel
theorem dX12_meet_96 : decode cX12_meet 96 = .ok (.invokevirtual 367, 3) := by decide +kernel
theorem dX12_meet_99 : decode cX12_meet 99 = .ok (.ifCond .eq 7, 3) := by decide +kernel
theorem dX12_meet_102 : decode cX12_meet 102 = .ok (.iconst 0, 1) := by decide +kernel
theorem dX12_meet_103 : decode cX12_meet 103 = .ok (.goto 6, 3) := by decide +kernel
theorem dX12_meet_106 : decode cX12_meet 106 = .ok (.iconst 1, 1) := by decide +kernel
theorem dX12_meet_107 : decode cX12_meet 107 = .ok (.iload_n 2, 1) := by decide +kernel
theorem dX12_meet_108 : decode cX12_meet 108 = .ok (.ishl, 1) := by decide +kernel
theorem dX12_meet_109 : decode cX12_meet 109 = .ok (.ior, 1) := by decide +kernel
theorem dX12_meet_110 : decode cX12_meet 110 = .ok (.istore_n 1, 1) := by decide +kernel
theorem dX12_meet_111 : decode cX12_meet 111 = .ok (.iinc 2 1, 3) := by decide +kernel
theorem dX12_meet_114 : decode cX12_meet 114 = .ok (.goto (-61), 3) := by decide +kernel
theorem dX12_meet_117 : decode cX12_meet 117 = .ok (.iload_n 1, 1) := by decide +kernel
theorem dX12_meet_118 : decode cX12_meet 118 = .ok (.ireturn, 1) := by decide +kernel
def M_meet_L16 (K44 : Hp → Prop) : Nat → Int32 → Hp → Prop
  | 0, _, _ => False
  | n + 1, x1, h => ((gI h 99 1) ≤ x1 → K44 h) ∧ (¬ (gI h 99 1) ≤ x1 → vp_in x1 8 ∧ vp_in x1 8 ∧ ∀ h4 : Hp, h4 = sI h 115 (x1).toNatClampNeg (gI h 117 (x1).toNatClampNeg) → ∀ v5 : Int32, v5 = (x1 + 1) → M_meet_L16 K44 n v5 h4)
set_option maxHeartbeats 4000000 in
set_option maxRecDepth 20000 in
theorem gl_M_meet_L16 {G : Gx}  {Q : Int32 → Hp → Prop} {K44 : Hp → Prop} (hK44 : ∀  (h1 : Hp), K44  h1 → Go cX12_meet 3 RX12 (some .int) 14 G (QI G Q) 44 [(0, .ref (gAd G 98))] [] h1) : ∀ (n : Nat) (x1 : Int32) (h : Hp), M_meet_L16 K44 n x1 h → Go cX12_meet 3 RX12 (some .int) 14 G (QI G Q) 16 [(0, .ref (gAd G 98)), (1, .int x1)] [] h := by
  intro n
  induction n with
  | zero => intro _ h hw; exact False.elim hw
  | succ n ih =>
    intro x1 h hw
    refine g_iload_n dX12_meet_16 rfl rfl ?_
    refine g_aload_n dX12_meet_17 rfl rfl ?_
    refine g_getA dX12_meet_18 fl_X12_13 sh98 rfl ?_
    refine g_iconst (v := 1) dX12_meet_21 (by decide) ?_
    refine g_ialdK dX12_meet_22 ia99 al99 (by unfold vp_in; decide) (k := 1) (by decide) ?_
    refine g_icmp_ge 44 dX12_meet_23 rfl (fun hc => ?_) (fun hc => ?_)
    · have hw := hw.1 hc
      refine g_lv [0] rfl ?_
      exact hK44 _ hw
    · have hw := hw.2 hc
      refine g_aload_n dX12_meet_26 rfl rfl ?_
      refine g_getA dX12_meet_27 fl_X12_66 sh98 rfl ?_
      refine g_iload_n dX12_meet_30 rfl rfl ?_
      refine g_aload_n dX12_meet_31 rfl rfl ?_
      refine g_getA dX12_meet_32 fl_X12_72 sh98 rfl ?_
      refine g_iload_n dX12_meet_35 rfl rfl ?_
      refine g_iald dX12_meet_36 ia117 al117 hw.1 ?_
      have hw := hw.2
      refine g_iast dX12_meet_37 ia115 al115 hw.1 ?_
      have hw := hw.2
      refine g_heap (fun h4 eh4 => ?_)
      have hw := hw h4 eh4
      obtain ⟨v5, ev5⟩ : ∃ y : Int32, y = (x1 + 1) := ⟨_, rfl⟩
      have hw := hw v5 ev5
      refine g_iinc dX12_meet_38 rfl (by rw [ev5]; rfl) (by decide) (lv1 := [(0, .ref (gAd G 98)), (1, .int v5)]) rfl ?_
      refine g_goto 16 dX12_meet_41 rfl ?_
      exact ih _ _ hw
def M_meet_L53 (Q : Int32 → Hp → Prop) : Nat → Int32 → Int32 → Hp → Prop
  | 0, _, _, _ => False
  | n + 1, x1, x2, h => ((gI h 99 1) ≤ x2 → Q x1 h) ∧ (¬ (gI h 99 1) ≤ x2 → vp_in x2 8 ∧ vp_in x2 8 ∧ M_isLess (gI h 115 (x2).toNatClampNeg) (gI h 117 (x2).toNatClampNeg) h (fun r9 h10 => ∀ J109 : Int32 → Hp → Prop, J109 = (fun s11 h12 => ∀ v13 : Int32, v13 = (x1 ||| s11) → ∀ v14 : Int32, v14 = (x2 + 1) → M_meet_L53 Q n v13 v14 h12) → ∀ J102 : Hp → Prop, J102 = (fun h15 => J109 0 h15) → (¬ r9 = 0 → J102 h10) ∧ (r9 = 0 → vp_in x2 8 ∧ vp_in x2 8 ∧ M_isLess (gI h10 117 (x2).toNatClampNeg) (gI h10 115 (x2).toNatClampNeg) h10 (fun r16 h17 => (r16 = 0 → J109 ((1 : Int32) <<< (x2 &&& 31)) h17) ∧ (¬ r16 = 0 → J102 h17)))))
set_option maxHeartbeats 4000000 in
set_option maxRecDepth 20000 in
theorem gl_M_meet_L53 {G : Gx}  {Q : Int32 → Hp → Prop} : ∀ (n : Nat) (x1 : Int32) (x2 : Int32) (h : Hp), M_meet_L53 Q n x1 x2 h → Go cX12_meet 3 RX12 (some .int) 14 G (QI G Q) 53 [(0, .ref (gAd G 98)), (1, .int x1), (2, .int x2)] [] h := by
  intro n
  induction n with
  | zero => intro _ _ h hw; exact False.elim hw
  | succ n ih =>
    intro x1 x2 h hw
    refine g_iload_n dX12_meet_53 rfl rfl ?_
    refine g_aload_n dX12_meet_54 rfl rfl ?_
    refine g_getA dX12_meet_55 fl_X12_13 sh98 rfl ?_
    refine g_iconst (v := 1) dX12_meet_58 (by decide) ?_
    refine g_ialdK dX12_meet_59 ia99 al99 (by unfold vp_in; decide) (k := 1) (by decide) ?_
    refine g_icmp_ge 117 dX12_meet_60 rfl (fun hc => ?_) (fun hc => ?_)
    · have hw := hw.1 hc
      refine g_iload_n dX12_meet_117 rfl rfl ?_
      exact g_iret dX12_meet_118 hw
    · have hw := hw.2 hc
      refine g_iload_n dX12_meet_63 rfl rfl ?_
      refine g_aload_n dX12_meet_64 rfl rfl ?_
      refine g_aload_n dX12_meet_65 rfl rfl ?_
      refine g_getA dX12_meet_66 fl_X12_66 sh98 rfl ?_
      refine g_iload_n dX12_meet_69 rfl rfl ?_
      refine g_iald dX12_meet_70 ia115 al115 hw.1 ?_
      have hw := hw.2
      refine g_aload_n dX12_meet_71 rfl rfl ?_
      refine g_getA dX12_meet_72 fl_X12_72 sh98 rfl ?_
      refine g_iload_n dX12_meet_75 rfl rfl ?_
      refine g_iald dX12_meet_76 ia117 al117 hw.1 ?_
      have hw := hw.2
      refine g_callVI [.int (gI h 115 (x2).toNatClampNeg), .int (gI h 117 (x2).toNatClampNeg)] (ci := 12) dX12_meet_77 ml_X12_367 mk_X12_isLess rfl rfl sh98 (Nat.le_of_ble_eq_true rfl) (Nat.le_of_ble_eq_true rfl) rfl (c_M_isLess hw) (fun r9 h10 hw => ?_)
      refine jn_el hw (fun J109 eJ109 hw => ?_)
      have hJ109 : ∀ (s11 : Int32) (h12 : Hp), J109 s11 h12 → Go cX12_meet 3 RX12 (some .int) 14 G (QI G Q) 109 [(0, .ref (gAd G 98)), (2, .int x2)] [.int s11, .int x1] h12 := by
        intro s11 h12 hw
        subst eJ109
        refine g_ior dX12_meet_109 ?_
        refine g_topi (fun v13 ev13 => ?_)
        have hw := hw v13 ev13
        refine g_istore_n dX12_meet_110 rfl (by decide) (lv1 := [(0, .ref (gAd G 98)), (1, .int v13), (2, .int x2)]) rfl ?_
        obtain ⟨v14, ev14⟩ : ∃ y : Int32, y = (x2 + 1) := ⟨_, rfl⟩
        have hw := hw v14 ev14
        refine g_iinc dX12_meet_111 rfl (by rw [ev14]; rfl) (by decide) (lv1 := [(0, .ref (gAd G 98)), (1, .int v13), (2, .int v14)]) rfl ?_
        refine g_goto 53 dX12_meet_114 rfl ?_
        exact ih _ _ _ hw
      refine jn_el hw (fun J102 eJ102 hw => ?_)
      have hJ102 : ∀ (h15 : Hp), J102 h15 → Go cX12_meet 3 RX12 (some .int) 14 G (QI G Q) 102 [(0, .ref (gAd G 98)), (2, .int x2)] [.int x1] h15 := by
        intro h15 hw
        subst eJ102
        refine g_iconst (v := 0) dX12_meet_102 (by decide) ?_
        refine g_goto 109 dX12_meet_103 rfl ?_
        exact hJ109 _ _ hw
      refine g_if_ne 102 dX12_meet_80 rfl (fun hc => ?_) (fun hc => ?_)
      · have hw := hw.1 hc
        refine g_lv [0, 2] rfl ?_
        exact hJ102 _ hw
      · have hw := hw.2 hc
        refine g_aload_n dX12_meet_83 rfl rfl ?_
        refine g_aload_n dX12_meet_84 rfl rfl ?_
        refine g_getA dX12_meet_85 fl_X12_72 sh98 rfl ?_
        refine g_iload_n dX12_meet_88 rfl rfl ?_
        refine g_iald dX12_meet_89 ia117 al117 hw.1 ?_
        have hw := hw.2
        refine g_aload_n dX12_meet_90 rfl rfl ?_
        refine g_getA dX12_meet_91 fl_X12_66 sh98 rfl ?_
        refine g_iload_n dX12_meet_94 rfl rfl ?_
        refine g_iald dX12_meet_95 ia115 al115 hw.1 ?_
        have hw := hw.2
        refine g_callVI [.int (gI h10 117 (x2).toNatClampNeg), .int (gI h10 115 (x2).toNatClampNeg)] (ci := 12) dX12_meet_96 ml_X12_367 mk_X12_isLess rfl rfl sh98 (Nat.le_of_ble_eq_true rfl) (Nat.le_of_ble_eq_true rfl) rfl (c_M_isLess hw) (fun r16 h17 hw => ?_)
        refine g_if_eq 106 dX12_meet_99 rfl (fun hc => ?_) (fun hc => ?_)
        · have hw := hw.1 hc
          refine g_iconst (v := 1) dX12_meet_106 (by decide) ?_
          refine g_iload_n dX12_meet_107 rfl rfl ?_
          refine g_ishl dX12_meet_108 ?_
          refine g_lv [0, 2] rfl ?_
          exact hJ109 _ _ hw
        · have hw := hw.2 hc
          refine g_lv [0, 2] rfl ?_
          exact hJ102 _ hw
def M_meet  (h : Hp) (Q : Int32 → Hp → Prop) : Prop := ∀ h1 : Hp, h1 = sI h 98 0 0 → M_laysRings  h1 (fun h2 => M_laysSet 0 h2 (fun h3 => ∃ n6, M_meet_L16 (fun h7 => M_laysSet 1 h7 (fun h8 => ∃ n18, M_meet_L53 Q n18 0 0 h8)) n6 0 h3))
set_option maxHeartbeats 4000000 in
set_option maxRecDepth 20000 in
theorem c_M_meet {G : Gx}   {h : Hp} {Q : Int32 → Hp → Prop} (hw : M_meet  h Q) : Ct yX12_meet cX12_meet 3 (some .int) 14 G [.ref (gAd G 98)] h (QI G Q) := by
  refine ct_go [(0, .ref (gAd G 98))] (plainFor_of_name (by decide)) rfl (Nat.le_of_ble_eq_true rfl) rfl ?_
  refine g_aload_n dX12_meet_0 rfl rfl ?_
  refine g_iconst (v := 0) dX12_meet_1 (by decide) ?_
  refine g_putI dX12_meet_2 fl_X12_1 sh98 rfl rfl pf_12_0 ?_
  refine g_heap (fun h1 eh1 => ?_)
  have hw := hw h1 eh1
  refine g_aload_n dX12_meet_5 rfl rfl ?_
  refine g_callVV [] (ci := 12) dX12_meet_6 ml_X12_379 mk_X12_laysRings rfl rfl sh98 (Nat.le_of_ble_eq_true rfl) (Nat.le_of_ble_eq_true rfl) rfl (c_M_laysRings hw) (fun h2 hw => ?_)
  refine g_aload_n dX12_meet_9 rfl rfl ?_
  refine g_iconst (v := 0) dX12_meet_10 (by decide) ?_
  refine g_callVV [.int 0] (ci := 12) dX12_meet_11 ml_X12_415 mk_X12_laysSet rfl rfl sh98 (Nat.le_of_ble_eq_true rfl) (Nat.le_of_ble_eq_true rfl) rfl (c_M_laysSet hw) (fun h3 hw => ?_)
  refine g_iconst (v := 0) dX12_meet_14 (by decide) ?_
  refine g_istore_n dX12_meet_15 rfl (by decide) (lv1 := [(0, .ref (gAd G 98)), (1, .int 0)]) rfl ?_
  obtain ⟨n6, hw⟩ := hw
  refine gl_M_meet_L16  ?_ _ _ _ hw
  · intro h7 hw
    refine g_aload_n dX12_meet_44 rfl rfl ?_
    refine g_iconst (v := 1) dX12_meet_45 (by decide) ?_
    refine g_callVV [.int 1] (ci := 12) dX12_meet_46 ml_X12_415 mk_X12_laysSet rfl rfl sh98 (Nat.le_of_ble_eq_true rfl) (Nat.le_of_ble_eq_true rfl) rfl (c_M_laysSet hw) (fun h8 hw => ?_)
    refine g_iconst (v := 0) dX12_meet_49 (by decide) ?_
    refine g_istore_n dX12_meet_50 rfl (by decide) (lv1 := [(0, .ref (gAd G 98)), (1, .int 0)]) rfl ?_
    refine g_iconst (v := 0) dX12_meet_51 (by decide) ?_
    refine g_istore_n dX12_meet_52 rfl (by decide) (lv1 := [(0, .ref (gAd G 98)), (1, .int 0), (2, .int 0)]) rfl ?_
    obtain ⟨n18, hw⟩ := hw
    refine gl_M_meet_L53   _ _ _ _ hw
theorem dX12_plans_0 : decode cX12_plans 0 = .ok (.aload_n 0, 1) := by decide +kernel
theorem dX12_plans_1 : decode cX12_plans 1 = .ok (.iconst 0, 1) := by decide +kernel
theorem dX12_plans_2 : decode cX12_plans 2 = .ok (.putfield 1, 3) := by decide +kernel
theorem dX12_plans_5 : decode cX12_plans 5 = .ok (.iload_n 1, 1) := by decide +kernel
theorem dX12_plans_6 : decode cX12_plans 6 = .ok (.i2l, 1) := by decide +kernel
theorem dX12_plans_7 : decode cX12_plans 7 = .ok (.lconst 0, 1) := by decide +kernel
theorem dX12_plans_8 : decode cX12_plans 8 = .ok (.lconst 1, 1) := by decide +kernel
theorem dX12_plans_9 : decode cX12_plans 9 = .ok (.invokestatic 169, 3) := by decide +kernel
theorem dX12_plans_12 : decode cX12_plans 12 = .ok (.ifCond .eq 12, 3) := by decide +kernel
theorem dX12_plans_15 : decode cX12_plans 15 = .ok (.aload_n 0, 1) := by decide +kernel
theorem dX12_plans_16 : decode cX12_plans 16 = .ok (.iload_n 2, 1) := by decide +kernel
theorem dX12_plans_17 : decode cX12_plans 17 = .ok (.i2l, 1) := by decide +kernel
theorem dX12_plans_18 : decode cX12_plans 18 = .ok (.invokevirtual 256, 3) := by decide +kernel
theorem dX12_plans_21 : decode cX12_plans 21 = .ok (.ifCond .ne 6, 3) := by decide +kernel
theorem dX12_plans_24 : decode cX12_plans 24 = .ok (.bipush (-2), 2) := by decide +kernel
theorem dX12_plans_26 : decode cX12_plans 26 = .ok (.ireturn, 1) := by decide +kernel
theorem dX12_plans_27 : decode cX12_plans 27 = .ok (.aload_n 0, 1) := by decide +kernel
theorem dX12_plans_28 : decode cX12_plans 28 = .ok (.invokevirtual 310, 3) := by decide +kernel
theorem dX12_plans_31 : decode cX12_plans 31 = .ok (.aload_n 0, 1) := by decide +kernel
theorem dX12_plans_32 : decode cX12_plans 32 = .ok (.getfield 69, 3) := by decide +kernel
theorem dX12_plans_35 : decode cX12_plans 35 = .ok (.bipush 8, 2) := by decide +kernel
theorem dX12_plans_37 : decode cX12_plans 37 = .ok (.iload_n 1, 1) := by decide +kernel
theorem dX12_plans_38 : decode cX12_plans 38 = .ok (.imul, 1) := by decide +kernel
theorem dX12_plans_39 : decode cX12_plans 39 = .ok (.iload_n 2, 1) := by decide +kernel
theorem dX12_plans_40 : decode cX12_plans 40 = .ok (.iadd, 1) := by decide +kernel
theorem dX12_plans_41 : decode cX12_plans 41 = .ok (.iaload, 1) := by decide +kernel
theorem dX12_plans_42 : decode cX12_plans 42 = .ok (.ireturn, 1) := by decide +kernel
def M_plans (x1 : Int32) (x2 : Int32) (h : Hp) (Q : Int32 → Hp → Prop) : Prop := ∀ h1 : Hp, h1 = sI h 98 0 0 → M_within ((x1).toInt64) (0 : Int64) (1 : Int64) h1 (fun r2 h3 => (r2 = 0 → Q (-2) h3) ∧ (¬ r2 = 0 → M_isPlace ((x2).toInt64) h3 (fun r4 h5 => (¬ r4 = 0 → M_laysGame  h5 (fun h6 => vp_in (((8 : Int32) * x1) + x2) 16 ∧ Q (gI h6 116 ((((8 : Int32) * x1) + x2)).toNatClampNeg) h6)) ∧ (r4 = 0 → Q (-2) h5))))
set_option maxHeartbeats 4000000 in
set_option maxRecDepth 20000 in
theorem c_M_plans {G : Gx}  {x1 : Int32} {x2 : Int32} {h : Hp} {Q : Int32 → Hp → Prop} (hw : M_plans x1 x2 h Q) : Ct yX12_plans cX12_plans 3 (some .int) 16 G [.ref (gAd G 98), .int x1, .int x2] h (QI G Q) := by
  refine ct_go [(0, .ref (gAd G 98)), (1, .int x1), (2, .int x2)] (plainFor_of_name (by decide)) rfl (Nat.le_of_ble_eq_true rfl) rfl ?_
  refine g_aload_n dX12_plans_0 rfl rfl ?_
  refine g_iconst (v := 0) dX12_plans_1 (by decide) ?_
  refine g_putI dX12_plans_2 fl_X12_1 sh98 rfl rfl pf_12_0 ?_
  refine g_heap (fun h1 eh1 => ?_)
  have hw := hw h1 eh1
  refine g_iload_n dX12_plans_5 rfl rfl ?_
  refine g_i2l dX12_plans_6 ?_
  refine g_lconst (v := (0 : Int64)) dX12_plans_7 (by decide) ?_
  refine g_lconst (v := (1 : Int64)) dX12_plans_8 (by decide) ?_
  refine g_callSI [.long ((x1).toInt64), .long (0 : Int64), .long (1 : Int64)] dX12_plans_9 ml_X12_169 mk_X12_within rfl (Nat.le_of_ble_eq_true rfl) (Nat.le_of_ble_eq_true rfl) rfl (c_M_within hw) (fun r2 h3 hw => ?_)
  refine g_if_eq 24 dX12_plans_12 rfl (fun hc => ?_) (fun hc => ?_)
  · have hw := hw.1 hc
    refine g_bipush (v := (-2)) dX12_plans_24 (by decide) ?_
    exact g_iret dX12_plans_26 hw
  · have hw := hw.2 hc
    refine g_aload_n dX12_plans_15 rfl rfl ?_
    refine g_iload_n dX12_plans_16 rfl rfl ?_
    refine g_i2l dX12_plans_17 ?_
    refine g_callVI [.long ((x2).toInt64)] (ci := 12) dX12_plans_18 ml_X12_256 mk_X12_isPlace rfl rfl sh98 (Nat.le_of_ble_eq_true rfl) (Nat.le_of_ble_eq_true rfl) rfl (c_M_isPlace hw) (fun r4 h5 hw => ?_)
    refine g_if_ne 27 dX12_plans_21 rfl (fun hc => ?_) (fun hc => ?_)
    · have hw := hw.1 hc
      refine g_aload_n dX12_plans_27 rfl rfl ?_
      refine g_callVV [] (ci := 12) dX12_plans_28 ml_X12_310 mk_X12_laysGame rfl rfl sh98 (Nat.le_of_ble_eq_true rfl) (Nat.le_of_ble_eq_true rfl) rfl (c_M_laysGame hw) (fun h6 hw => ?_)
      refine g_aload_n dX12_plans_31 rfl rfl ?_
      refine g_getA dX12_plans_32 fl_X12_69 sh98 rfl ?_
      refine g_bipush (v := 8) dX12_plans_35 (by decide) ?_
      refine g_iload_n dX12_plans_37 rfl rfl ?_
      refine g_imul dX12_plans_38 ?_
      refine g_iload_n dX12_plans_39 rfl rfl ?_
      refine g_iadd dX12_plans_40 ?_
      refine g_iald dX12_plans_41 ia116 al116 hw.1 ?_
      have hw := hw.2
      exact g_iret dX12_plans_42 hw
    · have hw := hw.2 hc
      refine g_bipush (v := (-2)) dX12_plans_24 (by decide) ?_
      exact g_iret dX12_plans_26 hw
theorem dX12_neededAt_0 : decode cX12_neededAt 0 = .ok (.iconst (-1), 1) := by decide +kernel
theorem dX12_neededAt_1 : decode cX12_neededAt 1 = .ok (.istore_n 2, 1) := by decide +kernel
theorem dX12_neededAt_2 : decode cX12_neededAt 2 = .ok (.iconst 0, 1) := by decide +kernel
theorem dX12_neededAt_3 : decode cX12_neededAt 3 = .ok (.istore_n 3, 1) := by decide +kernel
theorem dX12_neededAt_4 : decode cX12_neededAt 4 = .ok (.iload_n 3, 1) := by decide +kernel
theorem dX12_neededAt_5 : decode cX12_neededAt 5 = .ok (.bipush 24, 2) := by decide +kernel
theorem dX12_neededAt_7 : decode cX12_neededAt 7 = .ok (.if_icmp .ge 112, 3) := by decide +kernel
theorem dX12_neededAt_10 : decode cX12_neededAt 10 = .ok (.aload_n 0, 1) := by decide +kernel
theorem dX12_neededAt_11 : decode cX12_neededAt 11 = .ok (.getfield 45, 3) := by decide +kernel
theorem dX12_neededAt_14 : decode cX12_neededAt 14 = .ok (.iload_n 1, 1) := by decide +kernel
theorem dX12_neededAt_15 : decode cX12_neededAt 15 = .ok (.iaload, 1) := by decide +kernel
theorem dX12_neededAt_16 : decode cX12_neededAt 16 = .ok (.i2l, 1) := by decide +kernel
theorem dX12_neededAt_17 : decode cX12_neededAt 17 = .ok (.iload_n 3, 1) := by decide +kernel
theorem dX12_neededAt_18 : decode cX12_neededAt 18 = .ok (.invokestatic 228, 3) := by decide +kernel
theorem dX12_neededAt_21 : decode cX12_neededAt 21 = .ok (.ifCond .ne 6, 3) := by decide +kernel
theorem dX12_neededAt_24 : decode cX12_neededAt 24 = .ok (.goto 89, 3) := by decide +kernel
theorem dX12_neededAt_27 : decode cX12_neededAt 27 = .ok (.aload_n 0, 1) := by decide +kernel
theorem dX12_neededAt_28 : decode cX12_neededAt 28 = .ok (.getfield 75, 3) := by decide +kernel
theorem dX12_neededAt_31 : decode cX12_neededAt 31 = .ok (.aload_n 0, 1) := by decide +kernel
theorem dX12_neededAt_32 : decode cX12_neededAt 32 = .ok (.getfield 39, 3) := by decide +kernel
theorem dX12_neededAt_35 : decode cX12_neededAt 35 = .ok (.iload_n 3, 1) := by decide +kernel
theorem dX12_neededAt_36 : decode cX12_neededAt 36 = .ok (.iaload, 1) := by decide +kernel
theorem dX12_neededAt_37 : decode cX12_neededAt 37 = .ok (.iaload, 1) := by decide +kernel
theorem dX12_neededAt_38 : decode cX12_neededAt 38 = .ok (.ldc_w 418, 3) := by decide +kernel
theorem dX12_neededAt_41 : decode cX12_neededAt 41 = .ok (.if_icmp .ne 9, 3) := by decide +kernel
theorem dX12_neededAt_44 : decode cX12_neededAt 44 = .ok (.ldc_w 418, 3) := by decide +kernel
theorem dX12_neededAt_47 : decode cX12_neededAt 47 = .ok (.goto 21, 3) := by decide +kernel
theorem dX12_neededAt_50 : decode cX12_neededAt 50 = .ok (.aload_n 0, 1) := by decide +kernel
theorem dX12_neededAt_51 : decode cX12_neededAt 51 = .ok (.getfield 75, 3) := by decide +kernel
theorem dX12_neededAt_54 : decode cX12_neededAt 54 = .ok (.aload_n 0, 1) := by decide +kernel
theorem dX12_neededAt_55 : decode cX12_neededAt 55 = .ok (.getfield 39, 3) := by decide +kernel
theorem dX12_neededAt_58 : decode cX12_neededAt 58 = .ok (.iload_n 3, 1) := by decide +kernel
theorem dX12_neededAt_59 : decode cX12_neededAt 59 = .ok (.iaload, 1) := by decide +kernel
theorem dX12_neededAt_60 : decode cX12_neededAt 60 = .ok (.iaload, 1) := by decide +kernel
theorem dX12_neededAt_61 : decode cX12_neededAt 61 = .ok (.aload_n 0, 1) := by decide +kernel
theorem dX12_neededAt_62 : decode cX12_neededAt 62 = .ok (.getfield 42, 3) := by decide +kernel
theorem dX12_neededAt_65 : decode cX12_neededAt 65 = .ok (.iload_n 3, 1) := by decide +kernel
theorem dX12_neededAt_66 : decode cX12_neededAt 66 = .ok (.iaload, 1) := by decide +kernel
theorem dX12_neededAt_67 : decode cX12_neededAt 67 = .ok (.isub, 1) := by decide +kernel
theorem dX12_neededAt_68 : decode cX12_neededAt 68 = .ok (.istore 4, 2) := by decide +kernel
theorem dX12_neededAt_70 : decode cX12_neededAt 70 = .ok (.iload 4, 2) := by decide +kernel
theorem dX12_neededAt_72 : decode cX12_neededAt 72 = .ok (.ifCond .ge 6, 3) := by decide +kernel
theorem dX12_neededAt_75 : decode cX12_neededAt 75 = .ok (.iconst 0, 1) := by decide +kernel
theorem dX12_neededAt_76 : decode cX12_neededAt 76 = .ok (.istore 4, 2) := by decide +kernel
theorem dX12_neededAt_78 : decode cX12_neededAt 78 = .ok (.iload_n 2, 1) := by decide +kernel
theorem dX12_neededAt_79 : decode cX12_neededAt 79 = .ok (.iconst (-1), 1) := by decide +kernel
theorem dX12_neededAt_80 : decode cX12_neededAt 80 = .ok (.if_icmp .eq 26, 3) := by decide +kernel
theorem dX12_neededAt_83 : decode cX12_neededAt 83 = .ok (.aload_n 0, 1) := by decide +kernel
theorem dX12_neededAt_84 : decode cX12_neededAt 84 = .ok (.iload_n 1, 1) := by decide +kernel
theorem dX12_neededAt_85 : decode cX12_neededAt 85 = .ok (.invokevirtual 263, 3) := by decide +kernel
theorem dX12_neededAt_88 : decode cX12_neededAt 88 = .ok (.ifCond .eq 12, 3) := by decide +kernel
theorem dX12_neededAt_91 : decode cX12_neededAt 91 = .ok (.iload 4, 2) := by decide +kernel
theorem dX12_neededAt_93 : decode cX12_neededAt 93 = .ok (.iload_n 2, 1) := by decide +kernel
theorem dX12_neededAt_94 : decode cX12_neededAt 94 = .ok (.if_icmp .ge 17, 3) := by decide +kernel
theorem dX12_neededAt_97 : decode cX12_neededAt 97 = .ok (.goto 9, 3) := by decide +kernel
theorem dX12_neededAt_100 : decode cX12_neededAt 100 = .ok (.iload 4, 2) := by decide +kernel
theorem dX12_neededAt_102 : decode cX12_neededAt 102 = .ok (.iload_n 2, 1) := by decide +kernel
theorem dX12_neededAt_103 : decode cX12_neededAt 103 = .ok (.if_icmp .le 8, 3) := by decide +kernel
theorem dX12_neededAt_106 : decode cX12_neededAt 106 = .ok (.iload 4, 2) := by decide +kernel
theorem dX12_neededAt_108 : decode cX12_neededAt 108 = .ok (.goto 4, 3) := by decide +kernel
theorem dX12_neededAt_111 : decode cX12_neededAt 111 = .ok (.iload_n 2, 1) := by decide +kernel
theorem dX12_neededAt_112 : decode cX12_neededAt 112 = .ok (.istore_n 2, 1) := by decide +kernel
theorem dX12_neededAt_113 : decode cX12_neededAt 113 = .ok (.iinc 3 1, 3) := by decide +kernel
theorem dX12_neededAt_116 : decode cX12_neededAt 116 = .ok (.goto (-112), 3) := by decide +kernel
theorem dX12_neededAt_119 : decode cX12_neededAt 119 = .ok (.iload_n 2, 1) := by decide +kernel
theorem dX12_neededAt_120 : decode cX12_neededAt 120 = .ok (.sipush 800, 3) := by decide +kernel
theorem dX12_neededAt_123 : decode cX12_neededAt 123 = .ok (.if_icmp .le 9, 3) := by decide +kernel
theorem dX12_neededAt_126 : decode cX12_neededAt 126 = .ok (.ldc_w 418, 3) := by decide +kernel
theorem dX12_neededAt_129 : decode cX12_neededAt 129 = .ok (.goto 4, 3) := by decide +kernel
theorem dX12_neededAt_132 : decode cX12_neededAt 132 = .ok (.iload_n 2, 1) := by decide +kernel
theorem dX12_neededAt_133 : decode cX12_neededAt 133 = .ok (.ireturn, 1) := by decide +kernel
theorem fl_X12_75 : FLk RX12 75 12 33 := ⟨_, rfl, by decide, mW 1415 (by decide +kernel) rfl⟩
theorem kc_X12_418 : Cond.constant RX12 418 (268435456) ∈ Wd := mW 1917 (by decide +kernel) rfl
def M_neededAt_L4 (x1 : Int32) (K119 : Int32 → Hp → Prop) : Nat → Int32 → Int32 → Hp → Prop
  | 0, _, _, _ => False
  | n + 1, x2, x3, h => (24 ≤ x3 → K119 x2 h) ∧ (¬ 24 ≤ x3 → vp_in x1 8 ∧ M_isIn (((gI h 108 (x1).toNatClampNeg)).toInt64) x3 h (fun r1 h2 => ∀ J113 : Int32 → Hp → Prop, J113 = (fun x2_3 h4 => ∀ v5 : Int32, v5 = (x3 + 1) → M_neededAt_L4 x1 K119 n x2_3 v5 h4) → (¬ r1 = 0 → vp_in x3 24 ∧ vp_in (gI h2 106 (x3).toNatClampNeg) 8 ∧ ∀ J68 : Int32 → Hp → Prop, J68 = (fun s6 h7 => ∀ J78 : Int32 → Hp → Prop, J78 = (fun x4_8 h9 => ∀ J112 : Int32 → Hp → Prop, J112 = (fun s10 h11 => J113 s10 h11) → ∀ J106 : Hp → Prop, J106 = (fun h12 => J112 x4_8 h12) → (x2 = (-1) → J106 h9) ∧ (¬ x2 = (-1) → M_isMine x1 h9 (fun r13 h14 => ∀ J111 : Hp → Prop, J111 = (fun h15 => J112 x2 h15) → (r13 = 0 → (x4_8 ≤ x2 → J111 h14) ∧ (¬ x4_8 ≤ x2 → J106 h14)) ∧ (¬ r13 = 0 → (x2 ≤ x4_8 → J111 h14) ∧ (¬ x2 ≤ x4_8 → J106 h14))))) → (0 ≤ s6 → J78 s6 h7) ∧ (¬ 0 ≤ s6 → J78 0 h7)) → (¬ (gI h2 118 ((gI h2 106 (x3).toNatClampNeg)).toNatClampNeg) = 268435456 → vp_in x3 24 ∧ vp_in (gI h2 106 (x3).toNatClampNeg) 8 ∧ vp_in x3 24 ∧ J68 ((gI h2 118 ((gI h2 106 (x3).toNatClampNeg)).toNatClampNeg) - (gI h2 107 (x3).toNatClampNeg)) h2) ∧ ((gI h2 118 ((gI h2 106 (x3).toNatClampNeg)).toNatClampNeg) = 268435456 → J68 268435456 h2)) ∧ (r1 = 0 → J113 x2 h2)))
set_option maxHeartbeats 4000000 in
set_option maxRecDepth 20000 in
theorem gl_M_neededAt_L4 {G : Gx}  {x1 : Int32} {Q : Int32 → Hp → Prop} {K119 : Int32 → Hp → Prop} (hK119 : ∀ (y2 : Int32) (h1 : Hp), K119 y2 h1 → Go cX12_neededAt 5 RX12 (some .int) 3 G (QI G Q) 119 [(2, .int y2)] [] h1) : ∀ (n : Nat) (x2 : Int32) (x3 : Int32) (h : Hp), M_neededAt_L4 x1 K119 n x2 x3 h → Go cX12_neededAt 5 RX12 (some .int) 3 G (QI G Q) 4 [(0, .ref (gAd G 98)), (1, .int x1), (2, .int x2), (3, .int x3)] [] h := by
  intro n
  induction n with
  | zero => intro _ _ h hw; exact False.elim hw
  | succ n ih =>
    intro x2 x3 h hw
    refine g_iload_n dX12_neededAt_4 rfl rfl ?_
    refine g_bipush (v := 24) dX12_neededAt_5 (by decide) ?_
    refine g_icmp_ge 119 dX12_neededAt_7 rfl (fun hc => ?_) (fun hc => ?_)
    · have hw := hw.1 hc
      refine g_lv [2] rfl ?_
      exact hK119 _ _ hw
    · have hw := hw.2 hc
      refine g_aload_n dX12_neededAt_10 rfl rfl ?_
      refine g_getA dX12_neededAt_11 fl_X12_45 sh98 rfl ?_
      refine g_iload_n dX12_neededAt_14 rfl rfl ?_
      refine g_iald dX12_neededAt_15 ia108 al108 hw.1 ?_
      have hw := hw.2
      refine g_i2l dX12_neededAt_16 ?_
      refine g_iload_n dX12_neededAt_17 rfl rfl ?_
      refine g_callSI [.long (((gI h 108 (x1).toNatClampNeg)).toInt64), .int x3] dX12_neededAt_18 ml_X12_228 mk_X12_isIn rfl (Nat.le_of_ble_eq_true rfl) (Nat.le_of_ble_eq_true rfl) rfl (c_M_isIn hw) (fun r1 h2 hw => ?_)
      refine jn_el hw (fun J113 eJ113 hw => ?_)
      have hJ113 : ∀ (x2_3 : Int32) (h4 : Hp), J113 x2_3 h4 → Go cX12_neededAt 5 RX12 (some .int) 3 G (QI G Q) 113 [(0, .ref (gAd G 98)), (1, .int x1), (2, .int x2_3), (3, .int x3)] [] h4 := by
        intro x2_3 h4 hw
        subst eJ113
        obtain ⟨v5, ev5⟩ : ∃ y : Int32, y = (x3 + 1) := ⟨_, rfl⟩
        have hw := hw v5 ev5
        refine g_iinc dX12_neededAt_113 rfl (by rw [ev5]; rfl) (by decide) (lv1 := [(0, .ref (gAd G 98)), (1, .int x1), (2, .int x2_3), (3, .int v5)]) rfl ?_
        refine g_goto 4 dX12_neededAt_116 rfl ?_
        exact ih _ _ _ hw
      refine g_if_ne 27 dX12_neededAt_21 rfl (fun hc => ?_) (fun hc => ?_)
      · have hw := hw.1 hc
        refine g_aload_n dX12_neededAt_27 rfl rfl ?_
        refine g_getA dX12_neededAt_28 fl_X12_75 sh98 rfl ?_
        refine g_aload_n dX12_neededAt_31 rfl rfl ?_
        refine g_getA dX12_neededAt_32 fl_X12_39 sh98 rfl ?_
        refine g_iload_n dX12_neededAt_35 rfl rfl ?_
        refine g_iald dX12_neededAt_36 ia106 al106 hw.1 ?_
        have hw := hw.2
        refine g_iald dX12_neededAt_37 ia118 al118 hw.1 ?_
        have hw := hw.2
        refine g_ldcw dX12_neededAt_38 kc_X12_418 ?_
        refine jn_el hw (fun J68 eJ68 hw => ?_)
        have hJ68 : ∀ (s6 : Int32) (h7 : Hp), J68 s6 h7 → Go cX12_neededAt 5 RX12 (some .int) 3 G (QI G Q) 68 [(0, .ref (gAd G 98)), (1, .int x1), (2, .int x2), (3, .int x3)] [.int s6] h7 := by
          intro s6 h7 hw
          subst eJ68
          refine g_istore dX12_neededAt_68 (by decide) (lv1 := [(0, .ref (gAd G 98)), (1, .int x1), (2, .int x2), (3, .int x3), (4, .int s6)]) rfl ?_
          refine g_iload dX12_neededAt_70 rfl ?_
          refine jn_el hw (fun J78 eJ78 hw => ?_)
          have hJ78 : ∀ (x4_8 : Int32) (h9 : Hp), J78 x4_8 h9 → Go cX12_neededAt 5 RX12 (some .int) 3 G (QI G Q) 78 [(0, .ref (gAd G 98)), (1, .int x1), (2, .int x2), (3, .int x3), (4, .int x4_8)] [] h9 := by
            intro x4_8 h9 hw
            subst eJ78
            refine g_iload_n dX12_neededAt_78 rfl rfl ?_
            refine g_iconst (v := (-1)) dX12_neededAt_79 (by decide) ?_
            refine jn_el hw (fun J112 eJ112 hw => ?_)
            have hJ112 : ∀ (s10 : Int32) (h11 : Hp), J112 s10 h11 → Go cX12_neededAt 5 RX12 (some .int) 3 G (QI G Q) 112 [(0, .ref (gAd G 98)), (1, .int x1), (3, .int x3)] [.int s10] h11 := by
              intro s10 h11 hw
              subst eJ112
              refine g_istore_n dX12_neededAt_112 rfl (by decide) (lv1 := [(0, .ref (gAd G 98)), (1, .int x1), (2, .int s10), (3, .int x3)]) rfl ?_
              exact hJ113 _ _ hw
            refine jn_el hw (fun J106 eJ106 hw => ?_)
            have hJ106 : ∀ (h12 : Hp), J106 h12 → Go cX12_neededAt 5 RX12 (some .int) 3 G (QI G Q) 106 [(0, .ref (gAd G 98)), (1, .int x1), (3, .int x3), (4, .int x4_8)] [] h12 := by
              intro h12 hw
              subst eJ106
              refine g_iload dX12_neededAt_106 rfl ?_
              refine g_goto 112 dX12_neededAt_108 rfl ?_
              refine g_lv [0, 1, 2] rfl ?_
              exact hJ112 _ _ hw
            refine g_icmp_eq 106 dX12_neededAt_80 rfl (fun hc => ?_) (fun hc => ?_)
            · have hw := hw.1 hc
              refine g_lv [0, 1, 3, 4] rfl ?_
              exact hJ106 _ hw
            · have hw := hw.2 hc
              refine g_aload_n dX12_neededAt_83 rfl rfl ?_
              refine g_iload_n dX12_neededAt_84 rfl rfl ?_
              refine g_callVI [.int x1] (ci := 12) dX12_neededAt_85 ml_X12_263 mk_X12_isMine rfl rfl sh98 (Nat.le_of_ble_eq_true rfl) (Nat.le_of_ble_eq_true rfl) rfl (c_M_isMine hw) (fun r13 h14 hw => ?_)
              refine jn_el hw (fun J111 eJ111 hw => ?_)
              have hJ111 : ∀ (h15 : Hp), J111 h15 → Go cX12_neededAt 5 RX12 (some .int) 3 G (QI G Q) 111 [(0, .ref (gAd G 98)), (1, .int x1), (2, .int x2), (3, .int x3)] [] h15 := by
                intro h15 hw
                subst eJ111
                refine g_iload_n dX12_neededAt_111 rfl rfl ?_
                refine g_lv [0, 1, 3] rfl ?_
                exact hJ112 _ _ hw
              refine g_if_eq 100 dX12_neededAt_88 rfl (fun hc => ?_) (fun hc => ?_)
              · have hw := hw.1 hc
                refine g_iload dX12_neededAt_100 rfl ?_
                refine g_iload_n dX12_neededAt_102 rfl rfl ?_
                refine g_icmp_le 111 dX12_neededAt_103 rfl (fun hc => ?_) (fun hc => ?_)
                · have hw := hw.1 hc
                  refine g_lv [0, 1, 2, 3] rfl ?_
                  exact hJ111 _ hw
                · have hw := hw.2 hc
                  refine g_lv [0, 1, 3, 4] rfl ?_
                  exact hJ106 _ hw
              · have hw := hw.2 hc
                refine g_iload dX12_neededAt_91 rfl ?_
                refine g_iload_n dX12_neededAt_93 rfl rfl ?_
                refine g_icmp_ge 111 dX12_neededAt_94 rfl (fun hc => ?_) (fun hc => ?_)
                · have hw := hw.1 hc
                  refine g_lv [0, 1, 2, 3] rfl ?_
                  exact hJ111 _ hw
                · have hw := hw.2 hc
                  refine g_goto 106 dX12_neededAt_97 rfl ?_
                  refine g_lv [0, 1, 3, 4] rfl ?_
                  exact hJ106 _ hw
          refine g_if_ge 78 dX12_neededAt_72 rfl (fun hc => ?_) (fun hc => ?_)
          · have hw := hw.1 hc
            exact hJ78 _ _ hw
          · have hw := hw.2 hc
            refine g_iconst (v := 0) dX12_neededAt_75 (by decide) ?_
            refine g_istore dX12_neededAt_76 (by decide) (lv1 := [(0, .ref (gAd G 98)), (1, .int x1), (2, .int x2), (3, .int x3), (4, .int 0)]) rfl ?_
            exact hJ78 _ _ hw
        refine g_icmp_ne 50 dX12_neededAt_41 rfl (fun hc => ?_) (fun hc => ?_)
        · have hw := hw.1 hc
          refine g_aload_n dX12_neededAt_50 rfl rfl ?_
          refine g_getA dX12_neededAt_51 fl_X12_75 sh98 rfl ?_
          refine g_aload_n dX12_neededAt_54 rfl rfl ?_
          refine g_getA dX12_neededAt_55 fl_X12_39 sh98 rfl ?_
          refine g_iload_n dX12_neededAt_58 rfl rfl ?_
          refine g_iald dX12_neededAt_59 ia106 al106 hw.1 ?_
          have hw := hw.2
          refine g_iald dX12_neededAt_60 ia118 al118 hw.1 ?_
          have hw := hw.2
          refine g_aload_n dX12_neededAt_61 rfl rfl ?_
          refine g_getA dX12_neededAt_62 fl_X12_42 sh98 rfl ?_
          refine g_iload_n dX12_neededAt_65 rfl rfl ?_
          refine g_iald dX12_neededAt_66 ia107 al107 hw.1 ?_
          have hw := hw.2
          refine g_isub dX12_neededAt_67 ?_
          exact hJ68 _ _ hw
        · have hw := hw.2 hc
          refine g_ldcw dX12_neededAt_44 kc_X12_418 ?_
          refine g_goto 68 dX12_neededAt_47 rfl ?_
          exact hJ68 _ _ hw
      · have hw := hw.2 hc
        refine g_goto 113 dX12_neededAt_24 rfl ?_
        exact hJ113 _ _ hw
def M_neededAt (x1 : Int32) (h : Hp) (Q : Int32 → Hp → Prop) : Prop := ∃ n16, M_neededAt_L4 x1 (fun x2_17 h18 => (x2_17 ≤ 800 → Q x2_17 h18) ∧ (¬ x2_17 ≤ 800 → Q 268435456 h18)) n16 (-1) 0 h
set_option maxHeartbeats 4000000 in
set_option maxRecDepth 20000 in
theorem c_M_neededAt {G : Gx}  {x1 : Int32} {h : Hp} {Q : Int32 → Hp → Prop} (hw : M_neededAt x1 h Q) : Ct yX12_neededAt cX12_neededAt 5 (some .int) 3 G [.ref (gAd G 98), .int x1] h (QI G Q) := by
  refine ct_go [(0, .ref (gAd G 98)), (1, .int x1)] (plainFor_of_name (by decide)) rfl (Nat.le_of_ble_eq_true rfl) rfl ?_
  refine g_iconst (v := (-1)) dX12_neededAt_0 (by decide) ?_
  refine g_istore_n dX12_neededAt_1 rfl (by decide) (lv1 := [(0, .ref (gAd G 98)), (1, .int x1), (2, .int (-1))]) rfl ?_
  refine g_iconst (v := 0) dX12_neededAt_2 (by decide) ?_
  refine g_istore_n dX12_neededAt_3 rfl (by decide) (lv1 := [(0, .ref (gAd G 98)), (1, .int x1), (2, .int (-1)), (3, .int 0)]) rfl ?_
  obtain ⟨n16, hw⟩ := hw
  refine gl_M_neededAt_L4  ?_ _ _ _ _ hw
  · intro x2_17 h18 hw
    refine g_iload_n dX12_neededAt_119 rfl rfl ?_
    refine g_sipush (v := 800) dX12_neededAt_120 (by decide) ?_
    refine g_icmp_le 132 dX12_neededAt_123 rfl (fun hc => ?_) (fun hc => ?_)
    · have hw := hw.1 hc
      refine g_iload_n dX12_neededAt_132 rfl rfl ?_
      exact g_iret dX12_neededAt_133 hw
    · have hw := hw.2 hc
      refine g_ldcw dX12_neededAt_126 kc_X12_418 ?_
      refine g_goto 133 dX12_neededAt_129 rfl ?_
      exact g_iret dX12_neededAt_133 hw
