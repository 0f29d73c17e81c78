theorem dX12_energy_0 : decode cX12_energy 0 = .ok (.aload_n 0, 1) := by decide +kernel
theorem dX12_energy_1 : decode cX12_energy 1 = .ok (.iconst 0, 1) := by decide +kernel
theorem dX12_energy_2 : decode cX12_energy 2 = .ok (.putfield 1, 3) := by decide +kernel
theorem dX12_energy_5 : decode cX12_energy 5 = .ok (.aload_n 0, 1) := by decide +kernel
theorem dX12_energy_6 : decode cX12_energy 6 = .ok (.iload_n 1, 1) := by decide +kernel
theorem dX12_energy_7 : decode cX12_energy 7 = .ok (.i2l, 1) := by decide +kernel
theorem dX12_energy_8 : decode cX12_energy 8 = .ok (.invokevirtual 256, 3) := by decide +kernel
theorem dX12_energy_11 : decode cX12_energy 11 = .ok (.ifCond .ne 6, 3) := by decide +kernel
theorem dX12_energy_14 : decode cX12_energy 14 = .ok (.bipush (-2), 2) := by decide +kernel
theorem dX12_energy_16 : decode cX12_energy 16 = .ok (.ireturn, 1) := by decide +kernel
theorem dX12_energy_17 : decode cX12_energy 17 = .ok (.aload_n 0, 1) := by decide +kernel
theorem dX12_energy_18 : decode cX12_energy 18 = .ok (.invokevirtual 260, 3) := by decide +kernel
theorem dX12_energy_21 : decode cX12_energy 21 = .ok (.iconst 0, 1) := by decide +kernel
theorem dX12_energy_22 : decode cX12_energy 22 = .ok (.istore_n 2, 1) := by decide +kernel
theorem dX12_energy_23 : decode cX12_energy 23 = .ok (.iload_n 2, 1) := by decide +kernel
theorem dX12_energy_24 : decode cX12_energy 24 = .ok (.bipush 8, 2) := by decide +kernel
theorem dX12_energy_26 : decode cX12_energy 26 = .ok (.if_icmp .ge 16, 3) := by decide +kernel
theorem dX12_energy_29 : decode cX12_energy 29 = .ok (.aload_n 0, 1) := by decide +kernel
theorem dX12_energy_30 : decode cX12_energy 30 = .ok (.getfield 75, 3) := by decide +kernel
theorem dX12_energy_33 : decode cX12_energy 33 = .ok (.iload_n 2, 1) := by decide +kernel
theorem dX12_energy_34 : decode cX12_energy 34 = .ok (.iconst 0, 1) := by decide +kernel
theorem dX12_energy_35 : decode cX12_energy 35 = .ok (.iastore, 1) := by decide +kernel
theorem dX12_energy_36 : decode cX12_energy 36 = .ok (.iinc 2 1, 3) := by decide +kernel
theorem dX12_energy_39 : decode cX12_energy 39 = .ok (.goto (-16), 3) := by decide +kernel
theorem dX12_energy_42 : decode cX12_energy 42 = .ok (.iconst 1, 1) := by decide +kernel
theorem dX12_energy_43 : decode cX12_energy 43 = .ok (.istore_n 2, 1) := by decide +kernel
theorem dX12_energy_44 : decode cX12_energy 44 = .ok (.iload_n 2, 1) := by decide +kernel
theorem dX12_energy_45 : decode cX12_energy 45 = .ok (.ifCond .eq 60, 3) := by decide +kernel
theorem dX12_energy_48 : decode cX12_energy 48 = .ok (.iconst 0, 1) := by decide +kernel
theorem dX12_energy_49 : decode cX12_energy 49 = .ok (.istore_n 2, 1) := by decide +kernel
theorem dX12_energy_50 : decode cX12_energy 50 = .ok (.iconst 0, 1) := by decide +kernel
theorem dX12_energy_51 : decode cX12_energy 51 = .ok (.istore_n 3, 1) := by decide +kernel
theorem dX12_energy_52 : decode cX12_energy 52 = .ok (.iload_n 3, 1) := by decide +kernel
theorem dX12_energy_53 : decode cX12_energy 53 = .ok (.aload_n 0, 1) := by decide +kernel
theorem dX12_energy_54 : decode cX12_energy 54 = .ok (.getfield 13, 3) := by decide +kernel
theorem dX12_energy_57 : decode cX12_energy 57 = .ok (.iconst 1, 1) := by decide +kernel
theorem dX12_energy_58 : decode cX12_energy 58 = .ok (.iaload, 1) := by decide +kernel
theorem dX12_energy_59 : decode cX12_energy 59 = .ok (.if_icmp .ge 43, 3) := by decide +kernel
theorem dX12_energy_62 : decode cX12_energy 62 = .ok (.aload_n 0, 1) := by decide +kernel
theorem dX12_energy_63 : decode cX12_energy 63 = .ok (.iload_n 3, 1) := by decide +kernel
theorem dX12_energy_64 : decode cX12_energy 64 = .ok (.invokevirtual 419, 3) := by decide +kernel
theorem dX12_energy_67 : decode cX12_energy 67 = .ok (.istore 4, 2) := by decide +kernel
theorem dX12_energy_69 : decode cX12_energy 69 = .ok (.iload_n 2, 1) := by decide +kernel
theorem dX12_energy_70 : decode cX12_energy 70 = .ok (.iload 4, 2) := by decide +kernel
theorem dX12_energy_72 : decode cX12_energy 72 = .ok (.aload_n 0, 1) := by decide +kernel
theorem dX12_energy_73 : decode cX12_energy 73 = .ok (.getfield 75, 3) := by decide +kernel
theorem dX12_energy_76 : decode cX12_energy 76 = .ok (.iload_n 3, 1) := by decide +kernel
theorem dX12_energy_77 : decode cX12_energy 77 = .ok (.iaload, 1) := by decide +kernel
theorem dX12_energy_78 : decode cX12_energy 78 = .ok (.if_icmp .eq 7, 3) := by decide +kernel
theorem dX12_energy_81 : decode cX12_energy 81 = .ok (.iconst 1, 1) := by decide +kernel
theorem dX12_energy_82 : decode cX12_energy 82 = .ok (.goto 4, 3) := by decide +kernel
theorem dX12_energy_85 : decode cX12_energy 85 = .ok (.iconst 0, 1) := by decide +kernel
theorem dX12_energy_86 : decode cX12_energy 86 = .ok (.ior, 1) := by decide +kernel
theorem dX12_energy_87 : decode cX12_energy 87 = .ok (.istore_n 2, 1) := by decide +kernel
theorem dX12_energy_88 : decode cX12_energy 88 = .ok (.aload_n 0, 1) := by decide +kernel
theorem dX12_energy_89 : decode cX12_energy 89 = .ok (.getfield 75, 3) := by decide +kernel
theorem dX12_energy_92 : decode cX12_energy 92 = .ok (.iload_n 3, 1) := by decide +kernel
theorem dX12_energy_93 : decode cX12_energy 93 = .ok (.iload 4, 2) := by decide +kernel
theorem dX12_energy_95 : decode cX12_energy 95 = .ok (.iastore, 1) := by decide +kernel
theorem dX12_energy_96 : decode cX12_energy 96 = .ok (.iinc 3 1, 3) := by decide +kernel
theorem dX12_energy_99 : decode cX12_energy 99 = .ok (.goto (-47), 3) := by decide +kernel
theorem dX12_energy_102 : decode cX12_energy 102 = .ok (.goto (-58), 3) := by decide +kernel
theorem dX12_energy_105 : decode cX12_energy 105 = .ok (.aload_n 0, 1) := by decide +kernel
theorem dX12_energy_106 : decode cX12_energy 106 = .ok (.getfield 75, 3) := by decide +kernel
theorem dX12_energy_109 : decode cX12_energy 109 = .ok (.iload_n 1, 1) := by decide +kernel
theorem dX12_energy_110 : decode cX12_energy 110 = .ok (.iaload, 1) := by decide +kernel
theorem dX12_energy_111 : decode cX12_energy 111 = .ok (.ldc_w 418, 3) := by decide +kernel
theorem dX12_energy_114 : decode cX12_energy 114 = .ok (.if_icmp .ne 7, 3) := by decide +kernel
theorem dX12_energy_117 : decode cX12_energy 117 = .ok (.iconst (-1), 1) := by decide +kernel
theorem dX12_energy_118 : decode cX12_energy 118 = .ok (.goto 9, 3) := by decide +kernel
theorem dX12_energy_121 : decode cX12_energy 121 = .ok (.aload_n 0, 1) := by decide +kernel
theorem dX12_energy_122 : decode cX12_energy 122 = .ok (.getfield 75, 3) := by decide +kernel
theorem dX12_energy_125 : decode cX12_energy 125 = .ok (.iload_n 1, 1) := by decide +kernel
theorem dX12_energy_126 : decode cX12_energy 126 = .ok (.iaload, 1) := by decide +kernel
theorem dX12_energy_127 : decode cX12_energy 127 = .ok (.ireturn, 1) := by decide +kernel
theorem ml_X12_419 : Cond.methodLink RX12 419 yX12_neededAt ∈ Wd := mW 1913 (by decide +kernel) rfl
theorem mk_X12_neededAt : MokV yX12_neededAt cX12_neededAt 5 (some .int) 1 := ⟨⟨mW 14 (by decide +kernel) rfl, mW 1916 (by decide +kernel) rfl, ⟨by decide, by decide, by decide +kernel⟩, by decide⟩, mW 1915 (by decide +kernel) rfl, mS (q := (yX12_neededAt, 46)) 105 (by decide +kernel)⟩
def M_energy_L23 (x1 : Int32) (K42 : Hp → Prop) : Nat → Int32 → Hp → Prop
  | 0, _, _ => False
  | n + 1, x2, h => (8 ≤ x2 → K42 h) ∧ (¬ 8 ≤ x2 → vp_in x2 8 ∧ ∀ h5 : Hp, h5 = sI h 118 (x2).toNatClampNeg 0 → ∀ v6 : Int32, v6 = (x2 + 1) → M_energy_L23 x1 K42 n v6 h5)
set_option maxHeartbeats 4000000 in
set_option maxRecDepth 20000 in
theorem gl_M_energy_L23 {G : Gx}  {x1 : Int32} {Q : Int32 → Hp → Prop} {K42 : Hp → Prop} (hK42 : ∀  (h1 : Hp), K42  h1 → Go cX12_energy 5 RX12 (some .int) 5 G (QI G Q) 42 [(0, .ref (gAd G 98)), (1, .int x1)] [] h1) : ∀ (n : Nat) (x2 : Int32) (h : Hp), M_energy_L23 x1 K42 n x2 h → Go cX12_energy 5 RX12 (some .int) 5 G (QI G Q) 23 [(0, .ref (gAd G 98)), (1, .int x1), (2, .int x2)] [] h := by
  intro n
  induction n with
  | zero => intro _ h hw; exact False.elim hw
  | succ n ih =>
    intro x2 h hw
    refine g_iload_n dX12_energy_23 rfl rfl ?_
    refine g_bipush (v := 8) dX12_energy_24 (by decide) ?_
    refine g_icmp_ge 42 dX12_energy_26 rfl (fun hc => ?_) (fun hc => ?_)
    · have hw := hw.1 hc
      refine g_lv [0, 1] rfl ?_
      exact hK42 _ hw
    · have hw := hw.2 hc
      refine g_aload_n dX12_energy_29 rfl rfl ?_
      refine g_getA dX12_energy_30 fl_X12_75 sh98 rfl ?_
      refine g_iload_n dX12_energy_33 rfl rfl ?_
      refine g_iconst (v := 0) dX12_energy_34 (by decide) ?_
      refine g_iast dX12_energy_35 ia118 al118 hw.1 ?_
      have hw := hw.2
      refine g_heap (fun h5 eh5 => ?_)
      have hw := hw h5 eh5
      obtain ⟨v6, ev6⟩ : ∃ y : Int32, y = (x2 + 1) := ⟨_, rfl⟩
      have hw := hw v6 ev6
      refine g_iinc dX12_energy_36 rfl (by rw [ev6]; rfl) (by decide) (lv1 := [(0, .ref (gAd G 98)), (1, .int x1), (2, .int v6)]) rfl ?_
      refine g_goto 23 dX12_energy_39 rfl ?_
      exact ih _ _ hw
def M_energy_L52 (x1 : Int32) (K102 : Int32 → Hp → Prop) : Nat → Int32 → Int32 → Hp → Prop
  | 0, _, _, _ => False
  | n + 1, x2, x3, h => ((gI h 99 1) ≤ x3 → K102 x2 h) ∧ (¬ (gI h 99 1) ≤ x3 → M_neededAt x3 h (fun r9 h10 => vp_in x3 8 ∧ ∀ J86 : Int32 → Hp → Prop, J86 = (fun s11 h12 => ∀ v13 : Int32, v13 = (x2 ||| s11) → vp_in x3 8 ∧ ∀ h14 : Hp, h14 = sI h12 118 (x3).toNatClampNeg r9 → ∀ v15 : Int32, v15 = (x3 + 1) → M_energy_L52 x1 K102 n v13 v15 h14) → (r9 = (gI h10 118 (x3).toNatClampNeg) → J86 0 h10) ∧ (¬ r9 = (gI h10 118 (x3).toNatClampNeg) → J86 1 h10)))
set_option maxHeartbeats 4000000 in
set_option maxRecDepth 20000 in
theorem gl_M_energy_L52 {G : Gx}  {x1 : Int32} {Q : Int32 → Hp → Prop} {K102 : Int32 → Hp → Prop} (hK102 : ∀ (y2 : Int32) (h1 : Hp), K102 y2 h1 → Go cX12_energy 5 RX12 (some .int) 5 G (QI G Q) 102 [(0, .ref (gAd G 98)), (1, .int x1), (2, .int y2)] [] h1) : ∀ (n : Nat) (x2 : Int32) (x3 : Int32) (h : Hp), M_energy_L52 x1 K102 n x2 x3 h → Go cX12_energy 5 RX12 (some .int) 5 G (QI G Q) 52 [(0, .ref (gAd G 98)), (1, .int x1), (2, .int x2), (3, .int x3)] [] h := by
  intro n
  induction n with
  | zero => intro _ _ h hw; exact False.elim hw
  | succ n ih =>
    intro x2 x3 h hw
    refine g_iload_n dX12_energy_52 rfl rfl ?_
    refine g_aload_n dX12_energy_53 rfl rfl ?_
    refine g_getA dX12_energy_54 fl_X12_13 sh98 rfl ?_
    refine g_iconst (v := 1) dX12_energy_57 (by decide) ?_
    refine g_ialdK dX12_energy_58 ia99 al99 (by unfold vp_in; decide) (k := 1) (by decide) ?_
    refine g_icmp_ge 102 dX12_energy_59 rfl (fun hc => ?_) (fun hc => ?_)
    · have hw := hw.1 hc
      refine g_lv [0, 1, 2] rfl ?_
      exact hK102 _ _ hw
    · have hw := hw.2 hc
      refine g_aload_n dX12_energy_62 rfl rfl ?_
      refine g_iload_n dX12_energy_63 rfl rfl ?_
      refine g_callVI [.int x3] (ci := 12) dX12_energy_64 ml_X12_419 mk_X12_neededAt rfl rfl sh98 (Nat.le_of_ble_eq_true rfl) (Nat.le_of_ble_eq_true rfl) rfl (c_M_neededAt hw) (fun r9 h10 hw => ?_)
      refine g_istore dX12_energy_67 (by decide) (lv1 := [(0, .ref (gAd G 98)), (1, .int x1), (2, .int x2), (3, .int x3), (4, .int r9)]) rfl ?_
      refine g_iload_n dX12_energy_69 rfl rfl ?_
      refine g_iload dX12_energy_70 rfl ?_
      refine g_aload_n dX12_energy_72 rfl rfl ?_
      refine g_getA dX12_energy_73 fl_X12_75 sh98 rfl ?_
      refine g_iload_n dX12_energy_76 rfl rfl ?_
      refine g_iald dX12_energy_77 ia118 al118 hw.1 ?_
      have hw := hw.2
      refine jn_el hw (fun J86 eJ86 hw => ?_)
      have hJ86 : ∀ (s11 : Int32) (h12 : Hp), J86 s11 h12 → Go cX12_energy 5 RX12 (some .int) 5 G (QI G Q) 86 [(0, .ref (gAd G 98)), (1, .int x1), (3, .int x3), (4, .int r9)] [.int s11, .int x2] h12 := by
        intro s11 h12 hw
        subst eJ86
        refine g_ior dX12_energy_86 ?_
        refine g_topi (fun v13 ev13 => ?_)
        have hw := hw v13 ev13
        refine g_istore_n dX12_energy_87 rfl (by decide) (lv1 := [(0, .ref (gAd G 98)), (1, .int x1), (2, .int v13), (3, .int x3), (4, .int r9)]) rfl ?_
        refine g_aload_n dX12_energy_88 rfl rfl ?_
        refine g_getA dX12_energy_89 fl_X12_75 sh98 rfl ?_
        refine g_iload_n dX12_energy_92 rfl rfl ?_
        refine g_iload dX12_energy_93 rfl ?_
        refine g_iast dX12_energy_95 ia118 al118 hw.1 ?_
        have hw := hw.2
        refine g_heap (fun h14 eh14 => ?_)
        have hw := hw h14 eh14
        obtain ⟨v15, ev15⟩ : ∃ y : Int32, y = (x3 + 1) := ⟨_, rfl⟩
        have hw := hw v15 ev15
        refine g_iinc dX12_energy_96 rfl (by rw [ev15]; rfl) (by decide) (lv1 := [(0, .ref (gAd G 98)), (1, .int x1), (2, .int v13), (3, .int v15), (4, .int r9)]) rfl ?_
        refine g_goto 52 dX12_energy_99 rfl ?_
        refine g_lv [0, 1, 2, 3] rfl ?_
        exact ih _ _ _ hw
      refine g_icmp_eq 85 dX12_energy_78 rfl (fun hc => ?_) (fun hc => ?_)
      · have hw := hw.1 hc
        refine g_iconst (v := 0) dX12_energy_85 (by decide) ?_
        refine g_lv [0, 1, 3, 4] rfl ?_
        exact hJ86 _ _ hw
      · have hw := hw.2 hc
        refine g_iconst (v := 1) dX12_energy_81 (by decide) ?_
        refine g_goto 86 dX12_energy_82 rfl ?_
        refine g_lv [0, 1, 3, 4] rfl ?_
        exact hJ86 _ _ hw
def M_energy_L44 (x1 : Int32) (K105 : Hp → Prop) : Nat → Int32 → Hp → Prop
  | 0, _, _ => False
  | n + 1, x2, h => (x2 = 0 → K105 h) ∧ (¬ x2 = 0 → ∃ n16, M_energy_L52 x1 (fun x2_17 h18 => M_energy_L44 x1 K105 n x2_17 h18) n16 0 0 h)
set_option maxHeartbeats 4000000 in
set_option maxRecDepth 20000 in
theorem gl_M_energy_L44 {G : Gx}  {x1 : Int32} {Q : Int32 → Hp → Prop} {K105 : Hp → Prop} (hK105 : ∀  (h1 : Hp), K105  h1 → Go cX12_energy 5 RX12 (some .int) 5 G (QI G Q) 105 [(0, .ref (gAd G 98)), (1, .int x1)] [] h1) : ∀ (n : Nat) (x2 : Int32) (h : Hp), M_energy_L44 x1 K105 n x2 h → Go cX12_energy 5 RX12 (some .int) 5 G (QI G Q) 44 [(0, .ref (gAd G 98)), (1, .int x1), (2, .int x2)] [] h := by
  intro n
  induction n with
  | zero => intro _ h hw; exact False.elim hw
  | succ n ih =>
    intro x2 h hw
    refine g_iload_n dX12_energy_44 rfl rfl ?_
    refine g_if_eq 105 dX12_energy_45 rfl (fun hc => ?_) (fun hc => ?_)
    · have hw := hw.1 hc
      refine g_lv [0, 1] rfl ?_
      exact hK105 _ hw
    · have hw := hw.2 hc
      refine g_iconst (v := 0) dX12_energy_48 (by decide) ?_
      refine g_istore_n dX12_energy_49 rfl (by decide) (lv1 := [(0, .ref (gAd G 98)), (1, .int x1), (2, .int 0)]) rfl ?_
      refine g_iconst (v := 0) dX12_energy_50 (by decide) ?_
      refine g_istore_n dX12_energy_51 rfl (by decide) (lv1 := [(0, .ref (gAd G 98)), (1, .int x1), (2, .int 0), (3, .int 0)]) rfl ?_
      obtain ⟨n16, hw⟩ := hw
      refine gl_M_energy_L52  ?_ _ _ _ _ hw
      · intro x2_17 h18 hw
        refine g_goto 44 dX12_energy_102 rfl ?_
        exact ih _ _ hw
def M_energy (x1 : Int32) (h : Hp) (Q : Int32 → Hp → Prop) : Prop := ∀ h1 : Hp, h1 = sI h 98 0 0 → M_isPlace ((x1).toInt64) h1 (fun r2 h3 => (¬ r2 = 0 → M_laysWays  h3 (fun h4 => ∃ n7, M_energy_L23 x1 (fun h8 => ∃ n19, M_energy_L44 x1 (fun h20 => vp_in x1 8 ∧ (¬ (gI h20 118 (x1).toNatClampNeg) = 268435456 → vp_in x1 8 ∧ Q (gI h20 118 (x1).toNatClampNeg) h20) ∧ ((gI h20 118 (x1).toNatClampNeg) = 268435456 → Q (-1) h20)) n19 1 h8) n7 0 h4)) ∧ (r2 = 0 → Q (-2) h3))
set_option maxHeartbeats 4000000 in
set_option maxRecDepth 20000 in
theorem c_M_energy {G : Gx}  {x1 : Int32} {h : Hp} {Q : Int32 → Hp → Prop} (hw : M_energy x1 h Q) : Ct yX12_energy cX12_energy 5 (some .int) 5 G [.ref (gAd G 98), .int x1] h (QI G Q) := by
  refine ct_go [(0, .ref (gAd G 98)), (1, .int x1)] (plainFor_of_name (by decide)) rfl (Nat.le_of_ble_eq_true rfl) rfl ?_
  refine g_aload_n dX12_energy_0 rfl rfl ?_
  refine g_iconst (v := 0) dX12_energy_1 (by decide) ?_
  refine g_putI dX12_energy_2 fl_X12_1 sh98 rfl rfl pf_12_0 ?_
  refine g_heap (fun h1 eh1 => ?_)
  have hw := hw h1 eh1
  refine g_aload_n dX12_energy_5 rfl rfl ?_
  refine g_iload_n dX12_energy_6 rfl rfl ?_
  refine g_i2l dX12_energy_7 ?_
  refine g_callVI [.long ((x1).toInt64)] (ci := 12) dX12_energy_8 ml_X12_256 mk_X12_isPlace rfl rfl sh98 (Nat.le_of_ble_eq_true rfl) (Nat.le_of_ble_eq_true rfl) rfl (c_M_isPlace hw) (fun r2 h3 hw => ?_)
  refine g_if_ne 17 dX12_energy_11 rfl (fun hc => ?_) (fun hc => ?_)
  · have hw := hw.1 hc
    refine g_aload_n dX12_energy_17 rfl rfl ?_
    refine g_callVV [] (ci := 12) dX12_energy_18 ml_X12_260 mk_X12_laysWays rfl rfl sh98 (Nat.le_of_ble_eq_true rfl) (Nat.le_of_ble_eq_true rfl) rfl (c_M_laysWays hw) (fun h4 hw => ?_)
    refine g_iconst (v := 0) dX12_energy_21 (by decide) ?_
    refine g_istore_n dX12_energy_22 rfl (by decide) (lv1 := [(0, .ref (gAd G 98)), (1, .int x1), (2, .int 0)]) rfl ?_
    obtain ⟨n7, hw⟩ := hw
    refine gl_M_energy_L23  ?_ _ _ _ hw
    · intro h8 hw
      refine g_iconst (v := 1) dX12_energy_42 (by decide) ?_
      refine g_istore_n dX12_energy_43 rfl (by decide) (lv1 := [(0, .ref (gAd G 98)), (1, .int x1), (2, .int 1)]) rfl ?_
      obtain ⟨n19, hw⟩ := hw
      refine gl_M_energy_L44  ?_ _ _ _ hw
      · intro h20 hw
        refine g_aload_n dX12_energy_105 rfl rfl ?_
        refine g_getA dX12_energy_106 fl_X12_75 sh98 rfl ?_
        refine g_iload_n dX12_energy_109 rfl rfl ?_
        refine g_iald dX12_energy_110 ia118 al118 hw.1 ?_
        have hw := hw.2
        refine g_ldcw dX12_energy_111 kc_X12_418 ?_
        refine g_icmp_ne 121 dX12_energy_114 rfl (fun hc => ?_) (fun hc => ?_)
        · have hw := hw.1 hc
          refine g_aload_n dX12_energy_121 rfl rfl ?_
          refine g_getA dX12_energy_122 fl_X12_75 sh98 rfl ?_
          refine g_iload_n dX12_energy_125 rfl rfl ?_
          refine g_iald dX12_energy_126 ia118 al118 hw.1 ?_
          have hw := hw.2
          exact g_iret dX12_energy_127 hw
        · have hw := hw.2 hc
          refine g_iconst (v := (-1)) dX12_energy_117 (by decide) ?_
          refine g_goto 127 dX12_energy_118 rfl ?_
          exact g_iret dX12_energy_127 hw
  · have hw := hw.2 hc
    refine g_bipush (v := (-2)) dX12_energy_14 (by decide) ?_
    exact g_iret dX12_energy_16 hw
theorem dX12_laysGoing_0 : decode cX12_laysGoing 0 = .ok (.aload_n 0, 1) := by decide +kernel
theorem dX12_laysGoing_1 : decode cX12_laysGoing 1 = .ok (.invokevirtual 260, 3) := by decide +kernel
theorem dX12_laysGoing_4 : decode cX12_laysGoing 4 = .ok (.iconst 0, 1) := by decide +kernel
theorem dX12_laysGoing_5 : decode cX12_laysGoing 5 = .ok (.istore_n 1, 1) := by decide +kernel
theorem dX12_laysGoing_6 : decode cX12_laysGoing 6 = .ok (.aload_n 0, 1) := by decide +kernel
theorem dX12_laysGoing_7 : decode cX12_laysGoing 7 = .ok (.getfield 13, 3) := by decide +kernel
theorem dX12_laysGoing_10 : decode cX12_laysGoing 10 = .ok (.bipush 58, 2) := by decide +kernel
theorem dX12_laysGoing_12 : decode cX12_laysGoing 12 = .ok (.iaload, 1) := by decide +kernel
theorem dX12_laysGoing_13 : decode cX12_laysGoing 13 = .ok (.istore_n 2, 1) := by decide +kernel
theorem dX12_laysGoing_14 : decode cX12_laysGoing 14 = .ok (.lconst 0, 1) := by decide +kernel
theorem dX12_laysGoing_15 : decode cX12_laysGoing 15 = .ok (.lstore_n 3, 1) := by decide +kernel
theorem dX12_laysGoing_16 : decode cX12_laysGoing 16 = .ok (.iconst 0, 1) := by decide +kernel
theorem dX12_laysGoing_17 : decode cX12_laysGoing 17 = .ok (.istore 5, 2) := by decide +kernel
theorem dX12_laysGoing_19 : decode cX12_laysGoing 19 = .ok (.iload_n 1, 1) := by decide +kernel
theorem dX12_laysGoing_20 : decode cX12_laysGoing 20 = .ok (.i2l, 1) := by decide +kernel
theorem dX12_laysGoing_21 : decode cX12_laysGoing 21 = .ok (.iload_n 2, 1) := by decide +kernel
theorem dX12_laysGoing_22 : decode cX12_laysGoing 22 = .ok (.invokestatic 228, 3) := by decide +kernel
theorem dX12_laysGoing_25 : decode cX12_laysGoing 25 = .ok (.ifCond .ne 56, 3) := by decide +kernel
theorem dX12_laysGoing_28 : decode cX12_laysGoing 28 = .ok (.iload_n 1, 1) := by decide +kernel
theorem dX12_laysGoing_29 : decode cX12_laysGoing 29 = .ok (.iconst 1, 1) := by decide +kernel
theorem dX12_laysGoing_30 : decode cX12_laysGoing 30 = .ok (.iload_n 2, 1) := by decide +kernel
theorem dX12_laysGoing_31 : decode cX12_laysGoing 31 = .ok (.ishl, 1) := by decide +kernel
theorem dX12_laysGoing_32 : decode cX12_laysGoing 32 = .ok (.ior, 1) := by decide +kernel
theorem dX12_laysGoing_33 : decode cX12_laysGoing 33 = .ok (.istore_n 1, 1) := by decide +kernel
theorem dX12_laysGoing_34 : decode cX12_laysGoing 34 = .ok (.aload_n 0, 1) := by decide +kernel
theorem dX12_laysGoing_35 : decode cX12_laysGoing 35 = .ok (.getfield 78, 3) := by decide +kernel
theorem dX12_laysGoing_38 : decode cX12_laysGoing 38 = .ok (.iload 5, 2) := by decide +kernel
theorem dX12_laysGoing_40 : decode cX12_laysGoing 40 = .ok (.iload_n 2, 1) := by decide +kernel
theorem dX12_laysGoing_41 : decode cX12_laysGoing 41 = .ok (.iastore, 1) := by decide +kernel
theorem dX12_laysGoing_42 : decode cX12_laysGoing 42 = .ok (.aload_n 0, 1) := by decide +kernel
theorem dX12_laysGoing_43 : decode cX12_laysGoing 43 = .ok (.getfield 81, 3) := by decide +kernel
theorem dX12_laysGoing_46 : decode cX12_laysGoing 46 = .ok (.iload 5, 2) := by decide +kernel
theorem dX12_laysGoing_48 : decode cX12_laysGoing 48 = .ok (.lload_n 3, 1) := by decide +kernel
theorem dX12_laysGoing_49 : decode cX12_laysGoing 49 = .ok (.lastore, 1) := by decide +kernel
theorem dX12_laysGoing_50 : decode cX12_laysGoing 50 = .ok (.iinc 5 1, 3) := by decide +kernel
theorem dX12_laysGoing_53 : decode cX12_laysGoing 53 = .ok (.lload_n 3, 1) := by decide +kernel
theorem dX12_laysGoing_54 : decode cX12_laysGoing 54 = .ok (.aload_n 0, 1) := by decide +kernel
theorem dX12_laysGoing_55 : decode cX12_laysGoing 55 = .ok (.getfield 42, 3) := by decide +kernel
theorem dX12_laysGoing_58 : decode cX12_laysGoing 58 = .ok (.aload_n 0, 1) := by decide +kernel
theorem dX12_laysGoing_59 : decode cX12_laysGoing 59 = .ok (.iload_n 2, 1) := by decide +kernel
theorem dX12_laysGoing_60 : decode cX12_laysGoing 60 = .ok (.invokevirtual 269, 3) := by decide +kernel
theorem dX12_laysGoing_63 : decode cX12_laysGoing 63 = .ok (.iaload, 1) := by decide +kernel
theorem dX12_laysGoing_64 : decode cX12_laysGoing 64 = .ok (.i2l, 1) := by decide +kernel
theorem dX12_laysGoing_65 : decode cX12_laysGoing 65 = .ok (.ladd, 1) := by decide +kernel
theorem dX12_laysGoing_66 : decode cX12_laysGoing 66 = .ok (.lstore_n 3, 1) := by decide +kernel
theorem dX12_laysGoing_67 : decode cX12_laysGoing 67 = .ok (.aload_n 0, 1) := by decide +kernel
theorem dX12_laysGoing_68 : decode cX12_laysGoing 68 = .ok (.getfield 39, 3) := by decide +kernel
theorem dX12_laysGoing_71 : decode cX12_laysGoing 71 = .ok (.aload_n 0, 1) := by decide +kernel
theorem dX12_laysGoing_72 : decode cX12_laysGoing 72 = .ok (.iload_n 2, 1) := by decide +kernel
theorem dX12_laysGoing_73 : decode cX12_laysGoing 73 = .ok (.invokevirtual 269, 3) := by decide +kernel
theorem dX12_laysGoing_76 : decode cX12_laysGoing 76 = .ok (.iaload, 1) := by decide +kernel
theorem dX12_laysGoing_77 : decode cX12_laysGoing 77 = .ok (.istore_n 2, 1) := by decide +kernel
theorem dX12_laysGoing_78 : decode cX12_laysGoing 78 = .ok (.goto (-59), 3) := by decide +kernel
theorem dX12_laysGoing_81 : decode cX12_laysGoing 81 = .ok (.aload_n 0, 1) := by decide +kernel
theorem dX12_laysGoing_82 : decode cX12_laysGoing 82 = .ok (.getfield 78, 3) := by decide +kernel
theorem dX12_laysGoing_85 : decode cX12_laysGoing 85 = .ok (.iload 5, 2) := by decide +kernel
theorem dX12_laysGoing_87 : decode cX12_laysGoing 87 = .ok (.iload_n 2, 1) := by decide +kernel
theorem dX12_laysGoing_88 : decode cX12_laysGoing 88 = .ok (.iastore, 1) := by decide +kernel
theorem dX12_laysGoing_89 : decode cX12_laysGoing 89 = .ok (.aload_n 0, 1) := by decide +kernel
theorem dX12_laysGoing_90 : decode cX12_laysGoing 90 = .ok (.getfield 81, 3) := by decide +kernel
theorem dX12_laysGoing_93 : decode cX12_laysGoing 93 = .ok (.iload 5, 2) := by decide +kernel
theorem dX12_laysGoing_95 : decode cX12_laysGoing 95 = .ok (.lload_n 3, 1) := by decide +kernel
theorem dX12_laysGoing_96 : decode cX12_laysGoing 96 = .ok (.lastore, 1) := by decide +kernel
theorem dX12_laysGoing_97 : decode cX12_laysGoing 97 = .ok (.aload_n 0, 1) := by decide +kernel
theorem dX12_laysGoing_98 : decode cX12_laysGoing 98 = .ok (.iconst 0, 1) := by decide +kernel
theorem dX12_laysGoing_99 : decode cX12_laysGoing 99 = .ok (.putfield 422, 3) := by decide +kernel
theorem dX12_laysGoing_102 : decode cX12_laysGoing 102 = .ok (.aload_n 0, 1) := by decide +kernel
theorem dX12_laysGoing_103 : decode cX12_laysGoing 103 = .ok (.getfield 78, 3) := by decide +kernel
theorem dX12_laysGoing_106 : decode cX12_laysGoing 106 = .ok (.aload_n 0, 1) := by decide +kernel
theorem dX12_laysGoing_107 : decode cX12_laysGoing 107 = .ok (.getfield 422, 3) := by decide +kernel
theorem dX12_laysGoing_110 : decode cX12_laysGoing 110 = .ok (.iaload, 1) := by decide +kernel
theorem dX12_laysGoing_111 : decode cX12_laysGoing 111 = .ok (.iload_n 2, 1) := by decide +kernel
theorem dX12_laysGoing_112 : decode cX12_laysGoing 112 = .ok (.if_icmp .eq 16, 3) := by decide +kernel
theorem dX12_laysGoing_115 : decode cX12_laysGoing 115 = .ok (.aload_n 0, 1) := by decide +kernel
theorem dX12_laysGoing_116 : decode cX12_laysGoing 116 = .ok (.dup, 1) := by decide +kernel
theorem dX12_laysGoing_117 : decode cX12_laysGoing 117 = .ok (.getfield 422, 3) := by decide +kernel
theorem dX12_laysGoing_120 : decode cX12_laysGoing 120 = .ok (.iconst 1, 1) := by decide +kernel
theorem dX12_laysGoing_121 : decode cX12_laysGoing 121 = .ok (.iadd, 1) := by decide +kernel
theorem dX12_laysGoing_122 : decode cX12_laysGoing 122 = .ok (.putfield 422, 3) := by decide +kernel
theorem dX12_laysGoing_125 : decode cX12_laysGoing 125 = .ok (.goto (-23), 3) := by decide +kernel
theorem dX12_laysGoing_128 : decode cX12_laysGoing 128 = .ok (.aload_n 0, 1) := by decide +kernel
theorem dX12_laysGoing_129 : decode cX12_laysGoing 129 = .ok (.iload 5, 2) := by decide +kernel
theorem dX12_laysGoing_131 : decode cX12_laysGoing 131 = .ok (.aload_n 0, 1) := by decide +kernel
theorem dX12_laysGoing_132 : decode cX12_laysGoing 132 = .ok (.getfield 422, 3) := by decide +kernel
theorem dX12_laysGoing_135 : decode cX12_laysGoing 135 = .ok (.isub, 1) := by decide +kernel
theorem dX12_laysGoing_136 : decode cX12_laysGoing 136 = .ok (.putfield 425, 3) := by decide +kernel
theorem dX12_laysGoing_139 : decode cX12_laysGoing 139 = .ok (.return_, 1) := by decide +kernel
theorem fl_X12_78 : FLk RX12 78 12 34 := ⟨_, rfl, by decide, mW 1416 (by decide +kernel) rfl⟩
theorem fl_X12_81 : FLk RX12 81 12 35 := ⟨_, rfl, by decide, mW 1417 (by decide +kernel) rfl⟩
theorem fl_X12_422 : FLk RX12 422 12 36 := ⟨_, rfl, by decide, mW 1418 (by decide +kernel) rfl⟩
theorem pf_12_36 : parseFieldDescriptor (uD 12 36) = some .int := by decide +kernel
theorem fl_X12_425 : FLk RX12 425 12 37 := ⟨_, rfl, by decide, mW 1419 (by decide +kernel) rfl⟩
theorem pf_12_37 : parseFieldDescriptor (uD 12 37) = some .int := by decide +kernel
def M_laysGoing_L19 (K81 : Int32 → Int64 → Int32 → Hp → Prop) : Nat → Int32 → Int32 → Int64 → Int32 → Hp → Prop
  | 0, _, _, _, _, _ => False
  | n + 1, x1, x2, x3, x5, h => M_isIn ((x1).toInt64) x2 h (fun r3 h4 => (¬ r3 = 0 → K81 x2 x3 x5 h4) ∧ (r3 = 0 → ∀ v5 : Int32, v5 = (x1 ||| ((1 : Int32) <<< (x2 &&& 31))) → vp_in x5 9 ∧ ∀ h6 : Hp, h6 = sI h4 119 (x5).toNatClampNeg x2 → vp_in x5 9 ∧ ∀ h7 : Hp, h7 = sJ h6 120 (x5).toNatClampNeg x3 → ∀ v8 : Int32, v8 = (x5 + 1) → M_planned x2 h7 (fun r9 h10 => vp_in r9 24 ∧ ∀ v11 : Int64, v11 = (x3 + (((gI h10 107 (r9).toNatClampNeg)).toInt64)) → M_planned x2 h10 (fun r12 h13 => vp_in r12 24 ∧ ∀ v14 : Int32, v14 = (gI h13 106 (r12).toNatClampNeg) → M_laysGoing_L19 K81 n v5 v14 v11 v8 h13))))
set_option maxHeartbeats 4000000 in
set_option maxRecDepth 20000 in
theorem gl_M_laysGoing_L19 {G : Gx}  {Q : Hp → Prop} {K81 : Int32 → Int64 → Int32 → Hp → Prop} (hK81 : ∀ (y2 : Int32) (y3 : Int64) (y5 : Int32) (h1 : Hp), K81 y2 y3 y5 h1 → Go cX12_laysGoing 6 RX12 none 5 G (QV G Q) 81 [(0, .ref (gAd G 98)), (2, .int y2), (3, .long y3), (5, .int y5)] [] h1) : ∀ (n : Nat) (x1 : Int32) (x2 : Int32) (x3 : Int64) (x5 : Int32) (h : Hp), M_laysGoing_L19 K81 n x1 x2 x3 x5 h → Go cX12_laysGoing 6 RX12 none 5 G (QV G Q) 19 [(0, .ref (gAd G 98)), (1, .int x1), (2, .int x2), (3, .long x3), (5, .int x5)] [] h := by
  intro n
  induction n with
  | zero => intro _ _ _ _ h hw; exact False.elim hw
  | succ n ih =>
    intro x1 x2 x3 x5 h hw
    refine g_iload_n dX12_laysGoing_19 rfl rfl ?_
    refine g_i2l dX12_laysGoing_20 ?_
    refine g_iload_n dX12_laysGoing_21 rfl rfl ?_
    refine g_callSI [.long ((x1).toInt64), .int x2] dX12_laysGoing_22 ml_X12_228 mk_X12_isIn rfl (Nat.le_of_ble_eq_true rfl) (Nat.le_of_ble_eq_true rfl) rfl (c_M_isIn hw) (fun r3 h4 hw => ?_)
    refine g_if_ne 81 dX12_laysGoing_25 rfl (fun hc => ?_) (fun hc => ?_)
    · have hw := hw.1 hc
      refine g_lv [0, 2, 3, 4] rfl ?_
      exact hK81 _ _ _ _ hw
    · have hw := hw.2 hc
      refine g_iload_n dX12_laysGoing_28 rfl rfl ?_
      refine g_iconst (v := 1) dX12_laysGoing_29 (by decide) ?_
      refine g_iload_n dX12_laysGoing_30 rfl rfl ?_
      refine g_ishl dX12_laysGoing_31 ?_
      refine g_ior dX12_laysGoing_32 ?_
      refine g_topi (fun v5 ev5 => ?_)
      have hw := hw v5 ev5
      refine g_istore_n dX12_laysGoing_33 rfl (by decide) (lv1 := [(0, .ref (gAd G 98)), (1, .int v5), (2, .int x2), (3, .long x3), (5, .int x5)]) rfl ?_
      refine g_aload_n dX12_laysGoing_34 rfl rfl ?_
      refine g_getA dX12_laysGoing_35 fl_X12_78 sh98 rfl ?_
      refine g_iload dX12_laysGoing_38 rfl ?_
      refine g_iload_n dX12_laysGoing_40 rfl rfl ?_
      refine g_iast dX12_laysGoing_41 ia119 al119 hw.1 ?_
      have hw := hw.2
      refine g_heap (fun h6 eh6 => ?_)
      have hw := hw h6 eh6
      refine g_aload_n dX12_laysGoing_42 rfl rfl ?_
      refine g_getA dX12_laysGoing_43 fl_X12_81 sh98 rfl ?_
      refine g_iload dX12_laysGoing_46 rfl ?_
      refine g_lload_n dX12_laysGoing_48 rfl rfl ?_
      refine g_last dX12_laysGoing_49 ia120 al120 hw.1 ?_
      have hw := hw.2
      refine g_heap (fun h7 eh7 => ?_)
      have hw := hw h7 eh7
      obtain ⟨v8, ev8⟩ : ∃ y : Int32, y = (x5 + 1) := ⟨_, rfl⟩
      have hw := hw v8 ev8
      refine g_iinc dX12_laysGoing_50 rfl (by rw [ev8]; rfl) (by decide) (lv1 := [(0, .ref (gAd G 98)), (1, .int v5), (2, .int x2), (3, .long x3), (5, .int v8)]) rfl ?_
      refine g_lload_n dX12_laysGoing_53 rfl rfl ?_
      refine g_aload_n dX12_laysGoing_54 rfl rfl ?_
      refine g_getA dX12_laysGoing_55 fl_X12_42 sh98 rfl ?_
      refine g_aload_n dX12_laysGoing_58 rfl rfl ?_
      refine g_iload_n dX12_laysGoing_59 rfl rfl ?_
      refine g_callVI [.int x2] (ci := 12) dX12_laysGoing_60 ml_X12_269 mk_X12_planned rfl rfl sh98 (Nat.le_of_ble_eq_true rfl) (Nat.le_of_ble_eq_true rfl) rfl (c_M_planned hw) (fun r9 h10 hw => ?_)
      refine g_iald dX12_laysGoing_63 ia107 al107 hw.1 ?_
      have hw := hw.2
      refine g_i2l dX12_laysGoing_64 ?_
      refine g_ladd dX12_laysGoing_65 ?_
      refine g_topj (fun v11 ev11 => ?_)
      have hw := hw v11 ev11
      refine g_lstore_n dX12_laysGoing_66 rfl (by decide) (lv1 := [(0, .ref (gAd G 98)), (1, .int v5), (2, .int x2), (3, .long v11), (5, .int v8)]) rfl ?_
      refine g_aload_n dX12_laysGoing_67 rfl rfl ?_
      refine g_getA dX12_laysGoing_68 fl_X12_39 sh98 rfl ?_
      refine g_aload_n dX12_laysGoing_71 rfl rfl ?_
      refine g_iload_n dX12_laysGoing_72 rfl rfl ?_
      refine g_callVI [.int x2] (ci := 12) dX12_laysGoing_73 ml_X12_269 mk_X12_planned rfl rfl sh98 (Nat.le_of_ble_eq_true rfl) (Nat.le_of_ble_eq_true rfl) rfl (c_M_planned hw) (fun r12 h13 hw => ?_)
      refine g_iald dX12_laysGoing_76 ia106 al106 hw.1 ?_
      have hw := hw.2
      refine g_topi (fun v14 ev14 => ?_)
      have hw := hw v14 ev14
      refine g_istore_n dX12_laysGoing_77 rfl (by decide) (lv1 := [(0, .ref (gAd G 98)), (1, .int v5), (2, .int v14), (3, .long v11), (5, .int v8)]) rfl ?_
      refine g_goto 19 dX12_laysGoing_78 rfl ?_
      exact ih _ _ _ _ _ hw
def M_laysGoing_L102 (x2 : Int32) (x5 : Int32) (Q : Hp → Prop) : Nat → Hp → Prop
  | 0, _ => False
  | n + 1, h => vp_in (gI h 98 36) 9 ∧ ((gI h 119 ((gI h 98 36)).toNatClampNeg) = x2 → ∀ h23 : Hp, h23 = sI h 98 37 (x5 - (gI h 98 36)) → Q h23) ∧ (¬ (gI h 119 ((gI h 98 36)).toNatClampNeg) = x2 → ∀ h24 : Hp, h24 = sI h 98 36 ((gI h 98 36) + 1) → M_laysGoing_L102 x2 x5 Q n  h24)
set_option maxHeartbeats 4000000 in
set_option maxRecDepth 20000 in
theorem gl_M_laysGoing_L102 {G : Gx}  {x2 : Int32} {x5 : Int32} {Q : Hp → Prop} : ∀ (n : Nat)  (h : Hp), M_laysGoing_L102 x2 x5 Q n  h → Go cX12_laysGoing 6 RX12 none 5 G (QV G Q) 102 [(0, .ref (gAd G 98)), (2, .int x2), (5, .int x5)] [] h := by
  intro n
  induction n with
  | zero => intro  h hw; exact False.elim hw
  | succ n ih =>
    intro  h hw
    refine g_aload_n dX12_laysGoing_102 rfl rfl ?_
    refine g_getA dX12_laysGoing_103 fl_X12_78 sh98 rfl ?_
    refine g_aload_n dX12_laysGoing_106 rfl rfl ?_
    refine g_getI dX12_laysGoing_107 fl_X12_422 sh98 rfl ?_
    refine g_iald dX12_laysGoing_110 ia119 al119 hw.1 ?_
    have hw := hw.2
    refine g_iload_n dX12_laysGoing_111 rfl rfl ?_
    refine g_icmp_eq 128 dX12_laysGoing_112 rfl (fun hc => ?_) (fun hc => ?_)
    · have hw := hw.1 hc
      refine g_aload_n dX12_laysGoing_128 rfl rfl ?_
      refine g_iload dX12_laysGoing_129 rfl ?_
      refine g_aload_n dX12_laysGoing_131 rfl rfl ?_
      refine g_getI dX12_laysGoing_132 fl_X12_422 sh98 rfl ?_
      refine g_isub dX12_laysGoing_135 ?_
      refine g_putI dX12_laysGoing_136 fl_X12_425 sh98 rfl rfl pf_12_37 ?_
      refine g_heap (fun h23 eh23 => ?_)
      have hw := hw h23 eh23
      exact g_vret dX12_laysGoing_139 hw
    · have hw := hw.2 hc
      refine g_aload_n dX12_laysGoing_115 rfl rfl ?_
      refine g_dup dX12_laysGoing_116 rfl ?_
      refine g_getI dX12_laysGoing_117 fl_X12_422 sh98 rfl ?_
      refine g_iconst (v := 1) dX12_laysGoing_120 (by decide) ?_
      refine g_iadd dX12_laysGoing_121 ?_
      refine g_putI dX12_laysGoing_122 fl_X12_422 sh98 rfl rfl pf_12_36 ?_
      refine g_heap (fun h24 eh24 => ?_)
      have hw := hw h24 eh24
      refine g_goto 102 dX12_laysGoing_125 rfl ?_
      exact ih _ hw
def M_laysGoing  (h : Hp) (Q : Hp → Prop) : Prop := M_laysWays  h (fun h1 => ∀ v2 : Int32, v2 = (gI h1 99 58) → ∃ n15, M_laysGoing_L19 (fun x2_16 x3_17 x5_18 h19 => vp_in x5_18 9 ∧ ∀ h20 : Hp, h20 = sI h19 119 (x5_18).toNatClampNeg x2_16 → vp_in x5_18 9 ∧ ∀ h21 : Hp, h21 = sJ h20 120 (x5_18).toNatClampNeg x3_17 → ∀ h22 : Hp, h22 = sI h21 98 36 0 → ∃ n25, M_laysGoing_L102 x2_16 x5_18 Q n25  h22) n15 0 v2 (0 : Int64) 0 h1)
set_option maxHeartbeats 4000000 in
set_option maxRecDepth 20000 in
theorem c_M_laysGoing {G : Gx}   {h : Hp} {Q : Hp → Prop} (hw : M_laysGoing  h Q) : Ct yX12_laysGoing cX12_laysGoing 6 none 5 G [.ref (gAd G 98)] h (QV G Q) := by
  refine ct_go [(0, .ref (gAd G 98))] (plainFor_of_name (by decide)) rfl (Nat.le_of_ble_eq_true rfl) rfl ?_
  refine g_aload_n dX12_laysGoing_0 rfl rfl ?_
  refine g_callVV [] (ci := 12) dX12_laysGoing_1 ml_X12_260 mk_X12_laysWays rfl rfl sh98 (Nat.le_of_ble_eq_true rfl) (Nat.le_of_ble_eq_true rfl) rfl (c_M_laysWays hw) (fun h1 hw => ?_)
  refine g_iconst (v := 0) dX12_laysGoing_4 (by decide) ?_
  refine g_istore_n dX12_laysGoing_5 rfl (by decide) (lv1 := [(0, .ref (gAd G 98)), (1, .int 0)]) rfl ?_
  refine g_aload_n dX12_laysGoing_6 rfl rfl ?_
  refine g_getA dX12_laysGoing_7 fl_X12_13 sh98 rfl ?_
  refine g_bipush (v := 58) dX12_laysGoing_10 (by decide) ?_
  refine g_ialdK dX12_laysGoing_12 ia99 al99 (by unfold vp_in; decide) (k := 58) (by decide) ?_
  refine g_topi (fun v2 ev2 => ?_)
  have hw := hw v2 ev2
  refine g_istore_n dX12_laysGoing_13 rfl (by decide) (lv1 := [(0, .ref (gAd G 98)), (1, .int 0), (2, .int v2)]) rfl ?_
  refine g_lconst (v := (0 : Int64)) dX12_laysGoing_14 (by decide) ?_
  refine g_lstore_n dX12_laysGoing_15 rfl (by decide) (lv1 := [(0, .ref (gAd G 98)), (1, .int 0), (2, .int v2), (3, .long (0 : Int64))]) rfl ?_
  refine g_iconst (v := 0) dX12_laysGoing_16 (by decide) ?_
  refine g_istore dX12_laysGoing_17 (by decide) (lv1 := [(0, .ref (gAd G 98)), (1, .int 0), (2, .int v2), (3, .long (0 : Int64)), (5, .int 0)]) rfl ?_
  obtain ⟨n15, hw⟩ := hw
  refine gl_M_laysGoing_L19  ?_ _ _ _ _ _ _ hw
  · intro x2_16 x3_17 x5_18 h19 hw
    refine g_aload_n dX12_laysGoing_81 rfl rfl ?_
    refine g_getA dX12_laysGoing_82 fl_X12_78 sh98 rfl ?_
    refine g_iload dX12_laysGoing_85 rfl ?_
    refine g_iload_n dX12_laysGoing_87 rfl rfl ?_
    refine g_iast dX12_laysGoing_88 ia119 al119 hw.1 ?_
    have hw := hw.2
    refine g_heap (fun h20 eh20 => ?_)
    have hw := hw h20 eh20
    refine g_aload_n dX12_laysGoing_89 rfl rfl ?_
    refine g_getA dX12_laysGoing_90 fl_X12_81 sh98 rfl ?_
    refine g_iload dX12_laysGoing_93 rfl ?_
    refine g_lload_n dX12_laysGoing_95 rfl rfl ?_
    refine g_last dX12_laysGoing_96 ia120 al120 hw.1 ?_
    have hw := hw.2
    refine g_heap (fun h21 eh21 => ?_)
    have hw := hw h21 eh21
    refine g_aload_n dX12_laysGoing_97 rfl rfl ?_
    refine g_iconst (v := 0) dX12_laysGoing_98 (by decide) ?_
    refine g_putI dX12_laysGoing_99 fl_X12_422 sh98 rfl rfl pf_12_36 ?_
    refine g_heap (fun h22 eh22 => ?_)
    have hw := hw h22 eh22
    obtain ⟨n25, hw⟩ := hw
    refine g_lv [0, 1, 3] rfl ?_
    refine gl_M_laysGoing_L102   _ _ hw
theorem dX12_placeIn_0 : decode cX12_placeIn 0 = .ok (.aload_n 0, 1) := by decide +kernel
theorem dX12_placeIn_1 : decode cX12_placeIn 1 = .ok (.getfield 78, 3) := by decide +kernel
theorem dX12_placeIn_4 : decode cX12_placeIn 4 = .ok (.lload_n 1, 1) := by decide +kernel
theorem dX12_placeIn_5 : decode cX12_placeIn 5 = .ok (.aload_n 0, 1) := by decide +kernel
theorem dX12_placeIn_6 : decode cX12_placeIn 6 = .ok (.getfield 422, 3) := by decide +kernel
theorem dX12_placeIn_9 : decode cX12_placeIn 9 = .ok (.i2l, 1) := by decide +kernel
theorem dX12_placeIn_10 : decode cX12_placeIn 10 = .ok (.lcmp, 1) := by decide +kernel
theorem dX12_placeIn_11 : decode cX12_placeIn 11 = .ok (.ifCond .ge 8, 3) := by decide +kernel
theorem dX12_placeIn_14 : decode cX12_placeIn 14 = .ok (.lload_n 1, 1) := by decide +kernel
theorem dX12_placeIn_15 : decode cX12_placeIn 15 = .ok (.l2i, 1) := by decide +kernel
theorem dX12_placeIn_16 : decode cX12_placeIn 16 = .ok (.goto 22, 3) := by decide +kernel
theorem dX12_placeIn_19 : decode cX12_placeIn 19 = .ok (.aload_n 0, 1) := by decide +kernel
theorem dX12_placeIn_20 : decode cX12_placeIn 20 = .ok (.getfield 422, 3) := by decide +kernel
theorem dX12_placeIn_23 : decode cX12_placeIn 23 = .ok (.lload_n 1, 1) := by decide +kernel
theorem dX12_placeIn_24 : decode cX12_placeIn 24 = .ok (.aload_n 0, 1) := by decide +kernel
theorem dX12_placeIn_25 : decode cX12_placeIn 25 = .ok (.getfield 422, 3) := by decide +kernel
theorem dX12_placeIn_28 : decode cX12_placeIn 28 = .ok (.i2l, 1) := by decide +kernel
theorem dX12_placeIn_29 : decode cX12_placeIn 29 = .ok (.lsub, 1) := by decide +kernel
theorem dX12_placeIn_30 : decode cX12_placeIn 30 = .ok (.aload_n 0, 1) := by decide +kernel
theorem dX12_placeIn_31 : decode cX12_placeIn 31 = .ok (.getfield 425, 3) := by decide +kernel
theorem dX12_placeIn_34 : decode cX12_placeIn 34 = .ok (.i2l, 1) := by decide +kernel
theorem dX12_placeIn_35 : decode cX12_placeIn 35 = .ok (.lrem, 1) := by decide +kernel
theorem dX12_placeIn_36 : decode cX12_placeIn 36 = .ok (.l2i, 1) := by decide +kernel
theorem dX12_placeIn_37 : decode cX12_placeIn 37 = .ok (.iadd, 1) := by decide +kernel
theorem dX12_placeIn_38 : decode cX12_placeIn 38 = .ok (.iaload, 1) := by decide +kernel
theorem dX12_placeIn_39 : decode cX12_placeIn 39 = .ok (.ireturn, 1) := by decide +kernel
def M_placeIn (x1 : Int64) (h : Hp) (Q : Int32 → Hp → Prop) : Prop := ∀ J38 : Int32 → Hp → Prop, J38 = (fun s1 h2 => vp_in s1 9 ∧ Q (gI h2 119 (s1).toNatClampNeg) h2) → ((((gI h 98 36)).toInt64) ≤ x1 → ¬ (((gI h 98 37)).toInt64) = 0 ∧ J38 ((gI h 98 36) + ((((x1 - (((gI h 98 36)).toInt64)) - (x1 - (((gI h 98 36)).toInt64)) / (((gI h 98 37)).toInt64) * (((gI h 98 37)).toInt64))).toInt32)) h) ∧ (¬ (((gI h 98 36)).toInt64) ≤ x1 → J38 ((x1).toInt32) h)
set_option maxHeartbeats 4000000 in
set_option maxRecDepth 20000 in
theorem c_M_placeIn {G : Gx}  {x1 : Int64} {h : Hp} {Q : Int32 → Hp → Prop} (hw : M_placeIn x1 h Q) : Ct yX12_placeIn cX12_placeIn 3 (some .int) 1 G [.ref (gAd G 98), .long x1] h (QI G Q) := by
  refine ct_go [(0, .ref (gAd G 98)), (1, .long x1)] (plainFor_of_name (by decide)) rfl (Nat.le_of_ble_eq_true rfl) rfl ?_
  refine g_aload_n dX12_placeIn_0 rfl rfl ?_
  refine g_getA dX12_placeIn_1 fl_X12_78 sh98 rfl ?_
  refine g_lload_n dX12_placeIn_4 rfl rfl ?_
  refine g_aload_n dX12_placeIn_5 rfl rfl ?_
  refine g_getI dX12_placeIn_6 fl_X12_422 sh98 rfl ?_
  refine g_i2l dX12_placeIn_9 ?_
  refine jn_el hw (fun J38 eJ38 hw => ?_)
  have hJ38 : ∀ (s1 : Int32) (h2 : Hp), J38 s1 h2 → Go cX12_placeIn 3 RX12 (some .int) 1 G (QI G Q) 38 [] [.int s1, .ref (gAd G 119)] h2 := by
    intro s1 h2 hw
    subst eJ38
    refine g_iald dX12_placeIn_38 ia119 al119 hw.1 ?_
    have hw := hw.2
    exact g_iret dX12_placeIn_39 hw
  refine g_lc_ge 19 dX12_placeIn_10 dX12_placeIn_11 rfl (fun hc => ?_) (fun hc => ?_)
  · have hw := hw.1 hc
    refine g_aload_n dX12_placeIn_19 rfl rfl ?_
    refine g_getI dX12_placeIn_20 fl_X12_422 sh98 rfl ?_
    refine g_lload_n dX12_placeIn_23 rfl rfl ?_
    refine g_aload_n dX12_placeIn_24 rfl rfl ?_
    refine g_getI dX12_placeIn_25 fl_X12_422 sh98 rfl ?_
    refine g_i2l dX12_placeIn_28 ?_
    refine g_lsub dX12_placeIn_29 ?_
    refine g_aload_n dX12_placeIn_30 rfl rfl ?_
    refine g_getI dX12_placeIn_31 fl_X12_425 sh98 rfl ?_
    refine g_i2l dX12_placeIn_34 ?_
    refine g_lrem dX12_placeIn_35 hw.1 ?_
    have hw := hw.2
    refine g_l2i dX12_placeIn_36 ?_
    refine g_iadd dX12_placeIn_37 ?_
    refine g_lv [] rfl ?_
    exact hJ38 _ _ hw
  · have hw := hw.2 hc
    refine g_lload_n dX12_placeIn_14 rfl rfl ?_
    refine g_l2i dX12_placeIn_15 ?_
    refine g_goto 38 dX12_placeIn_16 rfl ?_
    refine g_lv [] rfl ?_
    exact hJ38 _ _ hw
theorem dX12_at_0 : decode cX12_at 0 = .ok (.aload_n 0, 1) := by decide +kernel
theorem dX12_at_1 : decode cX12_at 1 = .ok (.iconst 0, 1) := by decide +kernel
theorem dX12_at_2 : decode cX12_at 2 = .ok (.putfield 1, 3) := by decide +kernel
theorem dX12_at_5 : decode cX12_at 5 = .ok (.lload_n 1, 1) := by decide +kernel
theorem dX12_at_6 : decode cX12_at 6 = .ok (.lconst 0, 1) := by decide +kernel
theorem dX12_at_7 : decode cX12_at 7 = .ok (.ldc2_w 428, 3) := by decide +kernel
theorem dX12_at_10 : decode cX12_at 10 = .ok (.invokestatic 169, 3) := by decide +kernel
theorem dX12_at_13 : decode cX12_at 13 = .ok (.ifCond .ne 6, 3) := by decide +kernel
theorem dX12_at_16 : decode cX12_at 16 = .ok (.bipush (-3), 2) := by decide +kernel
theorem dX12_at_18 : decode cX12_at 18 = .ok (.ireturn, 1) := by decide +kernel
theorem dX12_at_19 : decode cX12_at 19 = .ok (.aload_n 0, 1) := by decide +kernel
theorem dX12_at_20 : decode cX12_at 20 = .ok (.invokevirtual 430, 3) := by decide +kernel
theorem dX12_at_23 : decode cX12_at 23 = .ok (.aload_n 0, 1) := by decide +kernel
theorem dX12_at_24 : decode cX12_at 24 = .ok (.lload_n 1, 1) := by decide +kernel
theorem dX12_at_25 : decode cX12_at 25 = .ok (.invokevirtual 433, 3) := by decide +kernel
theorem dX12_at_28 : decode cX12_at 28 = .ok (.ireturn, 1) := by decide +kernel
theorem kl_X12_428 : Cond.constantLong RX12 428 (1000000000000000) ∈ Wd := mW 1922 (by decide +kernel) rfl
theorem ml_X12_430 : Cond.methodLink RX12 430 yX12_laysGoing ∈ Wd := mW 1923 (by decide +kernel) rfl
theorem mk_X12_laysGoing : MokV yX12_laysGoing cX12_laysGoing 6 none 0 := ⟨⟨mW 14 (by decide +kernel) rfl, mW 1926 (by decide +kernel) rfl, ⟨by decide, by decide, by decide +kernel⟩, by decide⟩, mW 1925 (by decide +kernel) rfl, mS (q := (yX12_laysGoing, 46)) 106 (by decide +kernel)⟩
theorem ml_X12_433 : Cond.methodLink RX12 433 yX12_placeIn ∈ Wd := mW 1927 (by decide +kernel) rfl
theorem mk_X12_placeIn : MokV yX12_placeIn cX12_placeIn 3 (some .int) 1 := ⟨⟨mW 14 (by decide +kernel) rfl, mW 1930 (by decide +kernel) rfl, ⟨by decide, by decide, by decide +kernel⟩, by decide⟩, mW 1929 (by decide +kernel) rfl, mS (q := (yX12_placeIn, 46)) 107 (by decide +kernel)⟩
def M_at (x1 : Int64) (h : Hp) (Q : Int32 → Hp → Prop) : Prop := ∀ h1 : Hp, h1 = sI h 98 0 0 → M_within x1 (0 : Int64) (1000000000000000 : Int64) h1 (fun r2 h3 => (¬ r2 = 0 → M_laysGoing  h3 (fun h4 => M_placeIn x1 h4 (fun r5 h6 => Q r5 h6))) ∧ (r2 = 0 → Q (-3) h3))
set_option maxHeartbeats 4000000 in
set_option maxRecDepth 20000 in
theorem c_M_at {G : Gx}  {x1 : Int64} {h : Hp} {Q : Int32 → Hp → Prop} (hw : M_at x1 h Q) : Ct yX12_at cX12_at 3 (some .int) 6 G [.ref (gAd G 98), .long x1] h (QI G Q) := by
  refine ct_go [(0, .ref (gAd G 98)), (1, .long x1)] (plainFor_of_name (by decide)) rfl (Nat.le_of_ble_eq_true rfl) rfl ?_
  refine g_aload_n dX12_at_0 rfl rfl ?_
  refine g_iconst (v := 0) dX12_at_1 (by decide) ?_
  refine g_putI dX12_at_2 fl_X12_1 sh98 rfl rfl pf_12_0 ?_
  refine g_heap (fun h1 eh1 => ?_)
  have hw := hw h1 eh1
  refine g_lload_n dX12_at_5 rfl rfl ?_
  refine g_lconst (v := (0 : Int64)) dX12_at_6 (by decide) ?_
  refine g_ldc2 dX12_at_7 kl_X12_428 ?_
  refine g_callSI [.long x1, .long (0 : Int64), .long (1000000000000000 : Int64)] dX12_at_10 ml_X12_169 mk_X12_within rfl (Nat.le_of_ble_eq_true rfl) (Nat.le_of_ble_eq_true rfl) rfl (c_M_within hw) (fun r2 h3 hw => ?_)
  refine g_if_ne 19 dX12_at_13 rfl (fun hc => ?_) (fun hc => ?_)
  · have hw := hw.1 hc
    refine g_aload_n dX12_at_19 rfl rfl ?_
    refine g_callVV [] (ci := 12) dX12_at_20 ml_X12_430 mk_X12_laysGoing rfl rfl sh98 (Nat.le_of_ble_eq_true rfl) (Nat.le_of_ble_eq_true rfl) rfl (c_M_laysGoing hw) (fun h4 hw => ?_)
    refine g_aload_n dX12_at_23 rfl rfl ?_
    refine g_lload_n dX12_at_24 rfl rfl ?_
    refine g_callVI [.long x1] (ci := 12) dX12_at_25 ml_X12_433 mk_X12_placeIn rfl rfl sh98 (Nat.le_of_ble_eq_true rfl) (Nat.le_of_ble_eq_true rfl) rfl (c_M_placeIn hw) (fun r5 h6 hw => ?_)
    exact g_iret dX12_at_28 hw
  · have hw := hw.2 hc
    refine g_bipush (v := (-3)) dX12_at_16 (by decide) ?_
    exact g_iret dX12_at_18 hw
theorem dX12_purseIn_0 : decode cX12_purseIn 0 = .ok (.lload_n 1, 1) := by decide +kernel
theorem dX12_purseIn_1 : decode cX12_purseIn 1 = .ok (.aload_n 0, 1) := by decide +kernel
theorem dX12_purseIn_2 : decode cX12_purseIn 2 = .ok (.getfield 422, 3) := by decide +kernel
theorem dX12_purseIn_5 : decode cX12_purseIn 5 = .ok (.i2l, 1) := by decide +kernel
theorem dX12_purseIn_6 : decode cX12_purseIn 6 = .ok (.lcmp, 1) := by decide +kernel
theorem dX12_purseIn_7 : decode cX12_purseIn 7 = .ok (.ifCond .ge 20, 3) := by decide +kernel
theorem dX12_purseIn_10 : decode cX12_purseIn 10 = .ok (.aload_n 0, 1) := by decide +kernel
theorem dX12_purseIn_11 : decode cX12_purseIn 11 = .ok (.getfield 13, 3) := by decide +kernel
theorem dX12_purseIn_14 : decode cX12_purseIn 14 = .ok (.bipush 59, 2) := by decide +kernel
theorem dX12_purseIn_16 : decode cX12_purseIn 16 = .ok (.iaload, 1) := by decide +kernel
theorem dX12_purseIn_17 : decode cX12_purseIn 17 = .ok (.i2l, 1) := by decide +kernel
theorem dX12_purseIn_18 : decode cX12_purseIn 18 = .ok (.aload_n 0, 1) := by decide +kernel
theorem dX12_purseIn_19 : decode cX12_purseIn 19 = .ok (.getfield 81, 3) := by decide +kernel
theorem dX12_purseIn_22 : decode cX12_purseIn 22 = .ok (.lload_n 1, 1) := by decide +kernel
theorem dX12_purseIn_23 : decode cX12_purseIn 23 = .ok (.l2i, 1) := by decide +kernel
theorem dX12_purseIn_24 : decode cX12_purseIn 24 = .ok (.laload, 1) := by decide +kernel
theorem dX12_purseIn_25 : decode cX12_purseIn 25 = .ok (.ladd, 1) := by decide +kernel
theorem dX12_purseIn_26 : decode cX12_purseIn 26 = .ok (.lreturn, 1) := by decide +kernel
theorem dX12_purseIn_27 : decode cX12_purseIn 27 = .ok (.lload_n 1, 1) := by decide +kernel
theorem dX12_purseIn_28 : decode cX12_purseIn 28 = .ok (.aload_n 0, 1) := by decide +kernel
theorem dX12_purseIn_29 : decode cX12_purseIn 29 = .ok (.getfield 422, 3) := by decide +kernel
theorem dX12_purseIn_32 : decode cX12_purseIn 32 = .ok (.i2l, 1) := by decide +kernel
theorem dX12_purseIn_33 : decode cX12_purseIn 33 = .ok (.lsub, 1) := by decide +kernel
theorem dX12_purseIn_34 : decode cX12_purseIn 34 = .ok (.aload_n 0, 1) := by decide +kernel
theorem dX12_purseIn_35 : decode cX12_purseIn 35 = .ok (.getfield 425, 3) := by decide +kernel
theorem dX12_purseIn_38 : decode cX12_purseIn 38 = .ok (.i2l, 1) := by decide +kernel
theorem dX12_purseIn_39 : decode cX12_purseIn 39 = .ok (.ldiv, 1) := by decide +kernel
theorem dX12_purseIn_40 : decode cX12_purseIn 40 = .ok (.lstore_n 3, 1) := by decide +kernel
theorem dX12_purseIn_41 : decode cX12_purseIn 41 = .ok (.aload_n 0, 1) := by decide +kernel
theorem dX12_purseIn_42 : decode cX12_purseIn 42 = .ok (.getfield 422, 3) := by decide +kernel
theorem dX12_purseIn_45 : decode cX12_purseIn 45 = .ok (.lload_n 1, 1) := by decide +kernel
theorem dX12_purseIn_46 : decode cX12_purseIn 46 = .ok (.aload_n 0, 1) := by decide +kernel
theorem dX12_purseIn_47 : decode cX12_purseIn 47 = .ok (.getfield 422, 3) := by decide +kernel
theorem dX12_purseIn_50 : decode cX12_purseIn 50 = .ok (.i2l, 1) := by decide +kernel
theorem dX12_purseIn_51 : decode cX12_purseIn 51 = .ok (.lsub, 1) := by decide +kernel
theorem dX12_purseIn_52 : decode cX12_purseIn 52 = .ok (.aload_n 0, 1) := by decide +kernel
theorem dX12_purseIn_53 : decode cX12_purseIn 53 = .ok (.getfield 425, 3) := by decide +kernel
theorem dX12_purseIn_56 : decode cX12_purseIn 56 = .ok (.i2l, 1) := by decide +kernel
theorem dX12_purseIn_57 : decode cX12_purseIn 57 = .ok (.lrem, 1) := by decide +kernel
theorem dX12_purseIn_58 : decode cX12_purseIn 58 = .ok (.l2i, 1) := by decide +kernel
theorem dX12_purseIn_59 : decode cX12_purseIn 59 = .ok (.iadd, 1) := by decide +kernel
theorem dX12_purseIn_60 : decode cX12_purseIn 60 = .ok (.istore 5, 2) := by decide +kernel
theorem dX12_purseIn_62 : decode cX12_purseIn 62 = .ok (.aload_n 0, 1) := by decide +kernel
theorem dX12_purseIn_63 : decode cX12_purseIn 63 = .ok (.getfield 13, 3) := by decide +kernel
theorem dX12_purseIn_66 : decode cX12_purseIn 66 = .ok (.bipush 59, 2) := by decide +kernel
theorem dX12_purseIn_68 : decode cX12_purseIn 68 = .ok (.iaload, 1) := by decide +kernel
theorem dX12_purseIn_69 : decode cX12_purseIn 69 = .ok (.i2l, 1) := by decide +kernel
theorem dX12_purseIn_70 : decode cX12_purseIn 70 = .ok (.lload_n 3, 1) := by decide +kernel
theorem dX12_purseIn_71 : decode cX12_purseIn 71 = .ok (.aload_n 0, 1) := by decide +kernel
theorem dX12_purseIn_72 : decode cX12_purseIn 72 = .ok (.getfield 81, 3) := by decide +kernel
theorem dX12_purseIn_75 : decode cX12_purseIn 75 = .ok (.aload_n 0, 1) := by decide +kernel
theorem dX12_purseIn_76 : decode cX12_purseIn 76 = .ok (.getfield 422, 3) := by decide +kernel
theorem dX12_purseIn_79 : decode cX12_purseIn 79 = .ok (.aload_n 0, 1) := by decide +kernel
theorem dX12_purseIn_80 : decode cX12_purseIn 80 = .ok (.getfield 425, 3) := by decide +kernel
theorem dX12_purseIn_83 : decode cX12_purseIn 83 = .ok (.iadd, 1) := by decide +kernel
theorem dX12_purseIn_84 : decode cX12_purseIn 84 = .ok (.laload, 1) := by decide +kernel
theorem dX12_purseIn_85 : decode cX12_purseIn 85 = .ok (.aload_n 0, 1) := by decide +kernel
theorem dX12_purseIn_86 : decode cX12_purseIn 86 = .ok (.getfield 81, 3) := by decide +kernel
theorem dX12_purseIn_89 : decode cX12_purseIn 89 = .ok (.aload_n 0, 1) := by decide +kernel
theorem dX12_purseIn_90 : decode cX12_purseIn 90 = .ok (.getfield 422, 3) := by decide +kernel
theorem dX12_purseIn_93 : decode cX12_purseIn 93 = .ok (.laload, 1) := by decide +kernel
theorem dX12_purseIn_94 : decode cX12_purseIn 94 = .ok (.lsub, 1) := by decide +kernel
theorem dX12_purseIn_95 : decode cX12_purseIn 95 = .ok (.lmul, 1) := by decide +kernel
theorem dX12_purseIn_96 : decode cX12_purseIn 96 = .ok (.ladd, 1) := by decide +kernel
theorem dX12_purseIn_97 : decode cX12_purseIn 97 = .ok (.aload_n 0, 1) := by decide +kernel
theorem dX12_purseIn_98 : decode cX12_purseIn 98 = .ok (.getfield 81, 3) := by decide +kernel
theorem dX12_purseIn_101 : decode cX12_purseIn 101 = .ok (.iload 5, 2) := by decide +kernel
theorem dX12_purseIn_103 : decode cX12_purseIn 103 = .ok (.laload, 1) := by decide +kernel
theorem dX12_purseIn_104 : decode cX12_purseIn 104 = .ok (.ladd, 1) := by decide +kernel
theorem dX12_purseIn_105 : decode cX12_purseIn 105 = .ok (.lreturn, 1) := by decide +kernel
def M_purseIn (x1 : Int64) (h : Hp) (Q : Int64 → Hp → Prop) : Prop := ((((gI h 98 36)).toInt64) ≤ x1 → ¬ (((gI h 98 37)).toInt64) = 0 ∧ ∀ v1 : Int64, v1 = ((x1 - (((gI h 98 36)).toInt64)) / (((gI h 98 37)).toInt64)) → ¬ (((gI h 98 37)).toInt64) = 0 ∧ ∀ v2 : Int32, v2 = ((gI h 98 36) + ((((x1 - (((gI h 98 36)).toInt64)) - (x1 - (((gI h 98 36)).toInt64)) / (((gI h 98 37)).toInt64) * (((gI h 98 37)).toInt64))).toInt32)) → vp_in ((gI h 98 36) + (gI h 98 37)) 9 ∧ vp_in (gI h 98 36) 9 ∧ vp_in v2 9 ∧ Q (((((gI h 99 59)).toInt64) + (v1 * ((gJ h 120 (((gI h 98 36) + (gI h 98 37))).toNatClampNeg) - (gJ h 120 ((gI h 98 36)).toNatClampNeg)))) + (gJ h 120 (v2).toNatClampNeg)) h) ∧ (¬ (((gI h 98 36)).toInt64) ≤ x1 → vp_in ((x1).toInt32) 9 ∧ Q ((((gI h 99 59)).toInt64) + (gJ h 120 (((x1).toInt32)).toNatClampNeg)) h)
set_option maxHeartbeats 4000000 in
set_option maxRecDepth 20000 in
theorem c_M_purseIn {G : Gx}  {x1 : Int64} {h : Hp} {Q : Int64 → Hp → Prop} (hw : M_purseIn x1 h Q) : Ct yX12_purseIn cX12_purseIn 6 (some .long) 1 G [.ref (gAd G 98), .long x1] h (QJ G Q) := by
  refine ct_go [(0, .ref (gAd G 98)), (1, .long x1)] (plainFor_of_name (by decide)) rfl (Nat.le_of_ble_eq_true rfl) rfl ?_
  refine g_lload_n dX12_purseIn_0 rfl rfl ?_
  refine g_aload_n dX12_purseIn_1 rfl rfl ?_
  refine g_getI dX12_purseIn_2 fl_X12_422 sh98 rfl ?_
  refine g_i2l dX12_purseIn_5 ?_
  refine g_lc_ge 27 dX12_purseIn_6 dX12_purseIn_7 rfl (fun hc => ?_) (fun hc => ?_)
  · have hw := hw.1 hc
    refine g_lload_n dX12_purseIn_27 rfl rfl ?_
    refine g_aload_n dX12_purseIn_28 rfl rfl ?_
    refine g_getI dX12_purseIn_29 fl_X12_422 sh98 rfl ?_
    refine g_i2l dX12_purseIn_32 ?_
    refine g_lsub dX12_purseIn_33 ?_
    refine g_aload_n dX12_purseIn_34 rfl rfl ?_
    refine g_getI dX12_purseIn_35 fl_X12_425 sh98 rfl ?_
    refine g_i2l dX12_purseIn_38 ?_
    refine g_ldiv dX12_purseIn_39 hw.1 ?_
    have hw := hw.2
    refine g_topj (fun v1 ev1 => ?_)
    have hw := hw v1 ev1
    refine g_lstore_n dX12_purseIn_40 rfl (by decide) (lv1 := [(0, .ref (gAd G 98)), (1, .long x1), (3, .long v1)]) rfl ?_
    refine g_aload_n dX12_purseIn_41 rfl rfl ?_
    refine g_getI dX12_purseIn_42 fl_X12_422 sh98 rfl ?_
    refine g_lload_n dX12_purseIn_45 rfl rfl ?_
    refine g_aload_n dX12_purseIn_46 rfl rfl ?_
    refine g_getI dX12_purseIn_47 fl_X12_422 sh98 rfl ?_
    refine g_i2l dX12_purseIn_50 ?_
    refine g_lsub dX12_purseIn_51 ?_
    refine g_aload_n dX12_purseIn_52 rfl rfl ?_
    refine g_getI dX12_purseIn_53 fl_X12_425 sh98 rfl ?_
    refine g_i2l dX12_purseIn_56 ?_
    refine g_lrem dX12_purseIn_57 hw.1 ?_
    have hw := hw.2
    refine g_l2i dX12_purseIn_58 ?_
    refine g_iadd dX12_purseIn_59 ?_
    refine g_topi (fun v2 ev2 => ?_)
    have hw := hw v2 ev2
    refine g_istore dX12_purseIn_60 (by decide) (lv1 := [(0, .ref (gAd G 98)), (1, .long x1), (3, .long v1), (5, .int v2)]) rfl ?_
    refine g_aload_n dX12_purseIn_62 rfl rfl ?_
    refine g_getA dX12_purseIn_63 fl_X12_13 sh98 rfl ?_
    refine g_bipush (v := 59) dX12_purseIn_66 (by decide) ?_
    refine g_ialdK dX12_purseIn_68 ia99 al99 (by unfold vp_in; decide) (k := 59) (by decide) ?_
    refine g_i2l dX12_purseIn_69 ?_
    refine g_lload_n dX12_purseIn_70 rfl rfl ?_
    refine g_aload_n dX12_purseIn_71 rfl rfl ?_
    refine g_getA dX12_purseIn_72 fl_X12_81 sh98 rfl ?_
    refine g_aload_n dX12_purseIn_75 rfl rfl ?_
    refine g_getI dX12_purseIn_76 fl_X12_422 sh98 rfl ?_
    refine g_aload_n dX12_purseIn_79 rfl rfl ?_
    refine g_getI dX12_purseIn_80 fl_X12_425 sh98 rfl ?_
    refine g_iadd dX12_purseIn_83 ?_
    refine g_lald dX12_purseIn_84 ia120 al120 hw.1 ?_
    have hw := hw.2
    refine g_aload_n dX12_purseIn_85 rfl rfl ?_
    refine g_getA dX12_purseIn_86 fl_X12_81 sh98 rfl ?_
    refine g_aload_n dX12_purseIn_89 rfl rfl ?_
    refine g_getI dX12_purseIn_90 fl_X12_422 sh98 rfl ?_
    refine g_lald dX12_purseIn_93 ia120 al120 hw.1 ?_
    have hw := hw.2
    refine g_lsub dX12_purseIn_94 ?_
    refine g_lmul dX12_purseIn_95 ?_
    refine g_ladd dX12_purseIn_96 ?_
    refine g_aload_n dX12_purseIn_97 rfl rfl ?_
    refine g_getA dX12_purseIn_98 fl_X12_81 sh98 rfl ?_
    refine g_iload dX12_purseIn_101 rfl ?_
    refine g_lald dX12_purseIn_103 ia120 al120 hw.1 ?_
    have hw := hw.2
    refine g_ladd dX12_purseIn_104 ?_
    exact g_lret dX12_purseIn_105 hw
  · have hw := hw.2 hc
    refine g_aload_n dX12_purseIn_10 rfl rfl ?_
    refine g_getA dX12_purseIn_11 fl_X12_13 sh98 rfl ?_
    refine g_bipush (v := 59) dX12_purseIn_14 (by decide) ?_
    refine g_ialdK dX12_purseIn_16 ia99 al99 (by unfold vp_in; decide) (k := 59) (by decide) ?_
    refine g_i2l dX12_purseIn_17 ?_
    refine g_aload_n dX12_purseIn_18 rfl rfl ?_
    refine g_getA dX12_purseIn_19 fl_X12_81 sh98 rfl ?_
    refine g_lload_n dX12_purseIn_22 rfl rfl ?_
    refine g_l2i dX12_purseIn_23 ?_
    refine g_lald dX12_purseIn_24 ia120 al120 hw.1 ?_
    have hw := hw.2
    refine g_ladd dX12_purseIn_25 ?_
    exact g_lret dX12_purseIn_26 hw
theorem dX12_purse_0 : decode cX12_purse 0 = .ok (.aload_n 0, 1) := by decide +kernel
theorem dX12_purse_1 : decode cX12_purse 1 = .ok (.iconst 0, 1) := by decide +kernel
theorem dX12_purse_2 : decode cX12_purse 2 = .ok (.putfield 1, 3) := by decide +kernel
theorem dX12_purse_5 : decode cX12_purse 5 = .ok (.lload_n 1, 1) := by decide +kernel
theorem dX12_purse_6 : decode cX12_purse 6 = .ok (.lconst 0, 1) := by decide +kernel
theorem dX12_purse_7 : decode cX12_purse 7 = .ok (.ldc2_w 428, 3) := by decide +kernel
theorem dX12_purse_10 : decode cX12_purse 10 = .ok (.invokestatic 169, 3) := by decide +kernel
theorem dX12_purse_13 : decode cX12_purse 13 = .ok (.ifCond .ne 7, 3) := by decide +kernel
theorem dX12_purse_16 : decode cX12_purse 16 = .ok (.ldc2_w 302, 3) := by decide +kernel
theorem dX12_purse_19 : decode cX12_purse 19 = .ok (.lreturn, 1) := by decide +kernel
theorem dX12_purse_20 : decode cX12_purse 20 = .ok (.aload_n 0, 1) := by decide +kernel
theorem dX12_purse_21 : decode cX12_purse 21 = .ok (.invokevirtual 430, 3) := by decide +kernel
theorem dX12_purse_24 : decode cX12_purse 24 = .ok (.aload_n 0, 1) := by decide +kernel
theorem dX12_purse_25 : decode cX12_purse 25 = .ok (.lload_n 1, 1) := by decide +kernel
theorem dX12_purse_26 : decode cX12_purse 26 = .ok (.invokevirtual 436, 3) := by decide +kernel
theorem dX12_purse_29 : decode cX12_purse 29 = .ok (.lreturn, 1) := by decide +kernel
theorem ml_X12_436 : Cond.methodLink RX12 436 yX12_purseIn ∈ Wd := mW 1935 (by decide +kernel) rfl
theorem mk_X12_purseIn : MokV yX12_purseIn cX12_purseIn 6 (some .long) 1 := ⟨⟨mW 14 (by decide +kernel) rfl, mW 1938 (by decide +kernel) rfl, ⟨by decide, by decide, by decide +kernel⟩, by decide⟩, mW 1937 (by decide +kernel) rfl, mS (q := (yX12_purseIn, 46)) 108 (by decide +kernel)⟩
def M_purse (x1 : Int64) (h : Hp) (Q : Int64 → Hp → Prop) : Prop := ∀ h1 : Hp, h1 = sI h 98 0 0 → M_within x1 (0 : Int64) (1000000000000000 : Int64) h1 (fun r2 h3 => (¬ r2 = 0 → M_laysGoing  h3 (fun h4 => M_purseIn x1 h4 (fun r5 h6 => Q r5 h6))) ∧ (r2 = 0 → Q (-9000000000000000003 : Int64) h3))
set_option maxHeartbeats 4000000 in
set_option maxRecDepth 20000 in
theorem c_M_purse {G : Gx}  {x1 : Int64} {h : Hp} {Q : Int64 → Hp → Prop} (hw : M_purse x1 h Q) : Ct yX12_purse cX12_purse 3 (some .long) 6 G [.ref (gAd G 98), .long x1] h (QJ G Q) := by
  refine ct_go [(0, .ref (gAd G 98)), (1, .long x1)] (plainFor_of_name (by decide)) rfl (Nat.le_of_ble_eq_true rfl) rfl ?_
  refine g_aload_n dX12_purse_0 rfl rfl ?_
  refine g_iconst (v := 0) dX12_purse_1 (by decide) ?_
  refine g_putI dX12_purse_2 fl_X12_1 sh98 rfl rfl pf_12_0 ?_
  refine g_heap (fun h1 eh1 => ?_)
  have hw := hw h1 eh1
  refine g_lload_n dX12_purse_5 rfl rfl ?_
  refine g_lconst (v := (0 : Int64)) dX12_purse_6 (by decide) ?_
  refine g_ldc2 dX12_purse_7 kl_X12_428 ?_
  refine g_callSI [.long x1, .long (0 : Int64), .long (1000000000000000 : Int64)] dX12_purse_10 ml_X12_169 mk_X12_within rfl (Nat.le_of_ble_eq_true rfl) (Nat.le_of_ble_eq_true rfl) rfl (c_M_within hw) (fun r2 h3 hw => ?_)
  refine g_if_ne 20 dX12_purse_13 rfl (fun hc => ?_) (fun hc => ?_)
  · have hw := hw.1 hc
    refine g_aload_n dX12_purse_20 rfl rfl ?_
    refine g_callVV [] (ci := 12) dX12_purse_21 ml_X12_430 mk_X12_laysGoing rfl rfl sh98 (Nat.le_of_ble_eq_true rfl) (Nat.le_of_ble_eq_true rfl) rfl (c_M_laysGoing hw) (fun h4 hw => ?_)
    refine g_aload_n dX12_purse_24 rfl rfl ?_
    refine g_lload_n dX12_purse_25 rfl rfl ?_
    refine g_callVJ [.long x1] (ci := 12) dX12_purse_26 ml_X12_436 mk_X12_purseIn rfl rfl sh98 (Nat.le_of_ble_eq_true rfl) (Nat.le_of_ble_eq_true rfl) rfl (c_M_purseIn hw) (fun r5 h6 hw => ?_)
    exact g_lret dX12_purse_29 hw
  · have hw := hw.2 hc
    refine g_ldc2 dX12_purse_16 kl_X12_302 ?_
    exact g_lret dX12_purse_19 hw
theorem dX12_round_0 : decode cX12_round 0 = .ok (.aload_n 0, 1) := by decide +kernel
theorem dX12_round_1 : decode cX12_round 1 = .ok (.iconst 0, 1) := by decide +kernel
theorem dX12_round_2 : decode cX12_round 2 = .ok (.putfield 1, 3) := by decide +kernel
theorem dX12_round_5 : decode cX12_round 5 = .ok (.iload_n 1, 1) := by decide +kernel
theorem dX12_round_6 : decode cX12_round 6 = .ok (.i2l, 1) := by decide +kernel
theorem dX12_round_7 : decode cX12_round 7 = .ok (.lconst 0, 1) := by decide +kernel
theorem dX12_round_8 : decode cX12_round 8 = .ok (.lconst 1, 1) := by decide +kernel
theorem dX12_round_9 : decode cX12_round 9 = .ok (.invokestatic 169, 3) := by decide +kernel
theorem dX12_round_12 : decode cX12_round 12 = .ok (.ifCond .ne 6, 3) := by decide +kernel
theorem dX12_round_15 : decode cX12_round 15 = .ok (.bipush (-2), 2) := by decide +kernel
theorem dX12_round_17 : decode cX12_round 17 = .ok (.ireturn, 1) := by decide +kernel
theorem dX12_round_18 : decode cX12_round 18 = .ok (.aload_n 0, 1) := by decide +kernel
theorem dX12_round_19 : decode cX12_round 19 = .ok (.invokevirtual 430, 3) := by decide +kernel
theorem dX12_round_22 : decode cX12_round 22 = .ok (.iload_n 1, 1) := by decide +kernel
theorem dX12_round_23 : decode cX12_round 23 = .ok (.ifCond .ne 10, 3) := by decide +kernel
theorem dX12_round_26 : decode cX12_round 26 = .ok (.aload_n 0, 1) := by decide +kernel
theorem dX12_round_27 : decode cX12_round 27 = .ok (.getfield 422, 3) := by decide +kernel
theorem dX12_round_30 : decode cX12_round 30 = .ok (.goto 7, 3) := by decide +kernel
theorem dX12_round_33 : decode cX12_round 33 = .ok (.aload_n 0, 1) := by decide +kernel
theorem dX12_round_34 : decode cX12_round 34 = .ok (.getfield 425, 3) := by decide +kernel
theorem dX12_round_37 : decode cX12_round 37 = .ok (.ireturn, 1) := by decide +kernel
def M_round (x1 : Int32) (h : Hp) (Q : Int32 → Hp → Prop) : Prop := ∀ h1 : Hp, h1 = sI h 98 0 0 → M_within ((x1).toInt64) (0 : Int64) (1 : Int64) h1 (fun r2 h3 => (¬ r2 = 0 → M_laysGoing  h3 (fun h4 => (¬ x1 = 0 → Q (gI h4 98 37) h4) ∧ (x1 = 0 → Q (gI h4 98 36) h4))) ∧ (r2 = 0 → Q (-2) h3))
set_option maxHeartbeats 4000000 in
set_option maxRecDepth 20000 in
theorem c_M_round {G : Gx}  {x1 : Int32} {h : Hp} {Q : Int32 → Hp → Prop} (hw : M_round x1 h Q) : Ct yX12_round cX12_round 2 (some .int) 6 G [.ref (gAd G 98), .int x1] h (QI G Q) := by
  refine ct_go [(0, .ref (gAd G 98)), (1, .int x1)] (plainFor_of_name (by decide)) rfl (Nat.le_of_ble_eq_true rfl) rfl ?_
  refine g_aload_n dX12_round_0 rfl rfl ?_
  refine g_iconst (v := 0) dX12_round_1 (by decide) ?_
  refine g_putI dX12_round_2 fl_X12_1 sh98 rfl rfl pf_12_0 ?_
  refine g_heap (fun h1 eh1 => ?_)
  have hw := hw h1 eh1
  refine g_iload_n dX12_round_5 rfl rfl ?_
  refine g_i2l dX12_round_6 ?_
  refine g_lconst (v := (0 : Int64)) dX12_round_7 (by decide) ?_
  refine g_lconst (v := (1 : Int64)) dX12_round_8 (by decide) ?_
  refine g_callSI [.long ((x1).toInt64), .long (0 : Int64), .long (1 : Int64)] dX12_round_9 ml_X12_169 mk_X12_within rfl (Nat.le_of_ble_eq_true rfl) (Nat.le_of_ble_eq_true rfl) rfl (c_M_within hw) (fun r2 h3 hw => ?_)
  refine g_if_ne 18 dX12_round_12 rfl (fun hc => ?_) (fun hc => ?_)
  · have hw := hw.1 hc
    refine g_aload_n dX12_round_18 rfl rfl ?_
    refine g_callVV [] (ci := 12) dX12_round_19 ml_X12_430 mk_X12_laysGoing rfl rfl sh98 (Nat.le_of_ble_eq_true rfl) (Nat.le_of_ble_eq_true rfl) rfl (c_M_laysGoing hw) (fun h4 hw => ?_)
    refine g_iload_n dX12_round_22 rfl rfl ?_
    refine g_if_ne 33 dX12_round_23 rfl (fun hc => ?_) (fun hc => ?_)
    · have hw := hw.1 hc
      refine g_aload_n dX12_round_33 rfl rfl ?_
      refine g_getI dX12_round_34 fl_X12_425 sh98 rfl ?_
      exact g_iret dX12_round_37 hw
    · have hw := hw.2 hc
      refine g_aload_n dX12_round_26 rfl rfl ?_
      refine g_getI dX12_round_27 fl_X12_422 sh98 rfl ?_
      refine g_goto 37 dX12_round_30 rfl ?_
      exact g_iret dX12_round_37 hw
  · have hw := hw.2 hc
    refine g_bipush (v := (-2)) dX12_round_15 (by decide) ?_
    exact g_iret dX12_round_17 hw
theorem dX12_paid_0 : decode cX12_paid 0 = .ok (.aload_n 0, 1) := by decide +kernel
theorem dX12_paid_1 : decode cX12_paid 1 = .ok (.iconst 0, 1) := by decide +kernel
theorem dX12_paid_2 : decode cX12_paid 2 = .ok (.putfield 1, 3) := by decide +kernel
theorem dX12_paid_5 : decode cX12_paid 5 = .ok (.iload_n 1, 1) := by decide +kernel
theorem dX12_paid_6 : decode cX12_paid 6 = .ok (.i2l, 1) := by decide +kernel
theorem dX12_paid_7 : decode cX12_paid 7 = .ok (.lconst 0, 1) := by decide +kernel
theorem dX12_paid_8 : decode cX12_paid 8 = .ok (.ldc2_w 413, 3) := by decide +kernel
theorem dX12_paid_11 : decode cX12_paid 11 = .ok (.invokestatic 169, 3) := by decide +kernel
theorem dX12_paid_14 : decode cX12_paid 14 = .ok (.ifCond .ne 7, 3) := by decide +kernel
theorem dX12_paid_17 : decode cX12_paid 17 = .ok (.ldc2_w 302, 3) := by decide +kernel
theorem dX12_paid_20 : decode cX12_paid 20 = .ok (.lreturn, 1) := by decide +kernel
theorem dX12_paid_21 : decode cX12_paid 21 = .ok (.aload_n 0, 1) := by decide +kernel
theorem dX12_paid_22 : decode cX12_paid 22 = .ok (.invokevirtual 430, 3) := by decide +kernel
theorem dX12_paid_25 : decode cX12_paid 25 = .ok (.aload_n 0, 1) := by decide +kernel
theorem dX12_paid_26 : decode cX12_paid 26 = .ok (.getfield 13, 3) := by decide +kernel
theorem dX12_paid_29 : decode cX12_paid 29 = .ok (.bipush 59, 2) := by decide +kernel
theorem dX12_paid_31 : decode cX12_paid 31 = .ok (.iaload, 1) := by decide +kernel
theorem dX12_paid_32 : decode cX12_paid 32 = .ok (.i2l, 1) := by decide +kernel
theorem dX12_paid_33 : decode cX12_paid 33 = .ok (.lstore_n 2, 1) := by decide +kernel
theorem dX12_paid_34 : decode cX12_paid 34 = .ok (.iconst 0, 1) := by decide +kernel
theorem dX12_paid_35 : decode cX12_paid 35 = .ok (.istore 4, 2) := by decide +kernel
theorem dX12_paid_37 : decode cX12_paid 37 = .ok (.iload 4, 2) := by decide +kernel
theorem dX12_paid_39 : decode cX12_paid 39 = .ok (.iload_n 1, 1) := by decide +kernel
theorem dX12_paid_40 : decode cX12_paid 40 = .ok (.if_icmp .gt 33, 3) := by decide +kernel
theorem dX12_paid_43 : decode cX12_paid 43 = .ok (.aload_n 0, 1) := by decide +kernel
theorem dX12_paid_44 : decode cX12_paid 44 = .ok (.iload 4, 2) := by decide +kernel
theorem dX12_paid_46 : decode cX12_paid 46 = .ok (.i2l, 1) := by decide +kernel
theorem dX12_paid_47 : decode cX12_paid 47 = .ok (.invokevirtual 436, 3) := by decide +kernel
theorem dX12_paid_50 : decode cX12_paid 50 = .ok (.lload_n 2, 1) := by decide +kernel
theorem dX12_paid_51 : decode cX12_paid 51 = .ok (.lcmp, 1) := by decide +kernel
theorem dX12_paid_52 : decode cX12_paid 52 = .ok (.ifCond .ge 13, 3) := by decide +kernel
theorem dX12_paid_55 : decode cX12_paid 55 = .ok (.aload_n 0, 1) := by decide +kernel
theorem dX12_paid_56 : decode cX12_paid 56 = .ok (.iload 4, 2) := by decide +kernel
theorem dX12_paid_58 : decode cX12_paid 58 = .ok (.i2l, 1) := by decide +kernel
theorem dX12_paid_59 : decode cX12_paid 59 = .ok (.invokevirtual 436, 3) := by decide +kernel
theorem dX12_paid_62 : decode cX12_paid 62 = .ok (.goto 4, 3) := by decide +kernel
theorem dX12_paid_65 : decode cX12_paid 65 = .ok (.lload_n 2, 1) := by decide +kernel
theorem dX12_paid_66 : decode cX12_paid 66 = .ok (.lstore_n 2, 1) := by decide +kernel
theorem dX12_paid_67 : decode cX12_paid 67 = .ok (.iinc 4 1, 3) := by decide +kernel
theorem dX12_paid_70 : decode cX12_paid 70 = .ok (.goto (-33), 3) := by decide +kernel
theorem dX12_paid_73 : decode cX12_paid 73 = .ok (.lload_n 2, 1) := by decide +kernel
theorem dX12_paid_74 : decode cX12_paid 74 = .ok (.lreturn, 1) := by decide +kernel
def M_paid_L37 (x1 : Int32) (Q : Int64 → Hp → Prop) : Nat → Int64 → Int32 → Hp → Prop
  | 0, _, _, _ => False
  | n + 1, x2, x4, h => (x1 < x4 → Q x2 h) ∧ (¬ x1 < x4 → M_purseIn ((x4).toInt64) h (fun r6 h7 => ∀ J66 : Int64 → Hp → Prop, J66 = (fun s8 h9 => ∀ v10 : Int32, v10 = (x4 + 1) → M_paid_L37 x1 Q n s8 v10 h9) → (x2 ≤ r6 → J66 x2 h7) ∧ (¬ x2 ≤ r6 → M_purseIn ((x4).toInt64) h7 (fun r11 h12 => J66 r11 h12))))
set_option maxHeartbeats 4000000 in
set_option maxRecDepth 20000 in
theorem gl_M_paid_L37 {G : Gx}  {x1 : Int32} {Q : Int64 → Hp → Prop} : ∀ (n : Nat) (x2 : Int64) (x4 : Int32) (h : Hp), M_paid_L37 x1 Q n x2 x4 h → Go cX12_paid 5 RX12 (some .long) 6 G (QJ G Q) 37 [(0, .ref (gAd G 98)), (1, .int x1), (2, .long x2), (4, .int x4)] [] h := by
  intro n
  induction n with
  | zero => intro _ _ h hw; exact False.elim hw
  | succ n ih =>
    intro x2 x4 h hw
    refine g_iload dX12_paid_37 rfl ?_
    refine g_iload_n dX12_paid_39 rfl rfl ?_
    refine g_icmp_gt 73 dX12_paid_40 rfl (fun hc => ?_) (fun hc => ?_)
    · have hw := hw.1 hc
      refine g_lload_n dX12_paid_73 rfl rfl ?_
      exact g_lret dX12_paid_74 hw
    · have hw := hw.2 hc
      refine g_aload_n dX12_paid_43 rfl rfl ?_
      refine g_iload dX12_paid_44 rfl ?_
      refine g_i2l dX12_paid_46 ?_
      refine g_callVJ [.long ((x4).toInt64)] (ci := 12) dX12_paid_47 ml_X12_436 mk_X12_purseIn rfl rfl sh98 (Nat.le_of_ble_eq_true rfl) (Nat.le_of_ble_eq_true rfl) rfl (c_M_purseIn hw) (fun r6 h7 hw => ?_)
      refine g_lload_n dX12_paid_50 rfl rfl ?_
      refine jn_el hw (fun J66 eJ66 hw => ?_)
      have hJ66 : ∀ (s8 : Int64) (h9 : Hp), J66 s8 h9 → Go cX12_paid 5 RX12 (some .long) 6 G (QJ G Q) 66 [(0, .ref (gAd G 98)), (1, .int x1), (4, .int x4)] [.long s8] h9 := by
        intro s8 h9 hw
        subst eJ66
        refine g_lstore_n dX12_paid_66 rfl (by decide) (lv1 := [(0, .ref (gAd G 98)), (1, .int x1), (2, .long s8), (4, .int x4)]) rfl ?_
        obtain ⟨v10, ev10⟩ : ∃ y : Int32, y = (x4 + 1) := ⟨_, rfl⟩
        have hw := hw v10 ev10
        refine g_iinc dX12_paid_67 rfl (by rw [ev10]; rfl) (by decide) (lv1 := [(0, .ref (gAd G 98)), (1, .int x1), (2, .long s8), (4, .int v10)]) rfl ?_
        refine g_goto 37 dX12_paid_70 rfl ?_
        exact ih _ _ _ hw
      refine g_lc_ge 65 dX12_paid_51 dX12_paid_52 rfl (fun hc => ?_) (fun hc => ?_)
      · have hw := hw.1 hc
        refine g_lload_n dX12_paid_65 rfl rfl ?_
        refine g_lv [0, 1, 3] rfl ?_
        exact hJ66 _ _ hw
      · have hw := hw.2 hc
        refine g_aload_n dX12_paid_55 rfl rfl ?_
        refine g_iload dX12_paid_56 rfl ?_
        refine g_i2l dX12_paid_58 ?_
        refine g_callVJ [.long ((x4).toInt64)] (ci := 12) dX12_paid_59 ml_X12_436 mk_X12_purseIn rfl rfl sh98 (Nat.le_of_ble_eq_true rfl) (Nat.le_of_ble_eq_true rfl) rfl (c_M_purseIn hw) (fun r11 h12 hw => ?_)
        refine g_goto 66 dX12_paid_62 rfl ?_
        refine g_lv [0, 1, 3] rfl ?_
        exact hJ66 _ _ hw
def M_paid (x1 : Int32) (h : Hp) (Q : Int64 → Hp → Prop) : Prop := ∀ h1 : Hp, h1 = sI h 98 0 0 → M_within ((x1).toInt64) (0 : Int64) (9999 : Int64) h1 (fun r2 h3 => (¬ r2 = 0 → M_laysGoing  h3 (fun h4 => ∀ v5 : Int64, v5 = (((gI h4 99 59)).toInt64) → ∃ n13, M_paid_L37 x1 Q n13 v5 0 h4)) ∧ (r2 = 0 → Q (-9000000000000000003 : Int64) h3))
set_option maxHeartbeats 4000000 in
set_option maxRecDepth 20000 in
theorem c_M_paid {G : Gx}  {x1 : Int32} {h : Hp} {Q : Int64 → Hp → Prop} (hw : M_paid x1 h Q) : Ct yX12_paid cX12_paid 5 (some .long) 6 G [.ref (gAd G 98), .int x1] h (QJ G Q) := by
  refine ct_go [(0, .ref (gAd G 98)), (1, .int x1)] (plainFor_of_name (by decide)) rfl (Nat.le_of_ble_eq_true rfl) rfl ?_
  refine g_aload_n dX12_paid_0 rfl rfl ?_
  refine g_iconst (v := 0) dX12_paid_1 (by decide) ?_
  refine g_putI dX12_paid_2 fl_X12_1 sh98 rfl rfl pf_12_0 ?_
  refine g_heap (fun h1 eh1 => ?_)
  have hw := hw h1 eh1
  refine g_iload_n dX12_paid_5 rfl rfl ?_
  refine g_i2l dX12_paid_6 ?_
  refine g_lconst (v := (0 : Int64)) dX12_paid_7 (by decide) ?_
  refine g_ldc2 dX12_paid_8 kl_X12_413 ?_
  refine g_callSI [.long ((x1).toInt64), .long (0 : Int64), .long (9999 : Int64)] dX12_paid_11 ml_X12_169 mk_X12_within rfl (Nat.le_of_ble_eq_true rfl) (Nat.le_of_ble_eq_true rfl) rfl (c_M_within hw) (fun r2 h3 hw => ?_)
  refine g_if_ne 21 dX12_paid_14 rfl (fun hc => ?_) (fun hc => ?_)
  · have hw := hw.1 hc
    refine g_aload_n dX12_paid_21 rfl rfl ?_
    refine g_callVV [] (ci := 12) dX12_paid_22 ml_X12_430 mk_X12_laysGoing rfl rfl sh98 (Nat.le_of_ble_eq_true rfl) (Nat.le_of_ble_eq_true rfl) rfl (c_M_laysGoing hw) (fun h4 hw => ?_)
    refine g_aload_n dX12_paid_25 rfl rfl ?_
    refine g_getA dX12_paid_26 fl_X12_13 sh98 rfl ?_
    refine g_bipush (v := 59) dX12_paid_29 (by decide) ?_
    refine g_ialdK dX12_paid_31 ia99 al99 (by unfold vp_in; decide) (k := 59) (by decide) ?_
    refine g_i2l dX12_paid_32 ?_
    refine g_topj (fun v5 ev5 => ?_)
    have hw := hw v5 ev5
    refine g_lstore_n dX12_paid_33 rfl (by decide) (lv1 := [(0, .ref (gAd G 98)), (1, .int x1), (2, .long v5)]) rfl ?_
    refine g_iconst (v := 0) dX12_paid_34 (by decide) ?_
    refine g_istore dX12_paid_35 (by decide) (lv1 := [(0, .ref (gAd G 98)), (1, .int x1), (2, .long v5), (4, .int 0)]) rfl ?_
    obtain ⟨n13, hw⟩ := hw
    refine gl_M_paid_L37   _ _ _ _ hw
  · have hw := hw.2 hc
    refine g_ldc2 dX12_paid_17 kl_X12_302 ?_
    exact g_lret dX12_paid_20 hw
theorem dX12_laysRows_0 : decode cX12_laysRows 0 = .ok (.aload_n 0, 1) := by decide +kernel
theorem dX12_laysRows_1 : decode cX12_laysRows 1 = .ok (.invokevirtual 260, 3) := by decide +kernel
theorem dX12_laysRows_4 : decode cX12_laysRows 4 = .ok (.iconst 0, 1) := by decide +kernel
theorem dX12_laysRows_5 : decode cX12_laysRows 5 = .ok (.istore_n 2, 1) := by decide +kernel
theorem dX12_laysRows_6 : decode cX12_laysRows 6 = .ok (.iload_n 2, 1) := by decide +kernel
theorem dX12_laysRows_7 : decode cX12_laysRows 7 = .ok (.sipush 9512, 3) := by decide +kernel
theorem dX12_laysRows_10 : decode cX12_laysRows 10 = .ok (.if_icmp .ge 16, 3) := by decide +kernel
theorem dX12_laysRows_13 : decode cX12_laysRows 13 = .ok (.aload_n 0, 1) := by decide +kernel
theorem dX12_laysRows_14 : decode cX12_laysRows 14 = .ok (.getfield 85, 3) := by decide +kernel
theorem dX12_laysRows_17 : decode cX12_laysRows 17 = .ok (.iload_n 2, 1) := by decide +kernel
theorem dX12_laysRows_18 : decode cX12_laysRows 18 = .ok (.iconst 0, 1) := by decide +kernel
theorem dX12_laysRows_19 : decode cX12_laysRows 19 = .ok (.iastore, 1) := by decide +kernel
theorem dX12_laysRows_20 : decode cX12_laysRows 20 = .ok (.iinc 2 1, 3) := by decide +kernel
theorem dX12_laysRows_23 : decode cX12_laysRows 23 = .ok (.goto (-17), 3) := by decide +kernel
theorem dX12_laysRows_26 : decode cX12_laysRows 26 = .ok (.aload_n 0, 1) := by decide +kernel
theorem dX12_laysRows_27 : decode cX12_laysRows 27 = .ok (.getfield 85, 3) := by decide +kernel
theorem dX12_laysRows_30 : decode cX12_laysRows 30 = .ok (.sipush 1189, 3) := by decide +kernel
theorem dX12_laysRows_33 : decode cX12_laysRows 33 = .ok (.aload_n 0, 1) := by decide +kernel
theorem dX12_laysRows_34 : decode cX12_laysRows 34 = .ok (.getfield 13, 3) := by decide +kernel
theorem dX12_laysRows_37 : decode cX12_laysRows 37 = .ok (.bipush 58, 2) := by decide +kernel
theorem dX12_laysRows_39 : decode cX12_laysRows 39 = .ok (.iaload, 1) := by decide +kernel
theorem dX12_laysRows_40 : decode cX12_laysRows 40 = .ok (.imul, 1) := by decide +kernel
theorem dX12_laysRows_41 : decode cX12_laysRows 41 = .ok (.sipush 594, 3) := by decide +kernel
theorem dX12_laysRows_44 : decode cX12_laysRows 44 = .ok (.iadd, 1) := by decide +kernel
theorem dX12_laysRows_45 : decode cX12_laysRows 45 = .ok (.iconst 1, 1) := by decide +kernel
theorem dX12_laysRows_46 : decode cX12_laysRows 46 = .ok (.iastore, 1) := by decide +kernel
theorem dX12_laysRows_47 : decode cX12_laysRows 47 = .ok (.iconst 0, 1) := by decide +kernel
theorem dX12_laysRows_48 : decode cX12_laysRows 48 = .ok (.istore_n 2, 1) := by decide +kernel
theorem dX12_laysRows_49 : decode cX12_laysRows 49 = .ok (.iload_n 2, 1) := by decide +kernel
theorem dX12_laysRows_50 : decode cX12_laysRows 50 = .ok (.iload_n 1, 1) := by decide +kernel
theorem dX12_laysRows_51 : decode cX12_laysRows 51 = .ok (.if_icmp .ge 163, 3) := by decide +kernel
theorem dX12_laysRows_54 : decode cX12_laysRows 54 = .ok (.iconst 0, 1) := by decide +kernel
theorem dX12_laysRows_55 : decode cX12_laysRows 55 = .ok (.istore_n 3, 1) := by decide +kernel
theorem dX12_laysRows_56 : decode cX12_laysRows 56 = .ok (.iload_n 3, 1) := by decide +kernel
theorem dX12_laysRows_57 : decode cX12_laysRows 57 = .ok (.sipush 9512, 3) := by decide +kernel
theorem dX12_laysRows_60 : decode cX12_laysRows 60 = .ok (.if_icmp .ge 16, 3) := by decide +kernel
theorem dX12_laysRows_63 : decode cX12_laysRows 63 = .ok (.aload_n 0, 1) := by decide +kernel
theorem dX12_laysRows_64 : decode cX12_laysRows 64 = .ok (.getfield 88, 3) := by decide +kernel
theorem dX12_laysRows_67 : decode cX12_laysRows 67 = .ok (.iload_n 3, 1) := by decide +kernel
theorem dX12_laysRows_68 : decode cX12_laysRows 68 = .ok (.iconst 0, 1) := by decide +kernel
theorem dX12_laysRows_69 : decode cX12_laysRows 69 = .ok (.iastore, 1) := by decide +kernel
theorem dX12_laysRows_70 : decode cX12_laysRows 70 = .ok (.iinc 3 1, 3) := by decide +kernel
theorem dX12_laysRows_73 : decode cX12_laysRows 73 = .ok (.goto (-17), 3) := by decide +kernel
theorem dX12_laysRows_76 : decode cX12_laysRows 76 = .ok (.iconst 0, 1) := by decide +kernel
theorem dX12_laysRows_77 : decode cX12_laysRows 77 = .ok (.istore_n 3, 1) := by decide +kernel
theorem dX12_laysRows_78 : decode cX12_laysRows 78 = .ok (.iload_n 3, 1) := by decide +kernel
theorem dX12_laysRows_79 : decode cX12_laysRows 79 = .ok (.sipush 9512, 3) := by decide +kernel
theorem dX12_laysRows_82 : decode cX12_laysRows 82 = .ok (.if_icmp .ge 99, 3) := by decide +kernel
theorem dX12_laysRows_85 : decode cX12_laysRows 85 = .ok (.aload_n 0, 1) := by decide +kernel
theorem dX12_laysRows_86 : decode cX12_laysRows 86 = .ok (.getfield 85, 3) := by decide +kernel
theorem dX12_laysRows_89 : decode cX12_laysRows 89 = .ok (.iload_n 3, 1) := by decide +kernel
theorem dX12_laysRows_90 : decode cX12_laysRows 90 = .ok (.iaload, 1) := by decide +kernel
theorem dX12_laysRows_91 : decode cX12_laysRows 91 = .ok (.ifCond .ne 6, 3) := by decide +kernel
theorem dX12_laysRows_94 : decode cX12_laysRows 94 = .ok (.goto 81, 3) := by decide +kernel
theorem dX12_laysRows_97 : decode cX12_laysRows 97 = .ok (.aload_n 0, 1) := by decide +kernel
theorem dX12_laysRows_98 : decode cX12_laysRows 98 = .ok (.getfield 45, 3) := by decide +kernel
theorem dX12_laysRows_101 : decode cX12_laysRows 101 = .ok (.iload_n 3, 1) := by decide +kernel
theorem dX12_laysRows_102 : decode cX12_laysRows 102 = .ok (.sipush 1189, 3) := by decide +kernel
theorem dX12_laysRows_105 : decode cX12_laysRows 105 = .ok (.idiv, 1) := by decide +kernel
theorem dX12_laysRows_106 : decode cX12_laysRows 106 = .ok (.iaload, 1) := by decide +kernel
theorem dX12_laysRows_107 : decode cX12_laysRows 107 = .ok (.istore 4, 2) := by decide +kernel
theorem dX12_laysRows_109 : decode cX12_laysRows 109 = .ok (.iconst 0, 1) := by decide +kernel
theorem dX12_laysRows_110 : decode cX12_laysRows 110 = .ok (.istore 5, 2) := by decide +kernel
theorem dX12_laysRows_112 : decode cX12_laysRows 112 = .ok (.iload 5, 2) := by decide +kernel
theorem dX12_laysRows_114 : decode cX12_laysRows 114 = .ok (.bipush 24, 2) := by decide +kernel
theorem dX12_laysRows_116 : decode cX12_laysRows 116 = .ok (.if_icmp .ge 59, 3) := by decide +kernel
theorem dX12_laysRows_119 : decode cX12_laysRows 119 = .ok (.iload 4, 2) := by decide +kernel
theorem dX12_laysRows_121 : decode cX12_laysRows 121 = .ok (.i2l, 1) := by decide +kernel
theorem dX12_laysRows_122 : decode cX12_laysRows 122 = .ok (.iload 5, 2) := by decide +kernel
theorem dX12_laysRows_124 : decode cX12_laysRows 124 = .ok (.invokestatic 228, 3) := by decide +kernel
theorem dX12_laysRows_127 : decode cX12_laysRows 127 = .ok (.ifCond .eq 42, 3) := by decide +kernel
theorem dX12_laysRows_130 : decode cX12_laysRows 130 = .ok (.aload_n 0, 1) := by decide +kernel
theorem dX12_laysRows_131 : decode cX12_laysRows 131 = .ok (.getfield 88, 3) := by decide +kernel
theorem dX12_laysRows_134 : decode cX12_laysRows 134 = .ok (.sipush 1189, 3) := by decide +kernel
theorem dX12_laysRows_137 : decode cX12_laysRows 137 = .ok (.aload_n 0, 1) := by decide +kernel
theorem dX12_laysRows_138 : decode cX12_laysRows 138 = .ok (.getfield 39, 3) := by decide +kernel
theorem dX12_laysRows_141 : decode cX12_laysRows 141 = .ok (.iload 5, 2) := by decide +kernel
theorem dX12_laysRows_143 : decode cX12_laysRows 143 = .ok (.iaload, 1) := by decide +kernel
theorem dX12_laysRows_144 : decode cX12_laysRows 144 = .ok (.imul, 1) := by decide +kernel
theorem dX12_laysRows_145 : decode cX12_laysRows 145 = .ok (.iload_n 3, 1) := by decide +kernel
theorem dX12_laysRows_146 : decode cX12_laysRows 146 = .ok (.sipush 1189, 3) := by decide +kernel
theorem dX12_laysRows_149 : decode cX12_laysRows 149 = .ok (.irem, 1) := by decide +kernel
theorem dX12_laysRows_150 : decode cX12_laysRows 150 = .ok (.iadd, 1) := by decide +kernel
theorem dX12_laysRows_151 : decode cX12_laysRows 151 = .ok (.aload_n 0, 1) := by decide +kernel
theorem dX12_laysRows_152 : decode cX12_laysRows 152 = .ok (.getfield 42, 3) := by decide +kernel
theorem dX12_laysRows_155 : decode cX12_laysRows 155 = .ok (.iload 5, 2) := by decide +kernel
theorem dX12_laysRows_157 : decode cX12_laysRows 157 = .ok (.iaload, 1) := by decide +kernel
theorem dX12_laysRows_158 : decode cX12_laysRows 158 = .ok (.iadd, 1) := by decide +kernel
theorem dX12_laysRows_159 : decode cX12_laysRows 159 = .ok (.dup2, 1) := by decide +kernel
theorem dX12_laysRows_160 : decode cX12_laysRows 160 = .ok (.iaload, 1) := by decide +kernel
theorem dX12_laysRows_161 : decode cX12_laysRows 161 = .ok (.aload_n 0, 1) := by decide +kernel
theorem dX12_laysRows_162 : decode cX12_laysRows 162 = .ok (.getfield 85, 3) := by decide +kernel
theorem dX12_laysRows_165 : decode cX12_laysRows 165 = .ok (.iload_n 3, 1) := by decide +kernel
theorem dX12_laysRows_166 : decode cX12_laysRows 166 = .ok (.iaload, 1) := by decide +kernel
theorem dX12_laysRows_167 : decode cX12_laysRows 167 = .ok (.iadd, 1) := by decide +kernel
theorem dX12_laysRows_168 : decode cX12_laysRows 168 = .ok (.iastore, 1) := by decide +kernel
theorem dX12_laysRows_169 : decode cX12_laysRows 169 = .ok (.iinc 5 1, 3) := by decide +kernel
theorem dX12_laysRows_172 : decode cX12_laysRows 172 = .ok (.goto (-60), 3) := by decide +kernel
theorem dX12_laysRows_175 : decode cX12_laysRows 175 = .ok (.iinc 3 1, 3) := by decide +kernel
theorem dX12_laysRows_178 : decode cX12_laysRows 178 = .ok (.goto (-100), 3) := by decide +kernel
theorem dX12_laysRows_181 : decode cX12_laysRows 181 = .ok (.iconst 0, 1) := by decide +kernel
theorem dX12_laysRows_182 : decode cX12_laysRows 182 = .ok (.istore_n 3, 1) := by decide +kernel
theorem dX12_laysRows_183 : decode cX12_laysRows 183 = .ok (.iload_n 3, 1) := by decide +kernel
theorem dX12_laysRows_184 : decode cX12_laysRows 184 = .ok (.sipush 9512, 3) := by decide +kernel
theorem dX12_laysRows_187 : decode cX12_laysRows 187 = .ok (.if_icmp .ge 21, 3) := by decide +kernel
theorem dX12_laysRows_190 : decode cX12_laysRows 190 = .ok (.aload_n 0, 1) := by decide +kernel
theorem dX12_laysRows_191 : decode cX12_laysRows 191 = .ok (.getfield 85, 3) := by decide +kernel
theorem dX12_laysRows_194 : decode cX12_laysRows 194 = .ok (.iload_n 3, 1) := by decide +kernel
theorem dX12_laysRows_195 : decode cX12_laysRows 195 = .ok (.aload_n 0, 1) := by decide +kernel
theorem dX12_laysRows_196 : decode cX12_laysRows 196 = .ok (.getfield 88, 3) := by decide +kernel
theorem dX12_laysRows_199 : decode cX12_laysRows 199 = .ok (.iload_n 3, 1) := by decide +kernel
theorem dX12_laysRows_200 : decode cX12_laysRows 200 = .ok (.iaload, 1) := by decide +kernel
theorem dX12_laysRows_201 : decode cX12_laysRows 201 = .ok (.iastore, 1) := by decide +kernel
theorem dX12_laysRows_202 : decode cX12_laysRows 202 = .ok (.iinc 3 1, 3) := by decide +kernel
theorem dX12_laysRows_205 : decode cX12_laysRows 205 = .ok (.goto (-22), 3) := by decide +kernel
theorem dX12_laysRows_208 : decode cX12_laysRows 208 = .ok (.iinc 2 1, 3) := by decide +kernel
theorem dX12_laysRows_211 : decode cX12_laysRows 211 = .ok (.goto (-162), 3) := by decide +kernel
theorem dX12_laysRows_214 : decode cX12_laysRows 214 = .ok (.return_, 1) := by decide +kernel
theorem fl_X12_85 : FLk RX12 85 12 38 := ⟨_, rfl, by decide, mW 1420 (by decide +kernel) rfl⟩
theorem fl_X12_88 : FLk RX12 88 12 39 := ⟨_, rfl, by decide, mW 1421 (by decide +kernel) rfl⟩
def M_laysRows_L6 (x1 : Int32) (K26 : Hp → Prop) : Nat → Int32 → Hp → Prop
  | 0, _, _ => False
  | n + 1, x2, h => (9512 ≤ x2 → K26 h) ∧ (¬ 9512 ≤ x2 → vp_in x2 9512 ∧ ∀ h2 : Hp, h2 = sI h 121 (x2).toNatClampNeg 0 → ∀ v3 : Int32, v3 = (x2 + 1) → M_laysRows_L6 x1 K26 n v3 h2)
set_option maxHeartbeats 4000000 in
set_option maxRecDepth 20000 in
theorem gl_M_laysRows_L6 {G : Gx}  {x1 : Int32} {Q : Hp → Prop} {K26 : Hp → Prop} (hK26 : ∀  (h1 : Hp), K26  h1 → Go cX12_laysRows 6 RX12 none 5 G (QV G Q) 26 [(0, .ref (gAd G 98)), (1, .int x1)] [] h1) : ∀ (n : Nat) (x2 : Int32) (h : Hp), M_laysRows_L6 x1 K26 n x2 h → Go cX12_laysRows 6 RX12 none 5 G (QV G Q) 6 [(0, .ref (gAd G 98)), (1, .int x1), (2, .int x2)] [] h := by
  intro n
  induction n with
  | zero => intro _ h hw; exact False.elim hw
  | succ n ih =>
    intro x2 h hw
    refine g_iload_n dX12_laysRows_6 rfl rfl ?_
    refine g_sipush (v := 9512) dX12_laysRows_7 (by decide) ?_
    refine g_icmp_ge 26 dX12_laysRows_10 rfl (fun hc => ?_) (fun hc => ?_)
    · have hw := hw.1 hc
      refine g_lv [0, 1] rfl ?_
      exact hK26 _ hw
    · have hw := hw.2 hc
      refine g_aload_n dX12_laysRows_13 rfl rfl ?_
      refine g_getA dX12_laysRows_14 fl_X12_85 sh98 rfl ?_
      refine g_iload_n dX12_laysRows_17 rfl rfl ?_
      refine g_iconst (v := 0) dX12_laysRows_18 (by decide) ?_
      refine g_iast dX12_laysRows_19 ia121 al121 hw.1 ?_
      have hw := hw.2
      refine g_heap (fun h2 eh2 => ?_)
      have hw := hw h2 eh2
      obtain ⟨v3, ev3⟩ : ∃ y : Int32, y = (x2 + 1) := ⟨_, rfl⟩
      have hw := hw v3 ev3
      refine g_iinc dX12_laysRows_20 rfl (by rw [ev3]; rfl) (by decide) (lv1 := [(0, .ref (gAd G 98)), (1, .int x1), (2, .int v3)]) rfl ?_
      refine g_goto 6 dX12_laysRows_23 rfl ?_
      exact ih _ _ hw
def M_laysRows_L56 (x1 : Int32) (x2 : Int32) (K76 : Hp → Prop) : Nat → Int32 → Hp → Prop
  | 0, _, _ => False
  | n + 1, x3, h => (9512 ≤ x3 → K76 h) ∧ (¬ 9512 ≤ x3 → vp_in x3 9512 ∧ ∀ h7 : Hp, h7 = sI h 122 (x3).toNatClampNeg 0 → ∀ v8 : Int32, v8 = (x3 + 1) → M_laysRows_L56 x1 x2 K76 n v8 h7)
set_option maxHeartbeats 4000000 in
set_option maxRecDepth 20000 in
theorem gl_M_laysRows_L56 {G : Gx}  {x1 : Int32} {x2 : Int32} {Q : Hp → Prop} {K76 : Hp → Prop} (hK76 : ∀  (h1 : Hp), K76  h1 → Go cX12_laysRows 6 RX12 none 5 G (QV G Q) 76 [(0, .ref (gAd G 98)), (1, .int x1), (2, .int x2)] [] h1) : ∀ (n : Nat) (x3 : Int32) (h : Hp), M_laysRows_L56 x1 x2 K76 n x3 h → Go cX12_laysRows 6 RX12 none 5 G (QV G Q) 56 [(0, .ref (gAd G 98)), (1, .int x1), (2, .int x2), (3, .int x3)] [] h := by
  intro n
  induction n with
  | zero => intro _ h hw; exact False.elim hw
  | succ n ih =>
    intro x3 h hw
    refine g_iload_n dX12_laysRows_56 rfl rfl ?_
    refine g_sipush (v := 9512) dX12_laysRows_57 (by decide) ?_
    refine g_icmp_ge 76 dX12_laysRows_60 rfl (fun hc => ?_) (fun hc => ?_)
    · have hw := hw.1 hc
      refine g_lv [0, 1, 2] rfl ?_
      exact hK76 _ hw
    · have hw := hw.2 hc
      refine g_aload_n dX12_laysRows_63 rfl rfl ?_
      refine g_getA dX12_laysRows_64 fl_X12_88 sh98 rfl ?_
      refine g_iload_n dX12_laysRows_67 rfl rfl ?_
      refine g_iconst (v := 0) dX12_laysRows_68 (by decide) ?_
      refine g_iast dX12_laysRows_69 ia122 al122 hw.1 ?_
      have hw := hw.2
      refine g_heap (fun h7 eh7 => ?_)
      have hw := hw h7 eh7
      obtain ⟨v8, ev8⟩ : ∃ y : Int32, y = (x3 + 1) := ⟨_, rfl⟩
      have hw := hw v8 ev8
      refine g_iinc dX12_laysRows_70 rfl (by rw [ev8]; rfl) (by decide) (lv1 := [(0, .ref (gAd G 98)), (1, .int x1), (2, .int x2), (3, .int v8)]) rfl ?_
      refine g_goto 56 dX12_laysRows_73 rfl ?_
      exact ih _ _ hw
def M_laysRows_L112 (x1 : Int32) (x2 : Int32) (x3 : Int32) (x4 : Int32) (K175 : Hp → Prop) : Nat → Int32 → Hp → Prop
  | 0, _, _ => False
  | n + 1, x5, h => (24 ≤ x5 → K175 h) ∧ (¬ 24 ≤ x5 → M_isIn ((x4).toInt64) x5 h (fun r14 h15 => ∀ J169 : Hp → Prop, J169 = (fun h16 => ∀ v17 : Int32, v17 = (x5 + 1) → M_laysRows_L112 x1 x2 x3 x4 K175 n v17 h16) → (r14 = 0 → J169 h15) ∧ (¬ r14 = 0 → vp_in x5 24 ∧ vp_in x5 24 ∧ vp_in ((((1189 : Int32) * (gI h15 106 (x5).toNatClampNeg)) + (x3 - x3 / 1189 * 1189)) + (gI h15 107 (x5).toNatClampNeg)) 9512 ∧ vp_in x3 9512 ∧ vp_in ((((1189 : Int32) * (gI h15 106 (x5).toNatClampNeg)) + (x3 - x3 / 1189 * 1189)) + (gI h15 107 (x5).toNatClampNeg)) 9512 ∧ ∀ h18 : Hp, h18 = sI h15 122 (((((1189 : Int32) * (gI h15 106 (x5).toNatClampNeg)) + (x3 - x3 / 1189 * 1189)) + (gI h15 107 (x5).toNatClampNeg))).toNatClampNeg ((gI h15 122 (((((1189 : Int32) * (gI h15 106 (x5).toNatClampNeg)) + (x3 - x3 / 1189 * 1189)) + (gI h15 107 (x5).toNatClampNeg))).toNatClampNeg) + (gI h15 121 (x3).toNatClampNeg)) → J169 h18)))
set_option maxHeartbeats 4000000 in
set_option maxRecDepth 20000 in
theorem gl_M_laysRows_L112 {G : Gx}  {x1 : Int32} {x2 : Int32} {x3 : Int32} {x4 : Int32} {Q : Hp → Prop} {K175 : Hp → Prop} (hK175 : ∀  (h1 : Hp), K175  h1 → Go cX12_laysRows 6 RX12 none 5 G (QV G Q) 175 [(0, .ref (gAd G 98)), (1, .int x1), (2, .int x2), (3, .int x3)] [] h1) : ∀ (n : Nat) (x5 : Int32) (h : Hp), M_laysRows_L112 x1 x2 x3 x4 K175 n x5 h → Go cX12_laysRows 6 RX12 none 5 G (QV G Q) 112 [(0, .ref (gAd G 98)), (1, .int x1), (2, .int x2), (3, .int x3), (4, .int x4), (5, .int x5)] [] h := by
  intro n
  induction n with
  | zero => intro _ h hw; exact False.elim hw
  | succ n ih =>
    intro x5 h hw
    refine g_iload dX12_laysRows_112 rfl ?_
    refine g_bipush (v := 24) dX12_laysRows_114 (by decide) ?_
    refine g_icmp_ge 175 dX12_laysRows_116 rfl (fun hc => ?_) (fun hc => ?_)
    · have hw := hw.1 hc
      refine g_lv [0, 1, 2, 3] rfl ?_
      exact hK175 _ hw
    · have hw := hw.2 hc
      refine g_iload dX12_laysRows_119 rfl ?_
      refine g_i2l dX12_laysRows_121 ?_
      refine g_iload dX12_laysRows_122 rfl ?_
      refine g_callSI [.long ((x4).toInt64), .int x5] dX12_laysRows_124 ml_X12_228 mk_X12_isIn rfl (Nat.le_of_ble_eq_true rfl) (Nat.le_of_ble_eq_true rfl) rfl (c_M_isIn hw) (fun r14 h15 hw => ?_)
      refine jn_el hw (fun J169 eJ169 hw => ?_)
      have hJ169 : ∀ (h16 : Hp), J169 h16 → Go cX12_laysRows 6 RX12 none 5 G (QV G Q) 169 [(0, .ref (gAd G 98)), (1, .int x1), (2, .int x2), (3, .int x3), (4, .int x4), (5, .int x5)] [] h16 := by
        intro h16 hw
        subst eJ169
        obtain ⟨v17, ev17⟩ : ∃ y : Int32, y = (x5 + 1) := ⟨_, rfl⟩
        have hw := hw v17 ev17
        refine g_iinc dX12_laysRows_169 rfl (by rw [ev17]; rfl) (by decide) (lv1 := [(0, .ref (gAd G 98)), (1, .int x1), (2, .int x2), (3, .int x3), (4, .int x4), (5, .int v17)]) rfl ?_
        refine g_goto 112 dX12_laysRows_172 rfl ?_
        exact ih _ _ hw
      refine g_if_eq 169 dX12_laysRows_127 rfl (fun hc => ?_) (fun hc => ?_)
      · have hw := hw.1 hc
        exact hJ169 _ hw
      · have hw := hw.2 hc
        refine g_aload_n dX12_laysRows_130 rfl rfl ?_
        refine g_getA dX12_laysRows_131 fl_X12_88 sh98 rfl ?_
        refine g_sipush (v := 1189) dX12_laysRows_134 (by decide) ?_
        refine g_aload_n dX12_laysRows_137 rfl rfl ?_
        refine g_getA dX12_laysRows_138 fl_X12_39 sh98 rfl ?_
        refine g_iload dX12_laysRows_141 rfl ?_
        refine g_iald dX12_laysRows_143 ia106 al106 hw.1 ?_
        have hw := hw.2
        refine g_imul dX12_laysRows_144 ?_
        refine g_iload_n dX12_laysRows_145 rfl rfl ?_
        refine g_sipush (v := 1189) dX12_laysRows_146 (by decide) ?_
        refine g_irem dX12_laysRows_149 (by decide) ?_
        refine g_iadd dX12_laysRows_150 ?_
        refine g_aload_n dX12_laysRows_151 rfl rfl ?_
        refine g_getA dX12_laysRows_152 fl_X12_42 sh98 rfl ?_
        refine g_iload dX12_laysRows_155 rfl ?_
        refine g_iald dX12_laysRows_157 ia107 al107 hw.1 ?_
        have hw := hw.2
        refine g_iadd dX12_laysRows_158 ?_
        refine g_dup2_11 dX12_laysRows_159 rfl rfl ?_
        refine g_iald dX12_laysRows_160 ia122 al122 hw.1 ?_
        have hw := hw.2
        refine g_aload_n dX12_laysRows_161 rfl rfl ?_
        refine g_getA dX12_laysRows_162 fl_X12_85 sh98 rfl ?_
        refine g_iload_n dX12_laysRows_165 rfl rfl ?_
        refine g_iald dX12_laysRows_166 ia121 al121 hw.1 ?_
        have hw := hw.2
        refine g_iadd dX12_laysRows_167 ?_
        refine g_iast dX12_laysRows_168 ia122 al122 hw.1 ?_
        have hw := hw.2
        refine g_heap (fun h18 eh18 => ?_)
        have hw := hw h18 eh18
        exact hJ169 _ hw
def M_laysRows_L78 (x1 : Int32) (x2 : Int32) (K181 : Hp → Prop) : Nat → Int32 → Hp → Prop
  | 0, _, _ => False
  | n + 1, x3, h => (9512 ≤ x3 → K181 h) ∧ (¬ 9512 ≤ x3 → vp_in x3 9512 ∧ ∀ J175 : Hp → Prop, J175 = (fun h11 => ∀ v12 : Int32, v12 = (x3 + 1) → M_laysRows_L78 x1 x2 K181 n v12 h11) → (¬ (gI h 121 (x3).toNatClampNeg) = 0 → vp_in (x3 / 1189) 8 ∧ ∀ v13 : Int32, v13 = (gI h 108 ((x3 / 1189)).toNatClampNeg) → ∃ n19, M_laysRows_L112 x1 x2 x3 v13 (fun h20 => J175 h20) n19 0 h) ∧ ((gI h 121 (x3).toNatClampNeg) = 0 → J175 h))
set_option maxHeartbeats 4000000 in
set_option maxRecDepth 20000 in
theorem gl_M_laysRows_L78 {G : Gx}  {x1 : Int32} {x2 : Int32} {Q : Hp → Prop} {K181 : Hp → Prop} (hK181 : ∀  (h1 : Hp), K181  h1 → Go cX12_laysRows 6 RX12 none 5 G (QV G Q) 181 [(0, .ref (gAd G 98)), (1, .int x1), (2, .int x2)] [] h1) : ∀ (n : Nat) (x3 : Int32) (h : Hp), M_laysRows_L78 x1 x2 K181 n x3 h → Go cX12_laysRows 6 RX12 none 5 G (QV G Q) 78 [(0, .ref (gAd G 98)), (1, .int x1), (2, .int x2), (3, .int x3)] [] h := by
  intro n
  induction n with
  | zero => intro _ h hw; exact False.elim hw
  | succ n ih =>
    intro x3 h hw
    refine g_iload_n dX12_laysRows_78 rfl rfl ?_
    refine g_sipush (v := 9512) dX12_laysRows_79 (by decide) ?_
    refine g_icmp_ge 181 dX12_laysRows_82 rfl (fun hc => ?_) (fun hc => ?_)
    · have hw := hw.1 hc
      refine g_lv [0, 1, 2] rfl ?_
      exact hK181 _ hw
    · have hw := hw.2 hc
      refine g_aload_n dX12_laysRows_85 rfl rfl ?_
      refine g_getA dX12_laysRows_86 fl_X12_85 sh98 rfl ?_
      refine g_iload_n dX12_laysRows_89 rfl rfl ?_
      refine g_iald dX12_laysRows_90 ia121 al121 hw.1 ?_
      have hw := hw.2
      refine jn_el hw (fun J175 eJ175 hw => ?_)
      have hJ175 : ∀ (h11 : Hp), J175 h11 → Go cX12_laysRows 6 RX12 none 5 G (QV G Q) 175 [(0, .ref (gAd G 98)), (1, .int x1), (2, .int x2), (3, .int x3)] [] h11 := by
        intro h11 hw
        subst eJ175
        obtain ⟨v12, ev12⟩ : ∃ y : Int32, y = (x3 + 1) := ⟨_, rfl⟩
        have hw := hw v12 ev12
        refine g_iinc dX12_laysRows_175 rfl (by rw [ev12]; rfl) (by decide) (lv1 := [(0, .ref (gAd G 98)), (1, .int x1), (2, .int x2), (3, .int v12)]) rfl ?_
        refine g_goto 78 dX12_laysRows_178 rfl ?_
        exact ih _ _ hw
      refine g_if_ne 97 dX12_laysRows_91 rfl (fun hc => ?_) (fun hc => ?_)
      · have hw := hw.1 hc
        refine g_aload_n dX12_laysRows_97 rfl rfl ?_
        refine g_getA dX12_laysRows_98 fl_X12_45 sh98 rfl ?_
        refine g_iload_n dX12_laysRows_101 rfl rfl ?_
        refine g_sipush (v := 1189) dX12_laysRows_102 (by decide) ?_
        refine g_idiv dX12_laysRows_105 (by decide) ?_
        refine g_iald dX12_laysRows_106 ia108 al108 hw.1 ?_
        have hw := hw.2
        refine g_topi (fun v13 ev13 => ?_)
        have hw := hw v13 ev13
        refine g_istore dX12_laysRows_107 (by decide) (lv1 := [(0, .ref (gAd G 98)), (1, .int x1), (2, .int x2), (3, .int x3), (4, .int v13)]) rfl ?_
        refine g_iconst (v := 0) dX12_laysRows_109 (by decide) ?_
        refine g_istore dX12_laysRows_110 (by decide) (lv1 := [(0, .ref (gAd G 98)), (1, .int x1), (2, .int x2), (3, .int x3), (4, .int v13), (5, .int 0)]) rfl ?_
        obtain ⟨n19, hw⟩ := hw
        refine gl_M_laysRows_L112  ?_ _ _ _ hw
        · intro h20 hw
          exact hJ175 _ hw
      · have hw := hw.2 hc
        refine g_goto 175 dX12_laysRows_94 rfl ?_
        exact hJ175 _ hw
def M_laysRows_L183 (x1 : Int32) (x2 : Int32) (K208 : Hp → Prop) : Nat → Int32 → Hp → Prop
  | 0, _, _ => False
  | n + 1, x3, h => (9512 ≤ x3 → K208 h) ∧ (¬ 9512 ≤ x3 → vp_in x3 9512 ∧ vp_in x3 9512 ∧ ∀ h23 : Hp, h23 = sI h 121 (x3).toNatClampNeg (gI h 122 (x3).toNatClampNeg) → ∀ v24 : Int32, v24 = (x3 + 1) → M_laysRows_L183 x1 x2 K208 n v24 h23)
set_option maxHeartbeats 4000000 in
set_option maxRecDepth 20000 in
theorem gl_M_laysRows_L183 {G : Gx}  {x1 : Int32} {x2 : Int32} {Q : Hp → Prop} {K208 : Hp → Prop} (hK208 : ∀  (h1 : Hp), K208  h1 → Go cX12_laysRows 6 RX12 none 5 G (QV G Q) 208 [(0, .ref (gAd G 98)), (1, .int x1), (2, .int x2)] [] h1) : ∀ (n : Nat) (x3 : Int32) (h : Hp), M_laysRows_L183 x1 x2 K208 n x3 h → Go cX12_laysRows 6 RX12 none 5 G (QV G Q) 183 [(0, .ref (gAd G 98)), (1, .int x1), (2, .int x2), (3, .int x3)] [] h := by
  intro n
  induction n with
  | zero => intro _ h hw; exact False.elim hw
  | succ n ih =>
    intro x3 h hw
    refine g_iload_n dX12_laysRows_183 rfl rfl ?_
    refine g_sipush (v := 9512) dX12_laysRows_184 (by decide) ?_
    refine g_icmp_ge 208 dX12_laysRows_187 rfl (fun hc => ?_) (fun hc => ?_)
    · have hw := hw.1 hc
      refine g_lv [0, 1, 2] rfl ?_
      exact hK208 _ hw
    · have hw := hw.2 hc
      refine g_aload_n dX12_laysRows_190 rfl rfl ?_
      refine g_getA dX12_laysRows_191 fl_X12_85 sh98 rfl ?_
      refine g_iload_n dX12_laysRows_194 rfl rfl ?_
      refine g_aload_n dX12_laysRows_195 rfl rfl ?_
      refine g_getA dX12_laysRows_196 fl_X12_88 sh98 rfl ?_
      refine g_iload_n dX12_laysRows_199 rfl rfl ?_
      refine g_iald dX12_laysRows_200 ia122 al122 hw.1 ?_
      have hw := hw.2
      refine g_iast dX12_laysRows_201 ia121 al121 hw.1 ?_
      have hw := hw.2
      refine g_heap (fun h23 eh23 => ?_)
      have hw := hw h23 eh23
      obtain ⟨v24, ev24⟩ : ∃ y : Int32, y = (x3 + 1) := ⟨_, rfl⟩
      have hw := hw v24 ev24
      refine g_iinc dX12_laysRows_202 rfl (by rw [ev24]; rfl) (by decide) (lv1 := [(0, .ref (gAd G 98)), (1, .int x1), (2, .int x2), (3, .int v24)]) rfl ?_
      refine g_goto 183 dX12_laysRows_205 rfl ?_
      exact ih _ _ hw
def M_laysRows_L49 (x1 : Int32) (Q : Hp → Prop) : Nat → Int32 → Hp → Prop
  | 0, _, _ => False
  | n + 1, x2, h => (x1 ≤ x2 → Q h) ∧ (¬ x1 ≤ x2 → ∃ n9, M_laysRows_L56 x1 x2 (fun h10 => ∃ n21, M_laysRows_L78 x1 x2 (fun h22 => ∃ n25, M_laysRows_L183 x1 x2 (fun h26 => ∀ v27 : Int32, v27 = (x2 + 1) → M_laysRows_L49 x1 Q n v27 h26) n25 0 h22) n21 0 h10) n9 0 h)
set_option maxHeartbeats 4000000 in
set_option maxRecDepth 20000 in
theorem gl_M_laysRows_L49 {G : Gx}  {x1 : Int32} {Q : Hp → Prop} : ∀ (n : Nat) (x2 : Int32) (h : Hp), M_laysRows_L49 x1 Q n x2 h → Go cX12_laysRows 6 RX12 none 5 G (QV G Q) 49 [(0, .ref (gAd G 98)), (1, .int x1), (2, .int x2)] [] h := by
  intro n
  induction n with
  | zero => intro _ h hw; exact False.elim hw
  | succ n ih =>
    intro x2 h hw
    refine g_iload_n dX12_laysRows_49 rfl rfl ?_
    refine g_iload_n dX12_laysRows_50 rfl rfl ?_
    refine g_icmp_ge 214 dX12_laysRows_51 rfl (fun hc => ?_) (fun hc => ?_)
    · have hw := hw.1 hc
      exact g_vret dX12_laysRows_214 hw
    · have hw := hw.2 hc
      refine g_iconst (v := 0) dX12_laysRows_54 (by decide) ?_
      refine g_istore_n dX12_laysRows_55 rfl (by decide) (lv1 := [(0, .ref (gAd G 98)), (1, .int x1), (2, .int x2), (3, .int 0)]) rfl ?_
      obtain ⟨n9, hw⟩ := hw
      refine gl_M_laysRows_L56  ?_ _ _ _ hw
      · intro h10 hw
        refine g_iconst (v := 0) dX12_laysRows_76 (by decide) ?_
        refine g_istore_n dX12_laysRows_77 rfl (by decide) (lv1 := [(0, .ref (gAd G 98)), (1, .int x1), (2, .int x2), (3, .int 0)]) rfl ?_
        obtain ⟨n21, hw⟩ := hw
        refine gl_M_laysRows_L78  ?_ _ _ _ hw
        · intro h22 hw
          refine g_iconst (v := 0) dX12_laysRows_181 (by decide) ?_
          refine g_istore_n dX12_laysRows_182 rfl (by decide) (lv1 := [(0, .ref (gAd G 98)), (1, .int x1), (2, .int x2), (3, .int 0)]) rfl ?_
          obtain ⟨n25, hw⟩ := hw
          refine gl_M_laysRows_L183  ?_ _ _ _ hw
          · intro h26 hw
            obtain ⟨v27, ev27⟩ : ∃ y : Int32, y = (x2 + 1) := ⟨_, rfl⟩
            have hw := hw v27 ev27
            refine g_iinc dX12_laysRows_208 rfl (by rw [ev27]; rfl) (by decide) (lv1 := [(0, .ref (gAd G 98)), (1, .int x1), (2, .int v27)]) rfl ?_
            refine g_goto 49 dX12_laysRows_211 rfl ?_
            exact ih _ _ hw
def M_laysRows (x1 : Int32) (h : Hp) (Q : Hp → Prop) : Prop := M_laysWays  h (fun h1 => ∃ n4, M_laysRows_L6 x1 (fun h5 => vp_in (((1189 : Int32) * (gI h5 99 58)) + 594) 9512 ∧ ∀ h6 : Hp, h6 = sI h5 121 ((((1189 : Int32) * (gI h5 99 58)) + 594)).toNatClampNeg 1 → ∃ n28, M_laysRows_L49 x1 Q n28 0 h6) n4 0 h1)
set_option maxHeartbeats 4000000 in
set_option maxRecDepth 20000 in
theorem c_M_laysRows {G : Gx}  {x1 : Int32} {h : Hp} {Q : Hp → Prop} (hw : M_laysRows x1 h Q) : Ct yX12_laysRows cX12_laysRows 6 none 5 G [.ref (gAd G 98), .int x1] h (QV G Q) := by
  refine ct_go [(0, .ref (gAd G 98)), (1, .int x1)] (plainFor_of_name (by decide)) rfl (Nat.le_of_ble_eq_true rfl) rfl ?_
  refine g_aload_n dX12_laysRows_0 rfl rfl ?_
  refine g_callVV [] (ci := 12) dX12_laysRows_1 ml_X12_260 mk_X12_laysWays rfl rfl sh98 (Nat.le_of_ble_eq_true rfl) (Nat.le_of_ble_eq_true rfl) rfl (c_M_laysWays hw) (fun h1 hw => ?_)
  refine g_iconst (v := 0) dX12_laysRows_4 (by decide) ?_
  refine g_istore_n dX12_laysRows_5 rfl (by decide) (lv1 := [(0, .ref (gAd G 98)), (1, .int x1), (2, .int 0)]) rfl ?_
  obtain ⟨n4, hw⟩ := hw
  refine gl_M_laysRows_L6  ?_ _ _ _ hw
  · intro h5 hw
    refine g_aload_n dX12_laysRows_26 rfl rfl ?_
    refine g_getA dX12_laysRows_27 fl_X12_85 sh98 rfl ?_
    refine g_sipush (v := 1189) dX12_laysRows_30 (by decide) ?_
    refine g_aload_n dX12_laysRows_33 rfl rfl ?_
    refine g_getA dX12_laysRows_34 fl_X12_13 sh98 rfl ?_
    refine g_bipush (v := 58) dX12_laysRows_37 (by decide) ?_
    refine g_ialdK dX12_laysRows_39 ia99 al99 (by unfold vp_in; decide) (k := 58) (by decide) ?_
    refine g_imul dX12_laysRows_40 ?_
    refine g_sipush (v := 594) dX12_laysRows_41 (by decide) ?_
    refine g_iadd dX12_laysRows_44 ?_
    refine g_iconst (v := 1) dX12_laysRows_45 (by decide) ?_
    refine g_iast dX12_laysRows_46 ia121 al121 hw.1 ?_
    have hw := hw.2
    refine g_heap (fun h6 eh6 => ?_)
    have hw := hw h6 eh6
    refine g_iconst (v := 0) dX12_laysRows_47 (by decide) ?_
    refine g_istore_n dX12_laysRows_48 rfl (by decide) (lv1 := [(0, .ref (gAd G 98)), (1, .int x1), (2, .int 0)]) rfl ?_
    obtain ⟨n28, hw⟩ := hw
    refine gl_M_laysRows_L49   _ _ _ hw
theorem dX12_rowsOf_0 : decode cX12_rowsOf 0 = .ok (.iconst 0, 1) := by decide +kernel
theorem dX12_rowsOf_1 : decode cX12_rowsOf 1 = .ok (.istore_n 2, 1) := by decide +kernel
theorem dX12_rowsOf_2 : decode cX12_rowsOf 2 = .ok (.iconst 0, 1) := by decide +kernel
theorem dX12_rowsOf_3 : decode cX12_rowsOf 3 = .ok (.istore_n 3, 1) := by decide +kernel
theorem dX12_rowsOf_4 : decode cX12_rowsOf 4 = .ok (.iload_n 3, 1) := by decide +kernel
theorem dX12_rowsOf_5 : decode cX12_rowsOf 5 = .ok (.aload_n 0, 1) := by decide +kernel
theorem dX12_rowsOf_6 : decode cX12_rowsOf 6 = .ok (.getfield 13, 3) := by decide +kernel
theorem dX12_rowsOf_9 : decode cX12_rowsOf 9 = .ok (.iconst 1, 1) := by decide +kernel
theorem dX12_rowsOf_10 : decode cX12_rowsOf 10 = .ok (.iaload, 1) := by decide +kernel
theorem dX12_rowsOf_11 : decode cX12_rowsOf 11 = .ok (.if_icmp .ge 24, 3) := by decide +kernel
theorem dX12_rowsOf_14 : decode cX12_rowsOf 14 = .ok (.iload_n 2, 1) := by decide +kernel
theorem dX12_rowsOf_15 : decode cX12_rowsOf 15 = .ok (.aload_n 0, 1) := by decide +kernel
theorem dX12_rowsOf_16 : decode cX12_rowsOf 16 = .ok (.getfield 85, 3) := by decide +kernel
theorem dX12_rowsOf_19 : decode cX12_rowsOf 19 = .ok (.sipush 1189, 3) := by decide +kernel
theorem dX12_rowsOf_22 : decode cX12_rowsOf 22 = .ok (.iload_n 3, 1) := by decide +kernel
theorem dX12_rowsOf_23 : decode cX12_rowsOf 23 = .ok (.imul, 1) := by decide +kernel
theorem dX12_rowsOf_24 : decode cX12_rowsOf 24 = .ok (.iload_n 1, 1) := by decide +kernel
theorem dX12_rowsOf_25 : decode cX12_rowsOf 25 = .ok (.iadd, 1) := by decide +kernel
theorem dX12_rowsOf_26 : decode cX12_rowsOf 26 = .ok (.iaload, 1) := by decide +kernel
theorem dX12_rowsOf_27 : decode cX12_rowsOf 27 = .ok (.iadd, 1) := by decide +kernel
theorem dX12_rowsOf_28 : decode cX12_rowsOf 28 = .ok (.istore_n 2, 1) := by decide +kernel
theorem dX12_rowsOf_29 : decode cX12_rowsOf 29 = .ok (.iinc 3 1, 3) := by decide +kernel
theorem dX12_rowsOf_32 : decode cX12_rowsOf 32 = .ok (.goto (-28), 3) := by decide +kernel
theorem dX12_rowsOf_35 : decode cX12_rowsOf 35 = .ok (.iload_n 2, 1) := by decide +kernel
theorem dX12_rowsOf_36 : decode cX12_rowsOf 36 = .ok (.ireturn, 1) := by decide +kernel
def M_rowsOf_L4 (x1 : Int32) (Q : Int32 → Hp → Prop) : Nat → Int32 → Int32 → Hp → Prop
  | 0, _, _, _ => False
  | n + 1, x2, x3, h => ((gI h 99 1) ≤ x3 → Q x2 h) ∧ (¬ (gI h 99 1) ≤ x3 → vp_in (((1189 : Int32) * x3) + x1) 9512 ∧ ∀ v1 : Int32, v1 = (x2 + (gI h 121 ((((1189 : Int32) * x3) + x1)).toNatClampNeg)) → ∀ v2 : Int32, v2 = (x3 + 1) → M_rowsOf_L4 x1 Q n v1 v2 h)
set_option maxHeartbeats 4000000 in
set_option maxRecDepth 20000 in
theorem gl_M_rowsOf_L4 {G : Gx}  {x1 : Int32} {Q : Int32 → Hp → Prop} : ∀ (n : Nat) (x2 : Int32) (x3 : Int32) (h : Hp), M_rowsOf_L4 x1 Q n x2 x3 h → Go cX12_rowsOf 4 RX12 (some .int) 1 G (QI G Q) 4 [(0, .ref (gAd G 98)), (1, .int x1), (2, .int x2), (3, .int x3)] [] h := by
  intro n
  induction n with
  | zero => intro _ _ h hw; exact False.elim hw
  | succ n ih =>
    intro x2 x3 h hw
    refine g_iload_n dX12_rowsOf_4 rfl rfl ?_
    refine g_aload_n dX12_rowsOf_5 rfl rfl ?_
    refine g_getA dX12_rowsOf_6 fl_X12_13 sh98 rfl ?_
    refine g_iconst (v := 1) dX12_rowsOf_9 (by decide) ?_
    refine g_ialdK dX12_rowsOf_10 ia99 al99 (by unfold vp_in; decide) (k := 1) (by decide) ?_
    refine g_icmp_ge 35 dX12_rowsOf_11 rfl (fun hc => ?_) (fun hc => ?_)
    · have hw := hw.1 hc
      refine g_iload_n dX12_rowsOf_35 rfl rfl ?_
      exact g_iret dX12_rowsOf_36 hw
    · have hw := hw.2 hc
      refine g_iload_n dX12_rowsOf_14 rfl rfl ?_
      refine g_aload_n dX12_rowsOf_15 rfl rfl ?_
      refine g_getA dX12_rowsOf_16 fl_X12_85 sh98 rfl ?_
      refine g_sipush (v := 1189) dX12_rowsOf_19 (by decide) ?_
      refine g_iload_n dX12_rowsOf_22 rfl rfl ?_
      refine g_imul dX12_rowsOf_23 ?_
      refine g_iload_n dX12_rowsOf_24 rfl rfl ?_
      refine g_iadd dX12_rowsOf_25 ?_
      refine g_iald dX12_rowsOf_26 ia121 al121 hw.1 ?_
      have hw := hw.2
      refine g_iadd dX12_rowsOf_27 ?_
      refine g_topi (fun v1 ev1 => ?_)
      have hw := hw v1 ev1
      refine g_istore_n dX12_rowsOf_28 rfl (by decide) (lv1 := [(0, .ref (gAd G 98)), (1, .int x1), (2, .int v1), (3, .int x3)]) rfl ?_
      obtain ⟨v2, ev2⟩ : ∃ y : Int32, y = (x3 + 1) := ⟨_, rfl⟩
      have hw := hw v2 ev2
      refine g_iinc dX12_rowsOf_29 rfl (by rw [ev2]; rfl) (by decide) (lv1 := [(0, .ref (gAd G 98)), (1, .int x1), (2, .int v1), (3, .int v2)]) rfl ?_
      refine g_goto 4 dX12_rowsOf_32 rfl ?_
      exact ih _ _ _ hw
def M_rowsOf (x1 : Int32) (h : Hp) (Q : Int32 → Hp → Prop) : Prop := ∃ n3, M_rowsOf_L4 x1 Q n3 0 0 h
set_option maxHeartbeats 4000000 in
set_option maxRecDepth 20000 in
theorem c_M_rowsOf {G : Gx}  {x1 : Int32} {h : Hp} {Q : Int32 → Hp → Prop} (hw : M_rowsOf x1 h Q) : Ct yX12_rowsOf cX12_rowsOf 4 (some .int) 1 G [.ref (gAd G 98), .int x1] h (QI G Q) := by
  refine ct_go [(0, .ref (gAd G 98)), (1, .int x1)] (plainFor_of_name (by decide)) rfl (Nat.le_of_ble_eq_true rfl) rfl ?_
  refine g_iconst (v := 0) dX12_rowsOf_0 (by decide) ?_
  refine g_istore_n dX12_rowsOf_1 rfl (by decide) (lv1 := [(0, .ref (gAd G 98)), (1, .int x1), (2, .int 0)]) rfl ?_
  refine g_iconst (v := 0) dX12_rowsOf_2 (by decide) ?_
  refine g_istore_n dX12_rowsOf_3 rfl (by decide) (lv1 := [(0, .ref (gAd G 98)), (1, .int x1), (2, .int 0), (3, .int 0)]) rfl ?_
  obtain ⟨n3, hw⟩ := hw
  refine gl_M_rowsOf_L4   _ _ _ _ hw
theorem dX12_rows_0 : decode cX12_rows 0 = .ok (.aload_n 0, 1) := by decide +kernel
theorem dX12_rows_1 : decode cX12_rows 1 = .ok (.iconst 0, 1) := by decide +kernel
theorem dX12_rows_2 : decode cX12_rows 2 = .ok (.putfield 1, 3) := by decide +kernel
theorem dX12_rows_5 : decode cX12_rows 5 = .ok (.iload_n 1, 1) := by decide +kernel
theorem dX12_rows_6 : decode cX12_rows 6 = .ok (.i2l, 1) := by decide +kernel
theorem dX12_rows_7 : decode cX12_rows 7 = .ok (.lconst 0, 1) := by decide +kernel
theorem dX12_rows_8 : decode cX12_rows 8 = .ok (.ldc2_w 440, 3) := by decide +kernel
theorem dX12_rows_11 : decode cX12_rows 11 = .ok (.invokestatic 169, 3) := by decide +kernel
theorem dX12_rows_14 : decode cX12_rows 14 = .ok (.ifCond .ne 6, 3) := by decide +kernel
theorem dX12_rows_17 : decode cX12_rows 17 = .ok (.bipush (-3), 2) := by decide +kernel
theorem dX12_rows_19 : decode cX12_rows 19 = .ok (.ireturn, 1) := by decide +kernel
theorem dX12_rows_20 : decode cX12_rows 20 = .ok (.iload_n 2, 1) := by decide +kernel
theorem dX12_rows_21 : decode cX12_rows 21 = .ok (.i2l, 1) := by decide +kernel
theorem dX12_rows_22 : decode cX12_rows 22 = .ok (.ldc2_w 442, 3) := by decide +kernel
theorem dX12_rows_25 : decode cX12_rows 25 = .ok (.ldc2_w 444, 3) := by decide +kernel
theorem dX12_rows_28 : decode cX12_rows 28 = .ok (.invokestatic 169, 3) := by decide +kernel
theorem dX12_rows_31 : decode cX12_rows 31 = .ok (.ifCond .ne 5, 3) := by decide +kernel
theorem dX12_rows_34 : decode cX12_rows 34 = .ok (.iconst 0, 1) := by decide +kernel
theorem dX12_rows_35 : decode cX12_rows 35 = .ok (.ireturn, 1) := by decide +kernel
theorem dX12_rows_36 : decode cX12_rows 36 = .ok (.aload_n 0, 1) := by decide +kernel
theorem dX12_rows_37 : decode cX12_rows 37 = .ok (.iload_n 1, 1) := by decide +kernel
theorem dX12_rows_38 : decode cX12_rows 38 = .ok (.invokevirtual 446, 3) := by decide +kernel
theorem dX12_rows_41 : decode cX12_rows 41 = .ok (.aload_n 0, 1) := by decide +kernel
theorem dX12_rows_42 : decode cX12_rows 42 = .ok (.sipush 594, 3) := by decide +kernel
theorem dX12_rows_45 : decode cX12_rows 45 = .ok (.iload_n 2, 1) := by decide +kernel
theorem dX12_rows_46 : decode cX12_rows 46 = .ok (.iadd, 1) := by decide +kernel
theorem dX12_rows_47 : decode cX12_rows 47 = .ok (.invokevirtual 449, 3) := by decide +kernel
theorem dX12_rows_50 : decode cX12_rows 50 = .ok (.ireturn, 1) := by decide +kernel
theorem kl_X12_440 : Cond.constantLong RX12 440 (6) ∈ Wd := mW 1951 (by decide +kernel) rfl
theorem kl_X12_442 : Cond.constantLong RX12 442 (-594) ∈ Wd := mW 1952 (by decide +kernel) rfl
theorem kl_X12_444 : Cond.constantLong RX12 444 (594) ∈ Wd := mW 1953 (by decide +kernel) rfl
theorem ml_X12_446 : Cond.methodLink RX12 446 yX12_laysRows ∈ Wd := mW 1954 (by decide +kernel) rfl
theorem mk_X12_laysRows : MokV yX12_laysRows cX12_laysRows 6 none 1 := ⟨⟨mW 14 (by decide +kernel) rfl, mW 1957 (by decide +kernel) rfl, ⟨by decide, by decide, by decide +kernel⟩, by decide⟩, mW 1956 (by decide +kernel) rfl, mS (q := (yX12_laysRows, 46)) 109 (by decide +kernel)⟩
theorem ml_X12_449 : Cond.methodLink RX12 449 yX12_rowsOf ∈ Wd := mW 1958 (by decide +kernel) rfl
theorem mk_X12_rowsOf : MokV yX12_rowsOf cX12_rowsOf 4 (some .int) 1 := ⟨⟨mW 14 (by decide +kernel) rfl, mW 1961 (by decide +kernel) rfl, ⟨by decide, by decide, by decide +kernel⟩, by decide⟩, mW 1960 (by decide +kernel) rfl, mS (q := (yX12_rowsOf, 46)) 110 (by decide +kernel)⟩
def M_rows (x1 : Int32) (x2 : Int32) (h : Hp) (Q : Int32 → Hp → Prop) : Prop := ∀ h1 : Hp, h1 = sI h 98 0 0 → M_within ((x1).toInt64) (0 : Int64) (6 : Int64) h1 (fun r2 h3 => (¬ r2 = 0 → M_within ((x2).toInt64) (-594 : Int64) (594 : Int64) h3 (fun r4 h5 => (¬ r4 = 0 → M_laysRows x1 h5 (fun h6 => M_rowsOf ((594 : Int32) + x2) h6 (fun r7 h8 => Q r7 h8))) ∧ (r4 = 0 → Q 0 h5))) ∧ (r2 = 0 → Q (-3) h3))
set_option maxHeartbeats 4000000 in
set_option maxRecDepth 20000 in
theorem c_M_rows {G : Gx}  {x1 : Int32} {x2 : Int32} {h : Hp} {Q : Int32 → Hp → Prop} (hw : M_rows x1 x2 h Q) : Ct yX12_rows cX12_rows 3 (some .int) 6 G [.ref (gAd G 98), .int x1, .int x2] h (QI G Q) := by
  refine ct_go [(0, .ref (gAd G 98)), (1, .int x1), (2, .int x2)] (plainFor_of_name (by decide)) rfl (Nat.le_of_ble_eq_true rfl) rfl ?_
  refine g_aload_n dX12_rows_0 rfl rfl ?_
  refine g_iconst (v := 0) dX12_rows_1 (by decide) ?_
  refine g_putI dX12_rows_2 fl_X12_1 sh98 rfl rfl pf_12_0 ?_
  refine g_heap (fun h1 eh1 => ?_)
  have hw := hw h1 eh1
  refine g_iload_n dX12_rows_5 rfl rfl ?_
  refine g_i2l dX12_rows_6 ?_
  refine g_lconst (v := (0 : Int64)) dX12_rows_7 (by decide) ?_
  refine g_ldc2 dX12_rows_8 kl_X12_440 ?_
  refine g_callSI [.long ((x1).toInt64), .long (0 : Int64), .long (6 : Int64)] dX12_rows_11 ml_X12_169 mk_X12_within rfl (Nat.le_of_ble_eq_true rfl) (Nat.le_of_ble_eq_true rfl) rfl (c_M_within hw) (fun r2 h3 hw => ?_)
  refine g_if_ne 20 dX12_rows_14 rfl (fun hc => ?_) (fun hc => ?_)
  · have hw := hw.1 hc
    refine g_iload_n dX12_rows_20 rfl rfl ?_
    refine g_i2l dX12_rows_21 ?_
    refine g_ldc2 dX12_rows_22 kl_X12_442 ?_
    refine g_ldc2 dX12_rows_25 kl_X12_444 ?_
    refine g_callSI [.long ((x2).toInt64), .long (-594 : Int64), .long (594 : Int64)] dX12_rows_28 ml_X12_169 mk_X12_within rfl (Nat.le_of_ble_eq_true rfl) (Nat.le_of_ble_eq_true rfl) rfl (c_M_within hw) (fun r4 h5 hw => ?_)
    refine g_if_ne 36 dX12_rows_31 rfl (fun hc => ?_) (fun hc => ?_)
    · have hw := hw.1 hc
      refine g_aload_n dX12_rows_36 rfl rfl ?_
      refine g_iload_n dX12_rows_37 rfl rfl ?_
      refine g_callVV [.int x1] (ci := 12) dX12_rows_38 ml_X12_446 mk_X12_laysRows rfl rfl sh98 (Nat.le_of_ble_eq_true rfl) (Nat.le_of_ble_eq_true rfl) rfl (c_M_laysRows hw) (fun h6 hw => ?_)
      refine g_aload_n dX12_rows_41 rfl rfl ?_
      refine g_sipush (v := 594) dX12_rows_42 (by decide) ?_
      refine g_iload_n dX12_rows_45 rfl rfl ?_
      refine g_iadd dX12_rows_46 ?_
      refine g_callVI [.int ((594 : Int32) + x2)] (ci := 12) dX12_rows_47 ml_X12_449 mk_X12_rowsOf rfl rfl sh98 (Nat.le_of_ble_eq_true rfl) (Nat.le_of_ble_eq_true rfl) rfl (c_M_rowsOf hw) (fun r7 h8 hw => ?_)
      exact g_iret dX12_rows_50 hw
    · have hw := hw.2 hc
      refine g_iconst (v := 0) dX12_rows_34 (by decide) ?_
      exact g_iret dX12_rows_35 hw
  · have hw := hw.2 hc
    refine g_bipush (v := (-3)) dX12_rows_17 (by decide) ?_
    exact g_iret dX12_rows_19 hw
theorem dX12_sums_0 : decode cX12_sums 0 = .ok (.aload_n 0, 1) := by decide +kernel
theorem dX12_sums_1 : decode cX12_sums 1 = .ok (.iconst 0, 1) := by decide +kernel
theorem dX12_sums_2 : decode cX12_sums 2 = .ok (.putfield 1, 3) := by decide +kernel
theorem dX12_sums_5 : decode cX12_sums 5 = .ok (.iload_n 1, 1) := by decide +kernel
theorem dX12_sums_6 : decode cX12_sums 6 = .ok (.i2l, 1) := by decide +kernel
theorem dX12_sums_7 : decode cX12_sums 7 = .ok (.lconst 0, 1) := by decide +kernel
theorem dX12_sums_8 : decode cX12_sums 8 = .ok (.ldc2_w 440, 3) := by decide +kernel
theorem dX12_sums_11 : decode cX12_sums 11 = .ok (.invokestatic 169, 3) := by decide +kernel
theorem dX12_sums_14 : decode cX12_sums 14 = .ok (.ifCond .ne 6, 3) := by decide +kernel
theorem dX12_sums_17 : decode cX12_sums 17 = .ok (.bipush (-3), 2) := by decide +kernel
theorem dX12_sums_19 : decode cX12_sums 19 = .ok (.ireturn, 1) := by decide +kernel
theorem dX12_sums_20 : decode cX12_sums 20 = .ok (.aload_n 0, 1) := by decide +kernel
theorem dX12_sums_21 : decode cX12_sums 21 = .ok (.iload_n 1, 1) := by decide +kernel
theorem dX12_sums_22 : decode cX12_sums 22 = .ok (.invokevirtual 446, 3) := by decide +kernel
theorem dX12_sums_25 : decode cX12_sums 25 = .ok (.iconst 0, 1) := by decide +kernel
theorem dX12_sums_26 : decode cX12_sums 26 = .ok (.istore_n 2, 1) := by decide +kernel
theorem dX12_sums_27 : decode cX12_sums 27 = .ok (.iconst 0, 1) := by decide +kernel
theorem dX12_sums_28 : decode cX12_sums 28 = .ok (.istore_n 3, 1) := by decide +kernel
theorem dX12_sums_29 : decode cX12_sums 29 = .ok (.iload_n 3, 1) := by decide +kernel
theorem dX12_sums_30 : decode cX12_sums 30 = .ok (.sipush 1189, 3) := by decide +kernel
theorem dX12_sums_33 : decode cX12_sums 33 = .ok (.if_icmp .ge 25, 3) := by decide +kernel
theorem dX12_sums_36 : decode cX12_sums 36 = .ok (.iload_n 2, 1) := by decide +kernel
theorem dX12_sums_37 : decode cX12_sums 37 = .ok (.aload_n 0, 1) := by decide +kernel
theorem dX12_sums_38 : decode cX12_sums 38 = .ok (.iload_n 3, 1) := by decide +kernel
theorem dX12_sums_39 : decode cX12_sums 39 = .ok (.invokevirtual 449, 3) := by decide +kernel
theorem dX12_sums_42 : decode cX12_sums 42 = .ok (.ifCond .le 7, 3) := by decide +kernel
theorem dX12_sums_45 : decode cX12_sums 45 = .ok (.iconst 1, 1) := by decide +kernel
theorem dX12_sums_46 : decode cX12_sums 46 = .ok (.goto 4, 3) := by decide +kernel
theorem dX12_sums_49 : decode cX12_sums 49 = .ok (.iconst 0, 1) := by decide +kernel
theorem dX12_sums_50 : decode cX12_sums 50 = .ok (.iadd, 1) := by decide +kernel
theorem dX12_sums_51 : decode cX12_sums 51 = .ok (.istore_n 2, 1) := by decide +kernel
theorem dX12_sums_52 : decode cX12_sums 52 = .ok (.iinc 3 1, 3) := by decide +kernel
theorem dX12_sums_55 : decode cX12_sums 55 = .ok (.goto (-26), 3) := by decide +kernel
theorem dX12_sums_58 : decode cX12_sums 58 = .ok (.iload_n 2, 1) := by decide +kernel
theorem dX12_sums_59 : decode cX12_sums 59 = .ok (.ireturn, 1) := by decide +kernel
def M_sums_L29 (Q : Int32 → Hp → Prop) : Nat → Int32 → Int32 → Hp → Prop
  | 0, _, _, _ => False
  | n + 1, x2, x3, h => (1189 ≤ x3 → Q x2 h) ∧ (¬ 1189 ≤ x3 → M_rowsOf x3 h (fun r5 h6 => ∀ J50 : Int32 → Hp → Prop, J50 = (fun s7 h8 => ∀ v9 : Int32, v9 = (x2 + s7) → ∀ v10 : Int32, v10 = (x3 + 1) → M_sums_L29 Q n v9 v10 h8) → (r5 ≤ 0 → J50 0 h6) ∧ (¬ r5 ≤ 0 → J50 1 h6)))
set_option maxHeartbeats 4000000 in
set_option maxRecDepth 20000 in
theorem gl_M_sums_L29 {G : Gx}  {Q : Int32 → Hp → Prop} : ∀ (n : Nat) (x2 : Int32) (x3 : Int32) (h : Hp), M_sums_L29 Q n x2 x3 h → Go cX12_sums 4 RX12 (some .int) 6 G (QI G Q) 29 [(0, .ref (gAd G 98)), (2, .int x2), (3, .int x3)] [] h := by
  intro n
  induction n with
  | zero => intro _ _ h hw; exact False.elim hw
  | succ n ih =>
    intro x2 x3 h hw
    refine g_iload_n dX12_sums_29 rfl rfl ?_
    refine g_sipush (v := 1189) dX12_sums_30 (by decide) ?_
    refine g_icmp_ge 58 dX12_sums_33 rfl (fun hc => ?_) (fun hc => ?_)
    · have hw := hw.1 hc
      refine g_iload_n dX12_sums_58 rfl rfl ?_
      exact g_iret dX12_sums_59 hw
    · have hw := hw.2 hc
      refine g_iload_n dX12_sums_36 rfl rfl ?_
      refine g_aload_n dX12_sums_37 rfl rfl ?_
      refine g_iload_n dX12_sums_38 rfl rfl ?_
      refine g_callVI [.int x3] (ci := 12) dX12_sums_39 ml_X12_449 mk_X12_rowsOf rfl rfl sh98 (Nat.le_of_ble_eq_true rfl) (Nat.le_of_ble_eq_true rfl) rfl (c_M_rowsOf hw) (fun r5 h6 hw => ?_)
      refine jn_el hw (fun J50 eJ50 hw => ?_)
      have hJ50 : ∀ (s7 : Int32) (h8 : Hp), J50 s7 h8 → Go cX12_sums 4 RX12 (some .int) 6 G (QI G Q) 50 [(0, .ref (gAd G 98)), (3, .int x3)] [.int s7, .int x2] h8 := by
        intro s7 h8 hw
        subst eJ50
        refine g_iadd dX12_sums_50 ?_
        refine g_topi (fun v9 ev9 => ?_)
        have hw := hw v9 ev9
        refine g_istore_n dX12_sums_51 rfl (by decide) (lv1 := [(0, .ref (gAd G 98)), (2, .int v9), (3, .int x3)]) rfl ?_
        obtain ⟨v10, ev10⟩ : ∃ y : Int32, y = (x3 + 1) := ⟨_, rfl⟩
        have hw := hw v10 ev10
        refine g_iinc dX12_sums_52 rfl (by rw [ev10]; rfl) (by decide) (lv1 := [(0, .ref (gAd G 98)), (2, .int v9), (3, .int v10)]) rfl ?_
        refine g_goto 29 dX12_sums_55 rfl ?_
        exact ih _ _ _ hw
      refine g_if_le 49 dX12_sums_42 rfl (fun hc => ?_) (fun hc => ?_)
      · have hw := hw.1 hc
        refine g_iconst (v := 0) dX12_sums_49 (by decide) ?_
        refine g_lv [0, 2] rfl ?_
        exact hJ50 _ _ hw
      · have hw := hw.2 hc
        refine g_iconst (v := 1) dX12_sums_45 (by decide) ?_
        refine g_goto 50 dX12_sums_46 rfl ?_
        refine g_lv [0, 2] rfl ?_
        exact hJ50 _ _ hw
def M_sums (x1 : Int32) (h : Hp) (Q : Int32 → Hp → Prop) : Prop := ∀ h1 : Hp, h1 = sI h 98 0 0 → M_within ((x1).toInt64) (0 : Int64) (6 : Int64) h1 (fun r2 h3 => (¬ r2 = 0 → M_laysRows x1 h3 (fun h4 => ∃ n11, M_sums_L29 Q n11 0 0 h4)) ∧ (r2 = 0 → Q (-3) h3))
set_option maxHeartbeats 4000000 in
set_option maxRecDepth 20000 in
theorem c_M_sums {G : Gx}  {x1 : Int32} {h : Hp} {Q : Int32 → Hp → Prop} (hw : M_sums x1 h Q) : Ct yX12_sums cX12_sums 4 (some .int) 6 G [.ref (gAd G 98), .int x1] h (QI G Q) := by
  refine ct_go [(0, .ref (gAd G 98)), (1, .int x1)] (plainFor_of_name (by decide)) rfl (Nat.le_of_ble_eq_true rfl) rfl ?_
  refine g_aload_n dX12_sums_0 rfl rfl ?_
  refine g_iconst (v := 0) dX12_sums_1 (by decide) ?_
  refine g_putI dX12_sums_2 fl_X12_1 sh98 rfl rfl pf_12_0 ?_
  refine g_heap (fun h1 eh1 => ?_)
  have hw := hw h1 eh1
  refine g_iload_n dX12_sums_5 rfl rfl ?_
  refine g_i2l dX12_sums_6 ?_
  refine g_lconst (v := (0 : Int64)) dX12_sums_7 (by decide) ?_
  refine g_ldc2 dX12_sums_8 kl_X12_440 ?_
  refine g_callSI [.long ((x1).toInt64), .long (0 : Int64), .long (6 : Int64)] dX12_sums_11 ml_X12_169 mk_X12_within rfl (Nat.le_of_ble_eq_true rfl) (Nat.le_of_ble_eq_true rfl) rfl (c_M_within hw) (fun r2 h3 hw => ?_)
  refine g_if_ne 20 dX12_sums_14 rfl (fun hc => ?_) (fun hc => ?_)
  · have hw := hw.1 hc
    refine g_aload_n dX12_sums_20 rfl rfl ?_
    refine g_iload_n dX12_sums_21 rfl rfl ?_
    refine g_callVV [.int x1] (ci := 12) dX12_sums_22 ml_X12_446 mk_X12_laysRows rfl rfl sh98 (Nat.le_of_ble_eq_true rfl) (Nat.le_of_ble_eq_true rfl) rfl (c_M_laysRows hw) (fun h4 hw => ?_)
    refine g_iconst (v := 0) dX12_sums_25 (by decide) ?_
    refine g_istore_n dX12_sums_26 rfl (by decide) (lv1 := [(0, .ref (gAd G 98)), (1, .int x1), (2, .int 0)]) rfl ?_
    refine g_iconst (v := 0) dX12_sums_27 (by decide) ?_
    refine g_istore_n dX12_sums_28 rfl (by decide) (lv1 := [(0, .ref (gAd G 98)), (1, .int x1), (2, .int 0), (3, .int 0)]) rfl ?_
    obtain ⟨n11, hw⟩ := hw
    refine g_lv [0, 2, 3] rfl ?_
    refine gl_M_sums_L29   _ _ _ _ hw
  · have hw := hw.2 hc
    refine g_bipush (v := (-3)) dX12_sums_17 (by decide) ?_
    exact g_iret dX12_sums_19 hw
theorem dX12_sumsAt_0 : decode cX12_sumsAt 0 = .ok (.aload_n 0, 1) := by decide +kernel
theorem dX12_sumsAt_1 : decode cX12_sumsAt 1 = .ok (.iconst 0, 1) := by decide +kernel
theorem dX12_sumsAt_2 : decode cX12_sumsAt 2 = .ok (.putfield 1, 3) := by decide +kernel
theorem dX12_sumsAt_5 : decode cX12_sumsAt 5 = .ok (.aload_n 0, 1) := by decide +kernel
theorem dX12_sumsAt_6 : decode cX12_sumsAt 6 = .ok (.iload_n 1, 1) := by decide +kernel
theorem dX12_sumsAt_7 : decode cX12_sumsAt 7 = .ok (.i2l, 1) := by decide +kernel
theorem dX12_sumsAt_8 : decode cX12_sumsAt 8 = .ok (.invokevirtual 256, 3) := by decide +kernel
theorem dX12_sumsAt_11 : decode cX12_sumsAt 11 = .ok (.ifCond .ne 6, 3) := by decide +kernel
theorem dX12_sumsAt_14 : decode cX12_sumsAt 14 = .ok (.bipush (-2), 2) := by decide +kernel
theorem dX12_sumsAt_16 : decode cX12_sumsAt 16 = .ok (.ireturn, 1) := by decide +kernel
theorem dX12_sumsAt_17 : decode cX12_sumsAt 17 = .ok (.iload_n 2, 1) := by decide +kernel
theorem dX12_sumsAt_18 : decode cX12_sumsAt 18 = .ok (.i2l, 1) := by decide +kernel
theorem dX12_sumsAt_19 : decode cX12_sumsAt 19 = .ok (.lconst 0, 1) := by decide +kernel
theorem dX12_sumsAt_20 : decode cX12_sumsAt 20 = .ok (.ldc2_w 440, 3) := by decide +kernel
theorem dX12_sumsAt_23 : decode cX12_sumsAt 23 = .ok (.invokestatic 169, 3) := by decide +kernel
theorem dX12_sumsAt_26 : decode cX12_sumsAt 26 = .ok (.ifCond .ne 6, 3) := by decide +kernel
theorem dX12_sumsAt_29 : decode cX12_sumsAt 29 = .ok (.bipush (-3), 2) := by decide +kernel
theorem dX12_sumsAt_31 : decode cX12_sumsAt 31 = .ok (.ireturn, 1) := by decide +kernel
theorem dX12_sumsAt_32 : decode cX12_sumsAt 32 = .ok (.aload_n 0, 1) := by decide +kernel
theorem dX12_sumsAt_33 : decode cX12_sumsAt 33 = .ok (.iload_n 2, 1) := by decide +kernel
theorem dX12_sumsAt_34 : decode cX12_sumsAt 34 = .ok (.invokevirtual 446, 3) := by decide +kernel
theorem dX12_sumsAt_37 : decode cX12_sumsAt 37 = .ok (.iconst 0, 1) := by decide +kernel
theorem dX12_sumsAt_38 : decode cX12_sumsAt 38 = .ok (.istore_n 3, 1) := by decide +kernel
theorem dX12_sumsAt_39 : decode cX12_sumsAt 39 = .ok (.iconst 0, 1) := by decide +kernel
theorem dX12_sumsAt_40 : decode cX12_sumsAt 40 = .ok (.istore 4, 2) := by decide +kernel
theorem dX12_sumsAt_42 : decode cX12_sumsAt 42 = .ok (.iload 4, 2) := by decide +kernel
theorem dX12_sumsAt_44 : decode cX12_sumsAt 44 = .ok (.sipush 1189, 3) := by decide +kernel
theorem dX12_sumsAt_47 : decode cX12_sumsAt 47 = .ok (.if_icmp .ge 33, 3) := by decide +kernel
theorem dX12_sumsAt_50 : decode cX12_sumsAt 50 = .ok (.iload_n 3, 1) := by decide +kernel
theorem dX12_sumsAt_51 : decode cX12_sumsAt 51 = .ok (.aload_n 0, 1) := by decide +kernel
theorem dX12_sumsAt_52 : decode cX12_sumsAt 52 = .ok (.getfield 85, 3) := by decide +kernel
theorem dX12_sumsAt_55 : decode cX12_sumsAt 55 = .ok (.sipush 1189, 3) := by decide +kernel
theorem dX12_sumsAt_58 : decode cX12_sumsAt 58 = .ok (.iload_n 1, 1) := by decide +kernel
theorem dX12_sumsAt_59 : decode cX12_sumsAt 59 = .ok (.imul, 1) := by decide +kernel
theorem dX12_sumsAt_60 : decode cX12_sumsAt 60 = .ok (.iload 4, 2) := by decide +kernel
theorem dX12_sumsAt_62 : decode cX12_sumsAt 62 = .ok (.iadd, 1) := by decide +kernel
theorem dX12_sumsAt_63 : decode cX12_sumsAt 63 = .ok (.iaload, 1) := by decide +kernel
theorem dX12_sumsAt_64 : decode cX12_sumsAt 64 = .ok (.ifCond .le 7, 3) := by decide +kernel
theorem dX12_sumsAt_67 : decode cX12_sumsAt 67 = .ok (.iconst 1, 1) := by decide +kernel
theorem dX12_sumsAt_68 : decode cX12_sumsAt 68 = .ok (.goto 4, 3) := by decide +kernel
theorem dX12_sumsAt_71 : decode cX12_sumsAt 71 = .ok (.iconst 0, 1) := by decide +kernel
theorem dX12_sumsAt_72 : decode cX12_sumsAt 72 = .ok (.iadd, 1) := by decide +kernel
theorem dX12_sumsAt_73 : decode cX12_sumsAt 73 = .ok (.istore_n 3, 1) := by decide +kernel
theorem dX12_sumsAt_74 : decode cX12_sumsAt 74 = .ok (.iinc 4 1, 3) := by decide +kernel
theorem dX12_sumsAt_77 : decode cX12_sumsAt 77 = .ok (.goto (-35), 3) := by decide +kernel
theorem dX12_sumsAt_80 : decode cX12_sumsAt 80 = .ok (.iload_n 3, 1) := by decide +kernel
theorem dX12_sumsAt_81 : decode cX12_sumsAt 81 = .ok (.ireturn, 1) := by decide +kernel
def M_sumsAt_L42 (x1 : Int32) (Q : Int32 → Hp → Prop) : Nat → Int32 → Int32 → Hp → Prop
  | 0, _, _, _ => False
  | n + 1, x3, x4, h => (1189 ≤ x4 → Q x3 h) ∧ (¬ 1189 ≤ x4 → vp_in (((1189 : Int32) * x1) + x4) 9512 ∧ ∀ J72 : Int32 → Hp → Prop, J72 = (fun s7 h8 => ∀ v9 : Int32, v9 = (x3 + s7) → ∀ v10 : Int32, v10 = (x4 + 1) → M_sumsAt_L42 x1 Q n v9 v10 h8) → ((gI h 121 ((((1189 : Int32) * x1) + x4)).toNatClampNeg) ≤ 0 → J72 0 h) ∧ (¬ (gI h 121 ((((1189 : Int32) * x1) + x4)).toNatClampNeg) ≤ 0 → J72 1 h))
set_option maxHeartbeats 4000000 in
set_option maxRecDepth 20000 in
theorem gl_M_sumsAt_L42 {G : Gx}  {x1 : Int32} {Q : Int32 → Hp → Prop} : ∀ (n : Nat) (x3 : Int32) (x4 : Int32) (h : Hp), M_sumsAt_L42 x1 Q n x3 x4 h → Go cX12_sumsAt 5 RX12 (some .int) 6 G (QI G Q) 42 [(0, .ref (gAd G 98)), (1, .int x1), (3, .int x3), (4, .int x4)] [] h := by
  intro n
  induction n with
  | zero => intro _ _ h hw; exact False.elim hw
  | succ n ih =>
    intro x3 x4 h hw
    refine g_iload dX12_sumsAt_42 rfl ?_
    refine g_sipush (v := 1189) dX12_sumsAt_44 (by decide) ?_
    refine g_icmp_ge 80 dX12_sumsAt_47 rfl (fun hc => ?_) (fun hc => ?_)
    · have hw := hw.1 hc
      refine g_iload_n dX12_sumsAt_80 rfl rfl ?_
      exact g_iret dX12_sumsAt_81 hw
    · have hw := hw.2 hc
      refine g_iload_n dX12_sumsAt_50 rfl rfl ?_
      refine g_aload_n dX12_sumsAt_51 rfl rfl ?_
      refine g_getA dX12_sumsAt_52 fl_X12_85 sh98 rfl ?_
      refine g_sipush (v := 1189) dX12_sumsAt_55 (by decide) ?_
      refine g_iload_n dX12_sumsAt_58 rfl rfl ?_
      refine g_imul dX12_sumsAt_59 ?_
      refine g_iload dX12_sumsAt_60 rfl ?_
      refine g_iadd dX12_sumsAt_62 ?_
      refine g_iald dX12_sumsAt_63 ia121 al121 hw.1 ?_
      have hw := hw.2
      refine jn_el hw (fun J72 eJ72 hw => ?_)
      have hJ72 : ∀ (s7 : Int32) (h8 : Hp), J72 s7 h8 → Go cX12_sumsAt 5 RX12 (some .int) 6 G (QI G Q) 72 [(0, .ref (gAd G 98)), (1, .int x1), (4, .int x4)] [.int s7, .int x3] h8 := by
        intro s7 h8 hw
        subst eJ72
        refine g_iadd dX12_sumsAt_72 ?_
        refine g_topi (fun v9 ev9 => ?_)
        have hw := hw v9 ev9
        refine g_istore_n dX12_sumsAt_73 rfl (by decide) (lv1 := [(0, .ref (gAd G 98)), (1, .int x1), (3, .int v9), (4, .int x4)]) rfl ?_
        obtain ⟨v10, ev10⟩ : ∃ y : Int32, y = (x4 + 1) := ⟨_, rfl⟩
        have hw := hw v10 ev10
        refine g_iinc dX12_sumsAt_74 rfl (by rw [ev10]; rfl) (by decide) (lv1 := [(0, .ref (gAd G 98)), (1, .int x1), (3, .int v9), (4, .int v10)]) rfl ?_
        refine g_goto 42 dX12_sumsAt_77 rfl ?_
        exact ih _ _ _ hw
      refine g_if_le 71 dX12_sumsAt_64 rfl (fun hc => ?_) (fun hc => ?_)
      · have hw := hw.1 hc
        refine g_iconst (v := 0) dX12_sumsAt_71 (by decide) ?_
        refine g_lv [0, 1, 3] rfl ?_
        exact hJ72 _ _ hw
      · have hw := hw.2 hc
        refine g_iconst (v := 1) dX12_sumsAt_67 (by decide) ?_
        refine g_goto 72 dX12_sumsAt_68 rfl ?_
        refine g_lv [0, 1, 3] rfl ?_
        exact hJ72 _ _ hw
def M_sumsAt (x1 : Int32) (x2 : Int32) (h : Hp) (Q : Int32 → Hp → Prop) : Prop := ∀ h1 : Hp, h1 = sI h 98 0 0 → M_isPlace ((x1).toInt64) h1 (fun r2 h3 => (¬ r2 = 0 → M_within ((x2).toInt64) (0 : Int64) (6 : Int64) h3 (fun r4 h5 => (¬ r4 = 0 → M_laysRows x2 h5 (fun h6 => ∃ n11, M_sumsAt_L42 x1 Q n11 0 0 h6)) ∧ (r4 = 0 → Q (-3) h5))) ∧ (r2 = 0 → Q (-2) h3))
set_option maxHeartbeats 4000000 in
set_option maxRecDepth 20000 in
theorem c_M_sumsAt {G : Gx}  {x1 : Int32} {x2 : Int32} {h : Hp} {Q : Int32 → Hp → Prop} (hw : M_sumsAt x1 x2 h Q) : Ct yX12_sumsAt cX12_sumsAt 5 (some .int) 6 G [.ref (gAd G 98), .int x1, .int x2] h (QI G Q) := by
  refine ct_go [(0, .ref (gAd G 98)), (1, .int x1), (2, .int x2)] (plainFor_of_name (by decide)) rfl (Nat.le_of_ble_eq_true rfl) rfl ?_
  refine g_aload_n dX12_sumsAt_0 rfl rfl ?_
  refine g_iconst (v := 0) dX12_sumsAt_1 (by decide) ?_
  refine g_putI dX12_sumsAt_2 fl_X12_1 sh98 rfl rfl pf_12_0 ?_
  refine g_heap (fun h1 eh1 => ?_)
  have hw := hw h1 eh1
  refine g_aload_n dX12_sumsAt_5 rfl rfl ?_
  refine g_iload_n dX12_sumsAt_6 rfl rfl ?_
  refine g_i2l dX12_sumsAt_7 ?_
  refine g_callVI [.long ((x1).toInt64)] (ci := 12) dX12_sumsAt_8 ml_X12_256 mk_X12_isPlace rfl rfl sh98 (Nat.le_of_ble_eq_true rfl) (Nat.le_of_ble_eq_true rfl) rfl (c_M_isPlace hw) (fun r2 h3 hw => ?_)
  refine g_if_ne 17 dX12_sumsAt_11 rfl (fun hc => ?_) (fun hc => ?_)
  · have hw := hw.1 hc
    refine g_iload_n dX12_sumsAt_17 rfl rfl ?_
    refine g_i2l dX12_sumsAt_18 ?_
    refine g_lconst (v := (0 : Int64)) dX12_sumsAt_19 (by decide) ?_
    refine g_ldc2 dX12_sumsAt_20 kl_X12_440 ?_
    refine g_callSI [.long ((x2).toInt64), .long (0 : Int64), .long (6 : Int64)] dX12_sumsAt_23 ml_X12_169 mk_X12_within rfl (Nat.le_of_ble_eq_true rfl) (Nat.le_of_ble_eq_true rfl) rfl (c_M_within hw) (fun r4 h5 hw => ?_)
    refine g_if_ne 32 dX12_sumsAt_26 rfl (fun hc => ?_) (fun hc => ?_)
    · have hw := hw.1 hc
      refine g_aload_n dX12_sumsAt_32 rfl rfl ?_
      refine g_iload_n dX12_sumsAt_33 rfl rfl ?_
      refine g_callVV [.int x2] (ci := 12) dX12_sumsAt_34 ml_X12_446 mk_X12_laysRows rfl rfl sh98 (Nat.le_of_ble_eq_true rfl) (Nat.le_of_ble_eq_true rfl) rfl (c_M_laysRows hw) (fun h6 hw => ?_)
      refine g_iconst (v := 0) dX12_sumsAt_37 (by decide) ?_
      refine g_istore_n dX12_sumsAt_38 rfl (by decide) (lv1 := [(0, .ref (gAd G 98)), (1, .int x1), (2, .int x2), (3, .int 0)]) rfl ?_
      refine g_iconst (v := 0) dX12_sumsAt_39 (by decide) ?_
      refine g_istore dX12_sumsAt_40 (by decide) (lv1 := [(0, .ref (gAd G 98)), (1, .int x1), (2, .int x2), (3, .int 0), (4, .int 0)]) rfl ?_
      obtain ⟨n11, hw⟩ := hw
      refine g_lv [0, 1, 3, 4] rfl ?_
      refine gl_M_sumsAt_L42   _ _ _ _ hw
    · have hw := hw.2 hc
      refine g_bipush (v := (-3)) dX12_sumsAt_29 (by decide) ?_
      exact g_iret dX12_sumsAt_31 hw
  · have hw := hw.2 hc
    refine g_bipush (v := (-2)) dX12_sumsAt_14 (by decide) ?_
    exact g_iret dX12_sumsAt_16 hw
theorem dX12_noPaid_0 : decode cX12_noPaid 0 = .ok (.aload_n 0, 1) := by decide +kernel
theorem dX12_noPaid_1 : decode cX12_noPaid 1 = .ok (.iload_n 1, 1) := by decide +kernel
theorem dX12_noPaid_2 : decode cX12_noPaid 2 = .ok (.invokevirtual 338, 3) := by decide +kernel
theorem dX12_noPaid_5 : decode cX12_noPaid 5 = .ok (.istore_n 2, 1) := by decide +kernel
theorem dX12_noPaid_6 : decode cX12_noPaid 6 = .ok (.iload_n 2, 1) := by decide +kernel
theorem dX12_noPaid_7 : decode cX12_noPaid 7 = .ok (.ifCond .eq 5, 3) := by decide +kernel
theorem dX12_noPaid_10 : decode cX12_noPaid 10 = .ok (.iload_n 2, 1) := by decide +kernel
theorem dX12_noPaid_11 : decode cX12_noPaid 11 = .ok (.ireturn, 1) := by decide +kernel
theorem dX12_noPaid_12 : decode cX12_noPaid 12 = .ok (.aload_n 0, 1) := by decide +kernel
theorem dX12_noPaid_13 : decode cX12_noPaid 13 = .ok (.getfield 97, 3) := by decide +kernel
theorem dX12_noPaid_16 : decode cX12_noPaid 16 = .ok (.iload_n 1, 1) := by decide +kernel
theorem dX12_noPaid_17 : decode cX12_noPaid 17 = .ok (.iaload, 1) := by decide +kernel
theorem dX12_noPaid_18 : decode cX12_noPaid 18 = .ok (.i2l, 1) := by decide +kernel
theorem dX12_noPaid_19 : decode cX12_noPaid 19 = .ok (.lconst 1, 1) := by decide +kernel
theorem dX12_noPaid_20 : decode cX12_noPaid 20 = .ok (.ldc2_w 452, 3) := by decide +kernel
theorem dX12_noPaid_23 : decode cX12_noPaid 23 = .ok (.invokestatic 169, 3) := by decide +kernel
theorem dX12_noPaid_26 : decode cX12_noPaid 26 = .ok (.ifCond .ne 6, 3) := by decide +kernel
theorem dX12_noPaid_29 : decode cX12_noPaid 29 = .ok (.bipush (-4), 2) := by decide +kernel
theorem dX12_noPaid_31 : decode cX12_noPaid 31 = .ok (.ireturn, 1) := by decide +kernel
theorem dX12_noPaid_32 : decode cX12_noPaid 32 = .ok (.iconst 0, 1) := by decide +kernel
theorem dX12_noPaid_33 : decode cX12_noPaid 33 = .ok (.istore_n 3, 1) := by decide +kernel
theorem dX12_noPaid_34 : decode cX12_noPaid 34 = .ok (.iload_n 3, 1) := by decide +kernel
theorem dX12_noPaid_35 : decode cX12_noPaid 35 = .ok (.aload_n 0, 1) := by decide +kernel
theorem dX12_noPaid_36 : decode cX12_noPaid 36 = .ok (.getfield 97, 3) := by decide +kernel
theorem dX12_noPaid_39 : decode cX12_noPaid 39 = .ok (.iload_n 1, 1) := by decide +kernel
theorem dX12_noPaid_40 : decode cX12_noPaid 40 = .ok (.iaload, 1) := by decide +kernel
theorem dX12_noPaid_41 : decode cX12_noPaid 41 = .ok (.if_icmp .ge 61, 3) := by decide +kernel
theorem dX12_noPaid_44 : decode cX12_noPaid 44 = .ok (.aload_n 0, 1) := by decide +kernel
theorem dX12_noPaid_45 : decode cX12_noPaid 45 = .ok (.getfield 100, 3) := by decide +kernel
theorem dX12_noPaid_48 : decode cX12_noPaid 48 = .ok (.bipush 40, 2) := by decide +kernel
theorem dX12_noPaid_50 : decode cX12_noPaid 50 = .ok (.iload_n 1, 1) := by decide +kernel
theorem dX12_noPaid_51 : decode cX12_noPaid 51 = .ok (.imul, 1) := by decide +kernel
theorem dX12_noPaid_52 : decode cX12_noPaid 52 = .ok (.iload_n 3, 1) := by decide +kernel
theorem dX12_noPaid_53 : decode cX12_noPaid 53 = .ok (.iadd, 1) := by decide +kernel
theorem dX12_noPaid_54 : decode cX12_noPaid 54 = .ok (.laload, 1) := by decide +kernel
theorem dX12_noPaid_55 : decode cX12_noPaid 55 = .ok (.lstore 4, 2) := by decide +kernel
theorem dX12_noPaid_57 : decode cX12_noPaid 57 = .ok (.lload 4, 2) := by decide +kernel
theorem dX12_noPaid_59 : decode cX12_noPaid 59 = .ok (.lconst 0, 1) := by decide +kernel
theorem dX12_noPaid_60 : decode cX12_noPaid 60 = .ok (.lcmp, 1) := by decide +kernel
theorem dX12_noPaid_61 : decode cX12_noPaid 61 = .ok (.ifCond .lt 32, 3) := by decide +kernel
theorem dX12_noPaid_64 : decode cX12_noPaid 64 = .ok (.aload_n 0, 1) := by decide +kernel
theorem dX12_noPaid_65 : decode cX12_noPaid 65 = .ok (.lload 4, 2) := by decide +kernel
theorem dX12_noPaid_67 : decode cX12_noPaid 67 = .ok (.ldc2_w 321, 3) := by decide +kernel
theorem dX12_noPaid_70 : decode cX12_noPaid 70 = .ok (.ldiv, 1) := by decide +kernel
theorem dX12_noPaid_71 : decode cX12_noPaid 71 = .ok (.invokevirtual 275, 3) := by decide +kernel
theorem dX12_noPaid_74 : decode cX12_noPaid 74 = .ok (.ifCond .eq 19, 3) := by decide +kernel
theorem dX12_noPaid_77 : decode cX12_noPaid 77 = .ok (.lload 4, 2) := by decide +kernel
theorem dX12_noPaid_79 : decode cX12_noPaid 79 = .ok (.ldc2_w 321, 3) := by decide +kernel
theorem dX12_noPaid_82 : decode cX12_noPaid 82 = .ok (.lrem, 1) := by decide +kernel
theorem dX12_noPaid_83 : decode cX12_noPaid 83 = .ok (.lconst 1, 1) := by decide +kernel
theorem dX12_noPaid_84 : decode cX12_noPaid 84 = .ok (.ldc2_w 454, 3) := by decide +kernel
theorem dX12_noPaid_87 : decode cX12_noPaid 87 = .ok (.invokestatic 169, 3) := by decide +kernel
theorem dX12_noPaid_90 : decode cX12_noPaid 90 = .ok (.ifCond .ne 6, 3) := by decide +kernel
theorem dX12_noPaid_93 : decode cX12_noPaid 93 = .ok (.bipush (-3), 2) := by decide +kernel
theorem dX12_noPaid_95 : decode cX12_noPaid 95 = .ok (.ireturn, 1) := by decide +kernel
theorem dX12_noPaid_96 : decode cX12_noPaid 96 = .ok (.iinc 3 1, 3) := by decide +kernel
theorem dX12_noPaid_99 : decode cX12_noPaid 99 = .ok (.goto (-65), 3) := by decide +kernel
theorem dX12_noPaid_102 : decode cX12_noPaid 102 = .ok (.iconst 0, 1) := by decide +kernel
theorem dX12_noPaid_103 : decode cX12_noPaid 103 = .ok (.ireturn, 1) := by decide +kernel
theorem kl_X12_452 : Cond.constantLong RX12 452 (8) ∈ Wd := mW 1978 (by decide +kernel) rfl
theorem kl_X12_454 : Cond.constantLong RX12 454 (199) ∈ Wd := mW 1979 (by decide +kernel) rfl
def M_noPaid_L34 (x1 : Int32) (Q : Int32 → Hp → Prop) : Nat → Int32 → Hp → Prop
  | 0, _, _ => False
  | n + 1, x3, h => vp_in x1 4 ∧ ((gI h 125 (x1).toNatClampNeg) ≤ x3 → Q 0 h) ∧ (¬ (gI h 125 (x1).toNatClampNeg) ≤ x3 → vp_in (((40 : Int32) * x1) + x3) 160 ∧ ∀ v5 : Int64, v5 = (gJ h 126 ((((40 : Int32) * x1) + x3)).toNatClampNeg) → (v5 < (0 : Int64) → Q (-3) h) ∧ (¬ v5 < (0 : Int64) → M_isRoad (v5 / (1000 : Int64)) h (fun r6 h7 => (r6 = 0 → Q (-3) h7) ∧ (¬ r6 = 0 → M_within (v5 - v5 / (1000 : Int64) * (1000 : Int64)) (1 : Int64) (199 : Int64) h7 (fun r8 h9 => (¬ r8 = 0 → ∀ v10 : Int32, v10 = (x3 + 1) → M_noPaid_L34 x1 Q n v10 h9) ∧ (r8 = 0 → Q (-3) h9))))))
set_option maxHeartbeats 4000000 in
set_option maxRecDepth 20000 in
theorem gl_M_noPaid_L34 {G : Gx}  {x1 : Int32} {Q : Int32 → Hp → Prop} : ∀ (n : Nat) (x3 : Int32) (h : Hp), M_noPaid_L34 x1 Q n x3 h → Go cX12_noPaid 6 RX12 (some .int) 3 G (QI G Q) 34 [(0, .ref (gAd G 98)), (1, .int x1), (3, .int x3)] [] h := by
  intro n
  induction n with
  | zero => intro _ h hw; exact False.elim hw
  | succ n ih =>
    intro x3 h hw
    refine g_iload_n dX12_noPaid_34 rfl rfl ?_
    refine g_aload_n dX12_noPaid_35 rfl rfl ?_
    refine g_getA dX12_noPaid_36 fl_X12_97 sh98 rfl ?_
    refine g_iload_n dX12_noPaid_39 rfl rfl ?_
    refine g_iald dX12_noPaid_40 ia125 al125 hw.1 ?_
    have hw := hw.2
    refine g_icmp_ge 102 dX12_noPaid_41 rfl (fun hc => ?_) (fun hc => ?_)
    · have hw := hw.1 hc
      refine g_iconst (v := 0) dX12_noPaid_102 (by decide) ?_
      exact g_iret dX12_noPaid_103 hw
    · have hw := hw.2 hc
      refine g_aload_n dX12_noPaid_44 rfl rfl ?_
      refine g_getA dX12_noPaid_45 fl_X12_100 sh98 rfl ?_
      refine g_bipush (v := 40) dX12_noPaid_48 (by decide) ?_
      refine g_iload_n dX12_noPaid_50 rfl rfl ?_
      refine g_imul dX12_noPaid_51 ?_
      refine g_iload_n dX12_noPaid_52 rfl rfl ?_
      refine g_iadd dX12_noPaid_53 ?_
      refine g_lald dX12_noPaid_54 ia126 al126 hw.1 ?_
      have hw := hw.2
      refine g_topj (fun v5 ev5 => ?_)
      have hw := hw v5 ev5
      refine g_lstore dX12_noPaid_55 (by decide) (lv1 := [(0, .ref (gAd G 98)), (1, .int x1), (3, .int x3), (4, .long v5)]) rfl ?_
      refine g_lload dX12_noPaid_57 rfl ?_
      refine g_lconst (v := (0 : Int64)) dX12_noPaid_59 (by decide) ?_
      refine g_lc_lt 93 dX12_noPaid_60 dX12_noPaid_61 rfl (fun hc => ?_) (fun hc => ?_)
      · have hw := hw.1 hc
        refine g_bipush (v := (-3)) dX12_noPaid_93 (by decide) ?_
        exact g_iret dX12_noPaid_95 hw
      · have hw := hw.2 hc
        refine g_aload_n dX12_noPaid_64 rfl rfl ?_
        refine g_lload dX12_noPaid_65 rfl ?_
        refine g_ldc2 dX12_noPaid_67 kl_X12_321 ?_
        refine g_ldiv dX12_noPaid_70 (by decide) ?_
        refine g_callVI [.long (v5 / (1000 : Int64))] (ci := 12) dX12_noPaid_71 ml_X12_275 mk_X12_isRoad rfl rfl sh98 (Nat.le_of_ble_eq_true rfl) (Nat.le_of_ble_eq_true rfl) rfl (c_M_isRoad hw) (fun r6 h7 hw => ?_)
        refine g_if_eq 93 dX12_noPaid_74 rfl (fun hc => ?_) (fun hc => ?_)
        · have hw := hw.1 hc
          refine g_bipush (v := (-3)) dX12_noPaid_93 (by decide) ?_
          exact g_iret dX12_noPaid_95 hw
        · have hw := hw.2 hc
          refine g_lload dX12_noPaid_77 rfl ?_
          refine g_ldc2 dX12_noPaid_79 kl_X12_321 ?_
          refine g_lrem dX12_noPaid_82 (by decide) ?_
          refine g_lconst (v := (1 : Int64)) dX12_noPaid_83 (by decide) ?_
          refine g_ldc2 dX12_noPaid_84 kl_X12_454 ?_
          refine g_callSI [.long (v5 - v5 / (1000 : Int64) * (1000 : Int64)), .long (1 : Int64), .long (199 : Int64)] dX12_noPaid_87 ml_X12_169 mk_X12_within rfl (Nat.le_of_ble_eq_true rfl) (Nat.le_of_ble_eq_true rfl) rfl (c_M_within hw) (fun r8 h9 hw => ?_)
          refine g_if_ne 96 dX12_noPaid_90 rfl (fun hc => ?_) (fun hc => ?_)
          · have hw := hw.1 hc
            obtain ⟨v10, ev10⟩ : ∃ y : Int32, y = (x3 + 1) := ⟨_, rfl⟩
            have hw := hw v10 ev10
            refine g_iinc dX12_noPaid_96 rfl (by rw [ev10]; rfl) (by decide) (lv1 := [(0, .ref (gAd G 98)), (1, .int x1), (3, .int v10), (4, .long v5)]) rfl ?_
            refine g_goto 34 dX12_noPaid_99 rfl ?_
            refine g_lv [0, 1, 2] rfl ?_
            exact ih _ _ hw
          · have hw := hw.2 hc
            refine g_bipush (v := (-3)) dX12_noPaid_93 (by decide) ?_
            exact g_iret dX12_noPaid_95 hw
def M_noPaid (x1 : Int32) (h : Hp) (Q : Int32 → Hp → Prop) : Prop := M_noTray x1 h (fun r1 h2 => (r1 = 0 → vp_in x1 4 ∧ M_within (((gI h2 125 (x1).toNatClampNeg)).toInt64) (1 : Int64) (8 : Int64) h2 (fun r3 h4 => (¬ r3 = 0 → ∃ n11, M_noPaid_L34 x1 Q n11 0 h4) ∧ (r3 = 0 → Q (-4) h4))) ∧ (¬ r1 = 0 → Q r1 h2))
set_option maxHeartbeats 4000000 in
set_option maxRecDepth 20000 in
theorem c_M_noPaid {G : Gx}  {x1 : Int32} {h : Hp} {Q : Int32 → Hp → Prop} (hw : M_noPaid x1 h Q) : Ct yX12_noPaid cX12_noPaid 6 (some .int) 3 G [.ref (gAd G 98), .int x1] h (QI G Q) := by
  refine ct_go [(0, .ref (gAd G 98)), (1, .int x1)] (plainFor_of_name (by decide)) rfl (Nat.le_of_ble_eq_true rfl) rfl ?_
  refine g_aload_n dX12_noPaid_0 rfl rfl ?_
  refine g_iload_n dX12_noPaid_1 rfl rfl ?_
  refine g_callVI [.int x1] (ci := 12) dX12_noPaid_2 ml_X12_338 mk_X12_noTray rfl rfl sh98 (Nat.le_of_ble_eq_true rfl) (Nat.le_of_ble_eq_true rfl) rfl (c_M_noTray hw) (fun r1 h2 hw => ?_)
  refine g_istore_n dX12_noPaid_5 rfl (by decide) (lv1 := [(0, .ref (gAd G 98)), (1, .int x1), (2, .int r1)]) rfl ?_
  refine g_iload_n dX12_noPaid_6 rfl rfl ?_
  refine g_if_eq 12 dX12_noPaid_7 rfl (fun hc => ?_) (fun hc => ?_)
  · have hw := hw.1 hc
    refine g_aload_n dX12_noPaid_12 rfl rfl ?_
    refine g_getA dX12_noPaid_13 fl_X12_97 sh98 rfl ?_
    refine g_iload_n dX12_noPaid_16 rfl rfl ?_
    refine g_iald dX12_noPaid_17 ia125 al125 hw.1 ?_
    have hw := hw.2
    refine g_i2l dX12_noPaid_18 ?_
    refine g_lconst (v := (1 : Int64)) dX12_noPaid_19 (by decide) ?_
    refine g_ldc2 dX12_noPaid_20 kl_X12_452 ?_
    refine g_callSI [.long (((gI h2 125 (x1).toNatClampNeg)).toInt64), .long (1 : Int64), .long (8 : Int64)] dX12_noPaid_23 ml_X12_169 mk_X12_within rfl (Nat.le_of_ble_eq_true rfl) (Nat.le_of_ble_eq_true rfl) rfl (c_M_within hw) (fun r3 h4 hw => ?_)
    refine g_if_ne 32 dX12_noPaid_26 rfl (fun hc => ?_) (fun hc => ?_)
    · have hw := hw.1 hc
      refine g_iconst (v := 0) dX12_noPaid_32 (by decide) ?_
      refine g_istore_n dX12_noPaid_33 rfl (by decide) (lv1 := [(0, .ref (gAd G 98)), (1, .int x1), (2, .int r1), (3, .int 0)]) rfl ?_
      obtain ⟨n11, hw⟩ := hw
      refine g_lv [0, 1, 3] rfl ?_
      refine gl_M_noPaid_L34   _ _ _ hw
    · have hw := hw.2 hc
      refine g_bipush (v := (-4)) dX12_noPaid_29 (by decide) ?_
      exact g_iret dX12_noPaid_31 hw
  · have hw := hw.2 hc
    refine g_iload_n dX12_noPaid_10 rfl rfl ?_
    exact g_iret dX12_noPaid_11 hw
theorem dX12_weathersOf_0 : decode cX12_weathersOf 0 = .ok (.iconst 0, 1) := by decide +kernel
theorem dX12_weathersOf_1 : decode cX12_weathersOf 1 = .ok (.istore_n 2, 1) := by decide +kernel
theorem dX12_weathersOf_2 : decode cX12_weathersOf 2 = .ok (.iconst 0, 1) := by decide +kernel
theorem dX12_weathersOf_3 : decode cX12_weathersOf 3 = .ok (.istore_n 3, 1) := by decide +kernel
theorem dX12_weathersOf_4 : decode cX12_weathersOf 4 = .ok (.iload_n 3, 1) := by decide +kernel
theorem dX12_weathersOf_5 : decode cX12_weathersOf 5 = .ok (.bipush 10, 2) := by decide +kernel
theorem dX12_weathersOf_7 : decode cX12_weathersOf 7 = .ok (.if_icmp .ge 95, 3) := by decide +kernel
theorem dX12_weathersOf_10 : decode cX12_weathersOf 10 = .ok (.iconst 1, 1) := by decide +kernel
theorem dX12_weathersOf_11 : decode cX12_weathersOf 11 = .ok (.istore 4, 2) := by decide +kernel
theorem dX12_weathersOf_13 : decode cX12_weathersOf 13 = .ok (.iconst 0, 1) := by decide +kernel
theorem dX12_weathersOf_14 : decode cX12_weathersOf 14 = .ok (.istore 5, 2) := by decide +kernel
theorem dX12_weathersOf_16 : decode cX12_weathersOf 16 = .ok (.iload 5, 2) := by decide +kernel
theorem dX12_weathersOf_18 : decode cX12_weathersOf 18 = .ok (.aload_n 0, 1) := by decide +kernel
theorem dX12_weathersOf_19 : decode cX12_weathersOf 19 = .ok (.getfield 97, 3) := by decide +kernel
theorem dX12_weathersOf_22 : decode cX12_weathersOf 22 = .ok (.iload_n 1, 1) := by decide +kernel
theorem dX12_weathersOf_23 : decode cX12_weathersOf 23 = .ok (.iaload, 1) := by decide +kernel
theorem dX12_weathersOf_24 : decode cX12_weathersOf 24 = .ok (.if_icmp .ge 57, 3) := by decide +kernel
theorem dX12_weathersOf_27 : decode cX12_weathersOf 27 = .ok (.aload_n 0, 1) := by decide +kernel
theorem dX12_weathersOf_28 : decode cX12_weathersOf 28 = .ok (.getfield 100, 3) := by decide +kernel
theorem dX12_weathersOf_31 : decode cX12_weathersOf 31 = .ok (.bipush 40, 2) := by decide +kernel
theorem dX12_weathersOf_33 : decode cX12_weathersOf 33 = .ok (.iload_n 1, 1) := by decide +kernel
theorem dX12_weathersOf_34 : decode cX12_weathersOf 34 = .ok (.imul, 1) := by decide +kernel
theorem dX12_weathersOf_35 : decode cX12_weathersOf 35 = .ok (.iload 5, 2) := by decide +kernel
theorem dX12_weathersOf_37 : decode cX12_weathersOf 37 = .ok (.iadd, 1) := by decide +kernel
theorem dX12_weathersOf_38 : decode cX12_weathersOf 38 = .ok (.laload, 1) := by decide +kernel
theorem dX12_weathersOf_39 : decode cX12_weathersOf 39 = .ok (.l2i, 1) := by decide +kernel
theorem dX12_weathersOf_40 : decode cX12_weathersOf 40 = .ok (.istore 6, 2) := by decide +kernel
theorem dX12_weathersOf_42 : decode cX12_weathersOf 42 = .ok (.iload 4, 2) := by decide +kernel
theorem dX12_weathersOf_44 : decode cX12_weathersOf 44 = .ok (.aload_n 0, 1) := by decide +kernel
theorem dX12_weathersOf_45 : decode cX12_weathersOf 45 = .ok (.iload 6, 2) := by decide +kernel
theorem dX12_weathersOf_47 : decode cX12_weathersOf 47 = .ok (.sipush 1000, 3) := by decide +kernel
theorem dX12_weathersOf_50 : decode cX12_weathersOf 50 = .ok (.idiv, 1) := by decide +kernel
theorem dX12_weathersOf_51 : decode cX12_weathersOf 51 = .ok (.iload_n 3, 1) := by decide +kernel
theorem dX12_weathersOf_52 : decode cX12_weathersOf 52 = .ok (.invokevirtual 247, 3) := by decide +kernel
theorem dX12_weathersOf_55 : decode cX12_weathersOf 55 = .ok (.bipush 100, 2) := by decide +kernel
theorem dX12_weathersOf_57 : decode cX12_weathersOf 57 = .ok (.iadd, 1) := by decide +kernel
theorem dX12_weathersOf_58 : decode cX12_weathersOf 58 = .ok (.iload 6, 2) := by decide +kernel
theorem dX12_weathersOf_60 : decode cX12_weathersOf 60 = .ok (.sipush 1000, 3) := by decide +kernel
theorem dX12_weathersOf_63 : decode cX12_weathersOf 63 = .ok (.irem, 1) := by decide +kernel
theorem dX12_weathersOf_64 : decode cX12_weathersOf 64 = .ok (.if_icmp .ne 7, 3) := by decide +kernel
theorem dX12_weathersOf_67 : decode cX12_weathersOf 67 = .ok (.iconst 1, 1) := by decide +kernel
theorem dX12_weathersOf_68 : decode cX12_weathersOf 68 = .ok (.goto 4, 3) := by decide +kernel
theorem dX12_weathersOf_71 : decode cX12_weathersOf 71 = .ok (.iconst 0, 1) := by decide +kernel
theorem dX12_weathersOf_72 : decode cX12_weathersOf 72 = .ok (.iand, 1) := by decide +kernel
theorem dX12_weathersOf_73 : decode cX12_weathersOf 73 = .ok (.istore 4, 2) := by decide +kernel
theorem dX12_weathersOf_75 : decode cX12_weathersOf 75 = .ok (.iinc 5 1, 3) := by decide +kernel
theorem dX12_weathersOf_78 : decode cX12_weathersOf 78 = .ok (.goto (-62), 3) := by decide +kernel
theorem dX12_weathersOf_81 : decode cX12_weathersOf 81 = .ok (.iload_n 2, 1) := by decide +kernel
theorem dX12_weathersOf_82 : decode cX12_weathersOf 82 = .ok (.iload 4, 2) := by decide +kernel
theorem dX12_weathersOf_84 : decode cX12_weathersOf 84 = .ok (.ifCond .eq 9, 3) := by decide +kernel
theorem dX12_weathersOf_87 : decode cX12_weathersOf 87 = .ok (.iconst 1, 1) := by decide +kernel
theorem dX12_weathersOf_88 : decode cX12_weathersOf 88 = .ok (.iload_n 3, 1) := by decide +kernel
theorem dX12_weathersOf_89 : decode cX12_weathersOf 89 = .ok (.ishl, 1) := by decide +kernel
theorem dX12_weathersOf_90 : decode cX12_weathersOf 90 = .ok (.goto 4, 3) := by decide +kernel
theorem dX12_weathersOf_93 : decode cX12_weathersOf 93 = .ok (.iconst 0, 1) := by decide +kernel
theorem dX12_weathersOf_94 : decode cX12_weathersOf 94 = .ok (.ior, 1) := by decide +kernel
theorem dX12_weathersOf_95 : decode cX12_weathersOf 95 = .ok (.istore_n 2, 1) := by decide +kernel
theorem dX12_weathersOf_96 : decode cX12_weathersOf 96 = .ok (.iinc 3 1, 3) := by decide +kernel
theorem dX12_weathersOf_99 : decode cX12_weathersOf 99 = .ok (.goto (-95), 3) := by decide +kernel
theorem dX12_weathersOf_102 : decode cX12_weathersOf 102 = .ok (.iload_n 2, 1) := by decide +kernel
theorem dX12_weathersOf_103 : decode cX12_weathersOf 103 = .ok (.ireturn, 1) := by decide +kernel
def M_weathersOf_L16 (x1 : Int32) (x2 : Int32) (x3 : Int32) (K81 : Int32 → Hp → Prop) : Nat → Int32 → Int32 → Hp → Prop
  | 0, _, _, _ => False
  | n + 1, x4, x5, h => vp_in x1 4 ∧ ((gI h 125 (x1).toNatClampNeg) ≤ x5 → K81 x4 h) ∧ (¬ (gI h 125 (x1).toNatClampNeg) ≤ x5 → vp_in (((40 : Int32) * x1) + x5) 160 ∧ ∀ v1 : Int32, v1 = (((gJ h 126 ((((40 : Int32) * x1) + x5)).toNatClampNeg)).toInt32) → M_payBy (v1 / 1000) x3 h (fun r2 h3 => ∀ J72 : Int32 → Hp → Prop, J72 = (fun s4 h5 => ∀ v6 : Int32, v6 = (x4 &&& s4) → ∀ v7 : Int32, v7 = (x5 + 1) → M_weathersOf_L16 x1 x2 x3 K81 n v6 v7 h5) → (¬ (r2 + 100) = (v1 - v1 / 1000 * 1000) → J72 0 h3) ∧ ((r2 + 100) = (v1 - v1 / 1000 * 1000) → J72 1 h3)))
set_option maxHeartbeats 4000000 in
set_option maxRecDepth 20000 in
theorem gl_M_weathersOf_L16 {G : Gx}  {x1 : Int32} {x2 : Int32} {x3 : Int32} {Q : Int32 → Hp → Prop} {K81 : Int32 → Hp → Prop} (hK81 : ∀ (y4 : Int32) (h1 : Hp), K81 y4 h1 → Go cX12_weathersOf 7 RX12 (some .int) 4 G (QI G Q) 81 [(0, .ref (gAd G 98)), (1, .int x1), (2, .int x2), (3, .int x3), (4, .int y4)] [] h1) : ∀ (n : Nat) (x4 : Int32) (x5 : Int32) (h : Hp), M_weathersOf_L16 x1 x2 x3 K81 n x4 x5 h → Go cX12_weathersOf 7 RX12 (some .int) 4 G (QI G Q) 16 [(0, .ref (gAd G 98)), (1, .int x1), (2, .int x2), (3, .int x3), (4, .int x4), (5, .int x5)] [] h := by
  intro n
  induction n with
  | zero => intro _ _ h hw; exact False.elim hw
  | succ n ih =>
    intro x4 x5 h hw
    refine g_iload dX12_weathersOf_16 rfl ?_
    refine g_aload_n dX12_weathersOf_18 rfl rfl ?_
    refine g_getA dX12_weathersOf_19 fl_X12_97 sh98 rfl ?_
    refine g_iload_n dX12_weathersOf_22 rfl rfl ?_
    refine g_iald dX12_weathersOf_23 ia125 al125 hw.1 ?_
    have hw := hw.2
    refine g_icmp_ge 81 dX12_weathersOf_24 rfl (fun hc => ?_) (fun hc => ?_)
    · have hw := hw.1 hc
      refine g_lv [0, 1, 2, 3, 4] rfl ?_
      exact hK81 _ _ hw
    · have hw := hw.2 hc
      refine g_aload_n dX12_weathersOf_27 rfl rfl ?_
      refine g_getA dX12_weathersOf_28 fl_X12_100 sh98 rfl ?_
      refine g_bipush (v := 40) dX12_weathersOf_31 (by decide) ?_
      refine g_iload_n dX12_weathersOf_33 rfl rfl ?_
      refine g_imul dX12_weathersOf_34 ?_
      refine g_iload dX12_weathersOf_35 rfl ?_
      refine g_iadd dX12_weathersOf_37 ?_
      refine g_lald dX12_weathersOf_38 ia126 al126 hw.1 ?_
      have hw := hw.2
      refine g_l2i dX12_weathersOf_39 ?_
      refine g_topi (fun v1 ev1 => ?_)
      have hw := hw v1 ev1
      refine g_istore dX12_weathersOf_40 (by decide) (lv1 := [(0, .ref (gAd G 98)), (1, .int x1), (2, .int x2), (3, .int x3), (4, .int x4), (5, .int x5), (6, .int v1)]) rfl ?_
      refine g_iload dX12_weathersOf_42 rfl ?_
      refine g_aload_n dX12_weathersOf_44 rfl rfl ?_
      refine g_iload dX12_weathersOf_45 rfl ?_
      refine g_sipush (v := 1000) dX12_weathersOf_47 (by decide) ?_
      refine g_idiv dX12_weathersOf_50 (by decide) ?_
      refine g_iload_n dX12_weathersOf_51 rfl rfl ?_
      refine g_callVI [.int (v1 / 1000), .int x3] (ci := 12) dX12_weathersOf_52 ml_X12_247 mk_X12_payBy rfl rfl sh98 (Nat.le_of_ble_eq_true rfl) (Nat.le_of_ble_eq_true rfl) rfl (c_M_payBy hw) (fun r2 h3 hw => ?_)
      refine g_bipush (v := 100) dX12_weathersOf_55 (by decide) ?_
      refine g_iadd dX12_weathersOf_57 ?_
      refine g_iload dX12_weathersOf_58 rfl ?_
      refine g_sipush (v := 1000) dX12_weathersOf_60 (by decide) ?_
      refine g_irem dX12_weathersOf_63 (by decide) ?_
      refine jn_el hw (fun J72 eJ72 hw => ?_)
      have hJ72 : ∀ (s4 : Int32) (h5 : Hp), J72 s4 h5 → Go cX12_weathersOf 7 RX12 (some .int) 4 G (QI G Q) 72 [(0, .ref (gAd G 98)), (1, .int x1), (2, .int x2), (3, .int x3), (5, .int x5)] [.int s4, .int x4] h5 := by
        intro s4 h5 hw
        subst eJ72
        refine g_iand dX12_weathersOf_72 ?_
        refine g_topi (fun v6 ev6 => ?_)
        have hw := hw v6 ev6
        refine g_istore dX12_weathersOf_73 (by decide) (lv1 := [(0, .ref (gAd G 98)), (1, .int x1), (2, .int x2), (3, .int x3), (4, .int v6), (5, .int x5)]) rfl ?_
        obtain ⟨v7, ev7⟩ : ∃ y : Int32, y = (x5 + 1) := ⟨_, rfl⟩
        have hw := hw v7 ev7
        refine g_iinc dX12_weathersOf_75 rfl (by rw [ev7]; rfl) (by decide) (lv1 := [(0, .ref (gAd G 98)), (1, .int x1), (2, .int x2), (3, .int x3), (4, .int v6), (5, .int v7)]) rfl ?_
        refine g_goto 16 dX12_weathersOf_78 rfl ?_
        exact ih _ _ _ hw
      refine g_icmp_ne 71 dX12_weathersOf_64 rfl (fun hc => ?_) (fun hc => ?_)
      · have hw := hw.1 hc
        refine g_iconst (v := 0) dX12_weathersOf_71 (by decide) ?_
        refine g_lv [0, 1, 2, 3, 5] rfl ?_
        exact hJ72 _ _ hw
      · have hw := hw.2 hc
        refine g_iconst (v := 1) dX12_weathersOf_67 (by decide) ?_
        refine g_goto 72 dX12_weathersOf_68 rfl ?_
        refine g_lv [0, 1, 2, 3, 5] rfl ?_
        exact hJ72 _ _ hw
def M_weathersOf_L4 (x1 : Int32) (Q : Int32 → Hp → Prop) : Nat → Int32 → Int32 → Hp → Prop
  | 0, _, _, _ => False
  | n + 1, x2, x3, h => (10 ≤ x3 → Q x2 h) ∧ (¬ 10 ≤ x3 → ∃ n8, M_weathersOf_L16 x1 x2 x3 (fun x4_9 h10 => ∀ J94 : Int32 → Hp → Prop, J94 = (fun s11 h12 => ∀ v13 : Int32, v13 = (x2 ||| s11) → ∀ v14 : Int32, v14 = (x3 + 1) → M_weathersOf_L4 x1 Q n v13 v14 h12) → (x4_9 = 0 → J94 0 h10) ∧ (¬ x4_9 = 0 → J94 ((1 : Int32) <<< (x3 &&& 31)) h10)) n8 1 0 h)
set_option maxHeartbeats 4000000 in
set_option maxRecDepth 20000 in
theorem gl_M_weathersOf_L4 {G : Gx}  {x1 : Int32} {Q : Int32 → Hp → Prop} : ∀ (n : Nat) (x2 : Int32) (x3 : Int32) (h : Hp), M_weathersOf_L4 x1 Q n x2 x3 h → Go cX12_weathersOf 7 RX12 (some .int) 4 G (QI G Q) 4 [(0, .ref (gAd G 98)), (1, .int x1), (2, .int x2), (3, .int x3)] [] h := by
  intro n
  induction n with
  | zero => intro _ _ h hw; exact False.elim hw
  | succ n ih =>
    intro x2 x3 h hw
    refine g_iload_n dX12_weathersOf_4 rfl rfl ?_
    refine g_bipush (v := 10) dX12_weathersOf_5 (by decide) ?_
    refine g_icmp_ge 102 dX12_weathersOf_7 rfl (fun hc => ?_) (fun hc => ?_)
    · have hw := hw.1 hc
      refine g_iload_n dX12_weathersOf_102 rfl rfl ?_
      exact g_iret dX12_weathersOf_103 hw
    · have hw := hw.2 hc
      refine g_iconst (v := 1) dX12_weathersOf_10 (by decide) ?_
      refine g_istore dX12_weathersOf_11 (by decide) (lv1 := [(0, .ref (gAd G 98)), (1, .int x1), (2, .int x2), (3, .int x3), (4, .int 1)]) rfl ?_
      refine g_iconst (v := 0) dX12_weathersOf_13 (by decide) ?_
      refine g_istore dX12_weathersOf_14 (by decide) (lv1 := [(0, .ref (gAd G 98)), (1, .int x1), (2, .int x2), (3, .int x3), (4, .int 1), (5, .int 0)]) rfl ?_
      obtain ⟨n8, hw⟩ := hw
      refine gl_M_weathersOf_L16  ?_ _ _ _ _ hw
      · intro x4_9 h10 hw
        refine g_iload_n dX12_weathersOf_81 rfl rfl ?_
        refine g_iload dX12_weathersOf_82 rfl ?_
        refine jn_el hw (fun J94 eJ94 hw => ?_)
        have hJ94 : ∀ (s11 : Int32) (h12 : Hp), J94 s11 h12 → Go cX12_weathersOf 7 RX12 (some .int) 4 G (QI G Q) 94 [(0, .ref (gAd G 98)), (1, .int x1), (3, .int x3)] [.int s11, .int x2] h12 := by
          intro s11 h12 hw
          subst eJ94
          refine g_ior dX12_weathersOf_94 ?_
          refine g_topi (fun v13 ev13 => ?_)
          have hw := hw v13 ev13
          refine g_istore_n dX12_weathersOf_95 rfl (by decide) (lv1 := [(0, .ref (gAd G 98)), (1, .int x1), (2, .int v13), (3, .int x3)]) rfl ?_
          obtain ⟨v14, ev14⟩ : ∃ y : Int32, y = (x3 + 1) := ⟨_, rfl⟩
          have hw := hw v14 ev14
          refine g_iinc dX12_weathersOf_96 rfl (by rw [ev14]; rfl) (by decide) (lv1 := [(0, .ref (gAd G 98)), (1, .int x1), (2, .int v13), (3, .int v14)]) rfl ?_
          refine g_goto 4 dX12_weathersOf_99 rfl ?_
          exact ih _ _ _ hw
        refine g_if_eq 93 dX12_weathersOf_84 rfl (fun hc => ?_) (fun hc => ?_)
        · have hw := hw.1 hc
          refine g_iconst (v := 0) dX12_weathersOf_93 (by decide) ?_
          refine g_lv [0, 1, 3] rfl ?_
          exact hJ94 _ _ hw
        · have hw := hw.2 hc
          refine g_iconst (v := 1) dX12_weathersOf_87 (by decide) ?_
          refine g_iload_n dX12_weathersOf_88 rfl rfl ?_
          refine g_ishl dX12_weathersOf_89 ?_
          refine g_goto 94 dX12_weathersOf_90 rfl ?_
          refine g_lv [0, 1, 3] rfl ?_
          exact hJ94 _ _ hw
def M_weathersOf (x1 : Int32) (h : Hp) (Q : Int32 → Hp → Prop) : Prop := ∃ n15, M_weathersOf_L4 x1 Q n15 0 0 h
set_option maxHeartbeats 4000000 in
set_option maxRecDepth 20000 in
theorem c_M_weathersOf {G : Gx}  {x1 : Int32} {h : Hp} {Q : Int32 → Hp → Prop} (hw : M_weathersOf x1 h Q) : Ct yX12_weathersOf cX12_weathersOf 7 (some .int) 4 G [.ref (gAd G 98), .int x1] h (QI G Q) := by
  refine ct_go [(0, .ref (gAd G 98)), (1, .int x1)] (plainFor_of_name (by decide)) rfl (Nat.le_of_ble_eq_true rfl) rfl ?_
  refine g_iconst (v := 0) dX12_weathersOf_0 (by decide) ?_
  refine g_istore_n dX12_weathersOf_1 rfl (by decide) (lv1 := [(0, .ref (gAd G 98)), (1, .int x1), (2, .int 0)]) rfl ?_
  refine g_iconst (v := 0) dX12_weathersOf_2 (by decide) ?_
  refine g_istore_n dX12_weathersOf_3 rfl (by decide) (lv1 := [(0, .ref (gAd G 98)), (1, .int x1), (2, .int 0), (3, .int 0)]) rfl ?_
  obtain ⟨n15, hw⟩ := hw
  refine gl_M_weathersOf_L4   _ _ _ _ hw
theorem dX12_weathers_0 : decode cX12_weathers 0 = .ok (.aload_n 0, 1) := by decide +kernel
theorem dX12_weathers_1 : decode cX12_weathers 1 = .ok (.iconst 0, 1) := by decide +kernel
theorem dX12_weathers_2 : decode cX12_weathers 2 = .ok (.putfield 1, 3) := by decide +kernel
theorem dX12_weathers_5 : decode cX12_weathers 5 = .ok (.aload_n 0, 1) := by decide +kernel
theorem dX12_weathers_6 : decode cX12_weathers 6 = .ok (.iload_n 1, 1) := by decide +kernel
theorem dX12_weathers_7 : decode cX12_weathers 7 = .ok (.invokevirtual 456, 3) := by decide +kernel
theorem dX12_weathers_10 : decode cX12_weathers 10 = .ok (.istore_n 2, 1) := by decide +kernel
theorem dX12_weathers_11 : decode cX12_weathers 11 = .ok (.iload_n 2, 1) := by decide +kernel
theorem dX12_weathers_12 : decode cX12_weathers 12 = .ok (.ifCond .eq 7, 3) := by decide +kernel
theorem dX12_weathers_15 : decode cX12_weathers 15 = .ok (.iload_n 2, 1) := by decide +kernel
theorem dX12_weathers_16 : decode cX12_weathers 16 = .ok (.goto 8, 3) := by decide +kernel
theorem dX12_weathers_19 : decode cX12_weathers 19 = .ok (.aload_n 0, 1) := by decide +kernel
theorem dX12_weathers_20 : decode cX12_weathers 20 = .ok (.iload_n 1, 1) := by decide +kernel
theorem dX12_weathers_21 : decode cX12_weathers 21 = .ok (.invokevirtual 459, 3) := by decide +kernel
theorem dX12_weathers_24 : decode cX12_weathers 24 = .ok (.ireturn, 1) := by decide +kernel
theorem ml_X12_456 : Cond.methodLink RX12 456 yX12_noPaid ∈ Wd := mW 1974 (by decide +kernel) rfl
theorem mk_X12_noPaid : MokV yX12_noPaid cX12_noPaid 6 (some .int) 1 := ⟨⟨mW 14 (by decide +kernel) rfl, mW 1977 (by decide +kernel) rfl, ⟨by decide, by decide, by decide +kernel⟩, by decide⟩, mW 1976 (by decide +kernel) rfl, mS (q := (yX12_noPaid, 46)) 111 (by decide +kernel)⟩
theorem ml_X12_459 : Cond.methodLink RX12 459 yX12_weathersOf ∈ Wd := mW 1980 (by decide +kernel) rfl
theorem mk_X12_weathersOf : MokV yX12_weathersOf cX12_weathersOf 7 (some .int) 1 := ⟨⟨mW 14 (by decide +kernel) rfl, mW 1983 (by decide +kernel) rfl, ⟨by decide, by decide, by decide +kernel⟩, by decide⟩, mW 1982 (by decide +kernel) rfl, mS (q := (yX12_weathersOf, 46)) 112 (by decide +kernel)⟩
def M_weathers (x1 : Int32) (h : Hp) (Q : Int32 → Hp → Prop) : Prop := ∀ h1 : Hp, h1 = sI h 98 0 0 → M_noPaid x1 h1 (fun r2 h3 => (r2 = 0 → M_weathersOf x1 h3 (fun r4 h5 => Q r4 h5)) ∧ (¬ r2 = 0 → Q r2 h3))
set_option maxHeartbeats 4000000 in
set_option maxRecDepth 20000 in
theorem c_M_weathers {G : Gx}  {x1 : Int32} {h : Hp} {Q : Int32 → Hp → Prop} (hw : M_weathers x1 h Q) : Ct yX12_weathers cX12_weathers 3 (some .int) 5 G [.ref (gAd G 98), .int x1] h (QI G Q) := by
  refine ct_go [(0, .ref (gAd G 98)), (1, .int x1)] (plainFor_of_name (by decide)) rfl (Nat.le_of_ble_eq_true rfl) rfl ?_
  refine g_aload_n dX12_weathers_0 rfl rfl ?_
  refine g_iconst (v := 0) dX12_weathers_1 (by decide) ?_
  refine g_putI dX12_weathers_2 fl_X12_1 sh98 rfl rfl pf_12_0 ?_
  refine g_heap (fun h1 eh1 => ?_)
  have hw := hw h1 eh1
  refine g_aload_n dX12_weathers_5 rfl rfl ?_
  refine g_iload_n dX12_weathers_6 rfl rfl ?_
  refine g_callVI [.int x1] (ci := 12) dX12_weathers_7 ml_X12_456 mk_X12_noPaid rfl rfl sh98 (Nat.le_of_ble_eq_true rfl) (Nat.le_of_ble_eq_true rfl) rfl (c_M_noPaid hw) (fun r2 h3 hw => ?_)
  refine g_istore_n dX12_weathers_10 rfl (by decide) (lv1 := [(0, .ref (gAd G 98)), (1, .int x1), (2, .int r2)]) rfl ?_
  refine g_iload_n dX12_weathers_11 rfl rfl ?_
  refine g_if_eq 19 dX12_weathers_12 rfl (fun hc => ?_) (fun hc => ?_)
  · have hw := hw.1 hc
    refine g_aload_n dX12_weathers_19 rfl rfl ?_
    refine g_iload_n dX12_weathers_20 rfl rfl ?_
    refine g_callVI [.int x1] (ci := 12) dX12_weathers_21 ml_X12_459 mk_X12_weathersOf rfl rfl sh98 (Nat.le_of_ble_eq_true rfl) (Nat.le_of_ble_eq_true rfl) rfl (c_M_weathersOf hw) (fun r4 h5 hw => ?_)
    exact g_iret dX12_weathers_24 hw
  · have hw := hw.2 hc
    refine g_iload_n dX12_weathers_15 rfl rfl ?_
    refine g_goto 24 dX12_weathers_16 rfl ?_
    exact g_iret dX12_weathers_24 hw
theorem dX12_mostAlike_0 : decode cX12_mostAlike 0 = .ok (.iconst 0, 1) := by decide +kernel
theorem dX12_mostAlike_1 : decode cX12_mostAlike 1 = .ok (.istore_n 3, 1) := by decide +kernel
theorem dX12_mostAlike_2 : decode cX12_mostAlike 2 = .ok (.iload_n 3, 1) := by decide +kernel
theorem dX12_mostAlike_3 : decode cX12_mostAlike 3 = .ok (.bipush 10, 2) := by decide +kernel
theorem dX12_mostAlike_5 : decode cX12_mostAlike 5 = .ok (.if_icmp .ge 21, 3) := by decide +kernel
theorem dX12_mostAlike_8 : decode cX12_mostAlike 8 = .ok (.aload_n 0, 1) := by decide +kernel
theorem dX12_mostAlike_9 : decode cX12_mostAlike 9 = .ok (.getfield 91, 3) := by decide +kernel
theorem dX12_mostAlike_12 : decode cX12_mostAlike 12 = .ok (.iload_n 3, 1) := by decide +kernel
theorem dX12_mostAlike_13 : decode cX12_mostAlike 13 = .ok (.aload_n 0, 1) := by decide +kernel
theorem dX12_mostAlike_14 : decode cX12_mostAlike 14 = .ok (.iload_n 2, 1) := by decide +kernel
theorem dX12_mostAlike_15 : decode cX12_mostAlike 15 = .ok (.iload_n 3, 1) := by decide +kernel
theorem dX12_mostAlike_16 : decode cX12_mostAlike 16 = .ok (.invokevirtual 247, 3) := by decide +kernel
theorem dX12_mostAlike_19 : decode cX12_mostAlike 19 = .ok (.iastore, 1) := by decide +kernel
theorem dX12_mostAlike_20 : decode cX12_mostAlike 20 = .ok (.iinc 3 1, 3) := by decide +kernel
theorem dX12_mostAlike_23 : decode cX12_mostAlike 23 = .ok (.goto (-21), 3) := by decide +kernel
theorem dX12_mostAlike_26 : decode cX12_mostAlike 26 = .ok (.iconst 0, 1) := by decide +kernel
theorem dX12_mostAlike_27 : decode cX12_mostAlike 27 = .ok (.istore_n 3, 1) := by decide +kernel
theorem dX12_mostAlike_28 : decode cX12_mostAlike 28 = .ok (.iconst 0, 1) := by decide +kernel
theorem dX12_mostAlike_29 : decode cX12_mostAlike 29 = .ok (.istore 4, 2) := by decide +kernel
theorem dX12_mostAlike_31 : decode cX12_mostAlike 31 = .ok (.iload 4, 2) := by decide +kernel
theorem dX12_mostAlike_33 : decode cX12_mostAlike 33 = .ok (.bipush 10, 2) := by decide +kernel
theorem dX12_mostAlike_35 : decode cX12_mostAlike 35 = .ok (.if_icmp .ge 88, 3) := by decide +kernel
theorem dX12_mostAlike_38 : decode cX12_mostAlike 38 = .ok (.iconst 0, 1) := by decide +kernel
theorem dX12_mostAlike_39 : decode cX12_mostAlike 39 = .ok (.istore 5, 2) := by decide +kernel
theorem dX12_mostAlike_41 : decode cX12_mostAlike 41 = .ok (.iconst 0, 1) := by decide +kernel
theorem dX12_mostAlike_42 : decode cX12_mostAlike 42 = .ok (.istore 6, 2) := by decide +kernel
theorem dX12_mostAlike_44 : decode cX12_mostAlike 44 = .ok (.iload 6, 2) := by decide +kernel
theorem dX12_mostAlike_46 : decode cX12_mostAlike 46 = .ok (.bipush 10, 2) := by decide +kernel
theorem dX12_mostAlike_48 : decode cX12_mostAlike 48 = .ok (.if_icmp .ge 56, 3) := by decide +kernel
theorem dX12_mostAlike_51 : decode cX12_mostAlike 51 = .ok (.iload 5, 2) := by decide +kernel
theorem dX12_mostAlike_53 : decode cX12_mostAlike 53 = .ok (.iload_n 1, 1) := by decide +kernel
theorem dX12_mostAlike_54 : decode cX12_mostAlike 54 = .ok (.i2l, 1) := by decide +kernel
theorem dX12_mostAlike_55 : decode cX12_mostAlike 55 = .ok (.iload 4, 2) := by decide +kernel
theorem dX12_mostAlike_57 : decode cX12_mostAlike 57 = .ok (.invokestatic 228, 3) := by decide +kernel
theorem dX12_mostAlike_60 : decode cX12_mostAlike 60 = .ok (.ifCond .eq 34, 3) := by decide +kernel
theorem dX12_mostAlike_63 : decode cX12_mostAlike 63 = .ok (.iload_n 1, 1) := by decide +kernel
theorem dX12_mostAlike_64 : decode cX12_mostAlike 64 = .ok (.i2l, 1) := by decide +kernel
theorem dX12_mostAlike_65 : decode cX12_mostAlike 65 = .ok (.iload 6, 2) := by decide +kernel
theorem dX12_mostAlike_67 : decode cX12_mostAlike 67 = .ok (.invokestatic 228, 3) := by decide +kernel
theorem dX12_mostAlike_70 : decode cX12_mostAlike 70 = .ok (.ifCond .eq 24, 3) := by decide +kernel
theorem dX12_mostAlike_73 : decode cX12_mostAlike 73 = .ok (.aload_n 0, 1) := by decide +kernel
theorem dX12_mostAlike_74 : decode cX12_mostAlike 74 = .ok (.getfield 91, 3) := by decide +kernel
theorem dX12_mostAlike_77 : decode cX12_mostAlike 77 = .ok (.iload 4, 2) := by decide +kernel
theorem dX12_mostAlike_79 : decode cX12_mostAlike 79 = .ok (.iaload, 1) := by decide +kernel
theorem dX12_mostAlike_80 : decode cX12_mostAlike 80 = .ok (.aload_n 0, 1) := by decide +kernel
theorem dX12_mostAlike_81 : decode cX12_mostAlike 81 = .ok (.getfield 91, 3) := by decide +kernel
theorem dX12_mostAlike_84 : decode cX12_mostAlike 84 = .ok (.iload 6, 2) := by decide +kernel
theorem dX12_mostAlike_86 : decode cX12_mostAlike 86 = .ok (.iaload, 1) := by decide +kernel
theorem dX12_mostAlike_87 : decode cX12_mostAlike 87 = .ok (.if_icmp .ne 7, 3) := by decide +kernel
theorem dX12_mostAlike_90 : decode cX12_mostAlike 90 = .ok (.iconst 1, 1) := by decide +kernel
theorem dX12_mostAlike_91 : decode cX12_mostAlike 91 = .ok (.goto 4, 3) := by decide +kernel
theorem dX12_mostAlike_94 : decode cX12_mostAlike 94 = .ok (.iconst 0, 1) := by decide +kernel
theorem dX12_mostAlike_95 : decode cX12_mostAlike 95 = .ok (.iadd, 1) := by decide +kernel
theorem dX12_mostAlike_96 : decode cX12_mostAlike 96 = .ok (.istore 5, 2) := by decide +kernel
theorem dX12_mostAlike_98 : decode cX12_mostAlike 98 = .ok (.iinc 6 1, 3) := by decide +kernel
theorem dX12_mostAlike_101 : decode cX12_mostAlike 101 = .ok (.goto (-57), 3) := by decide +kernel
theorem dX12_mostAlike_104 : decode cX12_mostAlike 104 = .ok (.iload 5, 2) := by decide +kernel
theorem dX12_mostAlike_106 : decode cX12_mostAlike 106 = .ok (.iload_n 3, 1) := by decide +kernel
theorem dX12_mostAlike_107 : decode cX12_mostAlike 107 = .ok (.if_icmp .le 8, 3) := by decide +kernel
theorem dX12_mostAlike_110 : decode cX12_mostAlike 110 = .ok (.iload 5, 2) := by decide +kernel
theorem dX12_mostAlike_112 : decode cX12_mostAlike 112 = .ok (.goto 4, 3) := by decide +kernel
theorem dX12_mostAlike_115 : decode cX12_mostAlike 115 = .ok (.iload_n 3, 1) := by decide +kernel
theorem dX12_mostAlike_116 : decode cX12_mostAlike 116 = .ok (.istore_n 3, 1) := by decide +kernel
theorem dX12_mostAlike_117 : decode cX12_mostAlike 117 = .ok (.iinc 4 1, 3) := by decide +kernel
theorem dX12_mostAlike_120 : decode cX12_mostAlike 120 = .ok (.goto (-89), 3) := by decide +kernel
theorem dX12_mostAlike_123 : decode cX12_mostAlike 123 = .ok (.iload_n 3, 1) := by decide +kernel
theorem dX12_mostAlike_124 : decode cX12_mostAlike 124 = .ok (.ireturn, 1) := by decide +kernel
theorem fl_X12_91 : FLk RX12 91 12 40 := ⟨_, rfl, by decide, mW 1422 (by decide +kernel) rfl⟩
def M_mostAlike_L2 (x1 : Int32) (x2 : Int32) (K26 : Hp → Prop) : Nat → Int32 → Hp → Prop
  | 0, _, _ => False
  | n + 1, x3, h => (10 ≤ x3 → K26 h) ∧ (¬ 10 ≤ x3 → M_payBy x2 x3 h (fun r1 h2 => vp_in x3 10 ∧ ∀ h3 : Hp, h3 = sI h2 123 (x3).toNatClampNeg r1 → ∀ v4 : Int32, v4 = (x3 + 1) → M_mostAlike_L2 x1 x2 K26 n v4 h3))
set_option maxHeartbeats 4000000 in
set_option maxRecDepth 20000 in
theorem gl_M_mostAlike_L2 {G : Gx}  {x1 : Int32} {x2 : Int32} {Q : Int32 → Hp → Prop} {K26 : Hp → Prop} (hK26 : ∀  (h1 : Hp), K26  h1 → Go cX12_mostAlike 7 RX12 (some .int) 4 G (QI G Q) 26 [(0, .ref (gAd G 98)), (1, .int x1)] [] h1) : ∀ (n : Nat) (x3 : Int32) (h : Hp), M_mostAlike_L2 x1 x2 K26 n x3 h → Go cX12_mostAlike 7 RX12 (some .int) 4 G (QI G Q) 2 [(0, .ref (gAd G 98)), (1, .int x1), (2, .int x2), (3, .int x3)] [] h := by
  intro n
  induction n with
  | zero => intro _ h hw; exact False.elim hw
  | succ n ih =>
    intro x3 h hw
    refine g_iload_n dX12_mostAlike_2 rfl rfl ?_
    refine g_bipush (v := 10) dX12_mostAlike_3 (by decide) ?_
    refine g_icmp_ge 26 dX12_mostAlike_5 rfl (fun hc => ?_) (fun hc => ?_)
    · have hw := hw.1 hc
      refine g_lv [0, 1] rfl ?_
      exact hK26 _ hw
    · have hw := hw.2 hc
      refine g_aload_n dX12_mostAlike_8 rfl rfl ?_
      refine g_getA dX12_mostAlike_9 fl_X12_91 sh98 rfl ?_
      refine g_iload_n dX12_mostAlike_12 rfl rfl ?_
      refine g_aload_n dX12_mostAlike_13 rfl rfl ?_
      refine g_iload_n dX12_mostAlike_14 rfl rfl ?_
      refine g_iload_n dX12_mostAlike_15 rfl rfl ?_
      refine g_callVI [.int x2, .int x3] (ci := 12) dX12_mostAlike_16 ml_X12_247 mk_X12_payBy rfl rfl sh98 (Nat.le_of_ble_eq_true rfl) (Nat.le_of_ble_eq_true rfl) rfl (c_M_payBy hw) (fun r1 h2 hw => ?_)
      refine g_iast dX12_mostAlike_19 ia123 al123 hw.1 ?_
      have hw := hw.2
      refine g_heap (fun h3 eh3 => ?_)
      have hw := hw h3 eh3
      obtain ⟨v4, ev4⟩ : ∃ y : Int32, y = (x3 + 1) := ⟨_, rfl⟩
      have hw := hw v4 ev4
      refine g_iinc dX12_mostAlike_20 rfl (by rw [ev4]; rfl) (by decide) (lv1 := [(0, .ref (gAd G 98)), (1, .int x1), (2, .int x2), (3, .int v4)]) rfl ?_
      refine g_goto 2 dX12_mostAlike_23 rfl ?_
      exact ih _ _ hw
def M_mostAlike_L44 (x1 : Int32) (x3 : Int32) (x4 : Int32) (K104 : Int32 → Hp → Prop) : Nat → Int32 → Int32 → Hp → Prop
  | 0, _, _, _ => False
  | n + 1, x5, x6, h => (10 ≤ x6 → K104 x5 h) ∧ (¬ 10 ≤ x6 → M_isIn ((x1).toInt64) x4 h (fun r7 h8 => ∀ J95 : Int32 → Hp → Prop, J95 = (fun s9 h10 => ∀ v11 : Int32, v11 = (x5 + s9) → ∀ v12 : Int32, v12 = (x6 + 1) → M_mostAlike_L44 x1 x3 x4 K104 n v11 v12 h10) → ∀ J94 : Hp → Prop, J94 = (fun h13 => J95 0 h13) → (r7 = 0 → J94 h8) ∧ (¬ r7 = 0 → M_isIn ((x1).toInt64) x6 h8 (fun r14 h15 => (r14 = 0 → J94 h15) ∧ (¬ r14 = 0 → vp_in x4 10 ∧ vp_in x6 10 ∧ (¬ (gI h15 123 (x4).toNatClampNeg) = (gI h15 123 (x6).toNatClampNeg) → J94 h15) ∧ ((gI h15 123 (x4).toNatClampNeg) = (gI h15 123 (x6).toNatClampNeg) → J95 1 h15))))))
set_option maxHeartbeats 4000000 in
set_option maxRecDepth 20000 in
theorem gl_M_mostAlike_L44 {G : Gx}  {x1 : Int32} {x3 : Int32} {x4 : Int32} {Q : Int32 → Hp → Prop} {K104 : Int32 → Hp → Prop} (hK104 : ∀ (y5 : Int32) (h1 : Hp), K104 y5 h1 → Go cX12_mostAlike 7 RX12 (some .int) 4 G (QI G Q) 104 [(0, .ref (gAd G 98)), (1, .int x1), (3, .int x3), (4, .int x4), (5, .int y5)] [] h1) : ∀ (n : Nat) (x5 : Int32) (x6 : Int32) (h : Hp), M_mostAlike_L44 x1 x3 x4 K104 n x5 x6 h → Go cX12_mostAlike 7 RX12 (some .int) 4 G (QI G Q) 44 [(0, .ref (gAd G 98)), (1, .int x1), (3, .int x3), (4, .int x4), (5, .int x5), (6, .int x6)] [] h := by
  intro n
  induction n with
  | zero => intro _ _ h hw; exact False.elim hw
  | succ n ih =>
    intro x5 x6 h hw
    refine g_iload dX12_mostAlike_44 rfl ?_
    refine g_bipush (v := 10) dX12_mostAlike_46 (by decide) ?_
    refine g_icmp_ge 104 dX12_mostAlike_48 rfl (fun hc => ?_) (fun hc => ?_)
    · have hw := hw.1 hc
      refine g_lv [0, 1, 2, 3, 4] rfl ?_
      exact hK104 _ _ hw
    · have hw := hw.2 hc
      refine g_iload dX12_mostAlike_51 rfl ?_
      refine g_iload_n dX12_mostAlike_53 rfl rfl ?_
      refine g_i2l dX12_mostAlike_54 ?_
      refine g_iload dX12_mostAlike_55 rfl ?_
      refine g_callSI [.long ((x1).toInt64), .int x4] dX12_mostAlike_57 ml_X12_228 mk_X12_isIn rfl (Nat.le_of_ble_eq_true rfl) (Nat.le_of_ble_eq_true rfl) rfl (c_M_isIn hw) (fun r7 h8 hw => ?_)
      refine jn_el hw (fun J95 eJ95 hw => ?_)
      have hJ95 : ∀ (s9 : Int32) (h10 : Hp), J95 s9 h10 → Go cX12_mostAlike 7 RX12 (some .int) 4 G (QI G Q) 95 [(0, .ref (gAd G 98)), (1, .int x1), (3, .int x3), (4, .int x4), (6, .int x6)] [.int s9, .int x5] h10 := by
        intro s9 h10 hw
        subst eJ95
        refine g_iadd dX12_mostAlike_95 ?_
        refine g_topi (fun v11 ev11 => ?_)
        have hw := hw v11 ev11
        refine g_istore dX12_mostAlike_96 (by decide) (lv1 := [(0, .ref (gAd G 98)), (1, .int x1), (3, .int x3), (4, .int x4), (5, .int v11), (6, .int x6)]) rfl ?_
        obtain ⟨v12, ev12⟩ : ∃ y : Int32, y = (x6 + 1) := ⟨_, rfl⟩
        have hw := hw v12 ev12
        refine g_iinc dX12_mostAlike_98 rfl (by rw [ev12]; rfl) (by decide) (lv1 := [(0, .ref (gAd G 98)), (1, .int x1), (3, .int x3), (4, .int x4), (5, .int v11), (6, .int v12)]) rfl ?_
        refine g_goto 44 dX12_mostAlike_101 rfl ?_
        exact ih _ _ _ hw
      refine jn_el hw (fun J94 eJ94 hw => ?_)
      have hJ94 : ∀ (h13 : Hp), J94 h13 → Go cX12_mostAlike 7 RX12 (some .int) 4 G (QI G Q) 94 [(0, .ref (gAd G 98)), (1, .int x1), (3, .int x3), (4, .int x4), (6, .int x6)] [.int x5] h13 := by
        intro h13 hw
        subst eJ94
        refine g_iconst (v := 0) dX12_mostAlike_94 (by decide) ?_
        exact hJ95 _ _ hw
      refine g_if_eq 94 dX12_mostAlike_60 rfl (fun hc => ?_) (fun hc => ?_)
      · have hw := hw.1 hc
        refine g_lv [0, 1, 2, 3, 5] rfl ?_
        exact hJ94 _ hw
      · have hw := hw.2 hc
        refine g_iload_n dX12_mostAlike_63 rfl rfl ?_
        refine g_i2l dX12_mostAlike_64 ?_
        refine g_iload dX12_mostAlike_65 rfl ?_
        refine g_callSI [.long ((x1).toInt64), .int x6] dX12_mostAlike_67 ml_X12_228 mk_X12_isIn rfl (Nat.le_of_ble_eq_true rfl) (Nat.le_of_ble_eq_true rfl) rfl (c_M_isIn hw) (fun r14 h15 hw => ?_)
        refine g_if_eq 94 dX12_mostAlike_70 rfl (fun hc => ?_) (fun hc => ?_)
        · have hw := hw.1 hc
          refine g_lv [0, 1, 2, 3, 5] rfl ?_
          exact hJ94 _ hw
        · have hw := hw.2 hc
          refine g_aload_n dX12_mostAlike_73 rfl rfl ?_
          refine g_getA dX12_mostAlike_74 fl_X12_91 sh98 rfl ?_
          refine g_iload dX12_mostAlike_77 rfl ?_
          refine g_iald dX12_mostAlike_79 ia123 al123 hw.1 ?_
          have hw := hw.2
          refine g_aload_n dX12_mostAlike_80 rfl rfl ?_
          refine g_getA dX12_mostAlike_81 fl_X12_91 sh98 rfl ?_
          refine g_iload dX12_mostAlike_84 rfl ?_
          refine g_iald dX12_mostAlike_86 ia123 al123 hw.1 ?_
          have hw := hw.2
          refine g_icmp_ne 94 dX12_mostAlike_87 rfl (fun hc => ?_) (fun hc => ?_)
          · have hw := hw.1 hc
            refine g_lv [0, 1, 2, 3, 5] rfl ?_
            exact hJ94 _ hw
          · have hw := hw.2 hc
            refine g_iconst (v := 1) dX12_mostAlike_90 (by decide) ?_
            refine g_goto 95 dX12_mostAlike_91 rfl ?_
            refine g_lv [0, 1, 2, 3, 5] rfl ?_
            exact hJ95 _ _ hw
def M_mostAlike_L31 (x1 : Int32) (Q : Int32 → Hp → Prop) : Nat → Int32 → Int32 → Hp → Prop
  | 0, _, _, _ => False
  | n + 1, x3, x4, h => (10 ≤ x4 → Q x3 h) ∧ (¬ 10 ≤ x4 → ∃ n16, M_mostAlike_L44 x1 x3 x4 (fun x5_17 h18 => ∀ J116 : Int32 → Hp → Prop, J116 = (fun s19 h20 => ∀ v21 : Int32, v21 = (x4 + 1) → M_mostAlike_L31 x1 Q n s19 v21 h20) → (x5_17 ≤ x3 → J116 x3 h18) ∧ (¬ x5_17 ≤ x3 → J116 x5_17 h18)) n16 0 0 h)
set_option maxHeartbeats 4000000 in
set_option maxRecDepth 20000 in
theorem gl_M_mostAlike_L31 {G : Gx}  {x1 : Int32} {Q : Int32 → Hp → Prop} : ∀ (n : Nat) (x3 : Int32) (x4 : Int32) (h : Hp), M_mostAlike_L31 x1 Q n x3 x4 h → Go cX12_mostAlike 7 RX12 (some .int) 4 G (QI G Q) 31 [(0, .ref (gAd G 98)), (1, .int x1), (3, .int x3), (4, .int x4)] [] h := by
  intro n
  induction n with
  | zero => intro _ _ h hw; exact False.elim hw
  | succ n ih =>
    intro x3 x4 h hw
    refine g_iload dX12_mostAlike_31 rfl ?_
    refine g_bipush (v := 10) dX12_mostAlike_33 (by decide) ?_
    refine g_icmp_ge 123 dX12_mostAlike_35 rfl (fun hc => ?_) (fun hc => ?_)
    · have hw := hw.1 hc
      refine g_iload_n dX12_mostAlike_123 rfl rfl ?_
      exact g_iret dX12_mostAlike_124 hw
    · have hw := hw.2 hc
      refine g_iconst (v := 0) dX12_mostAlike_38 (by decide) ?_
      refine g_istore dX12_mostAlike_39 (by decide) (lv1 := [(0, .ref (gAd G 98)), (1, .int x1), (3, .int x3), (4, .int x4), (5, .int 0)]) rfl ?_
      refine g_iconst (v := 0) dX12_mostAlike_41 (by decide) ?_
      refine g_istore dX12_mostAlike_42 (by decide) (lv1 := [(0, .ref (gAd G 98)), (1, .int x1), (3, .int x3), (4, .int x4), (5, .int 0), (6, .int 0)]) rfl ?_
      obtain ⟨n16, hw⟩ := hw
      refine gl_M_mostAlike_L44  ?_ _ _ _ _ hw
      · intro x5_17 h18 hw
        refine g_iload dX12_mostAlike_104 rfl ?_
        refine g_iload_n dX12_mostAlike_106 rfl rfl ?_
        refine jn_el hw (fun J116 eJ116 hw => ?_)
        have hJ116 : ∀ (s19 : Int32) (h20 : Hp), J116 s19 h20 → Go cX12_mostAlike 7 RX12 (some .int) 4 G (QI G Q) 116 [(0, .ref (gAd G 98)), (1, .int x1), (4, .int x4)] [.int s19] h20 := by
          intro s19 h20 hw
          subst eJ116
          refine g_istore_n dX12_mostAlike_116 rfl (by decide) (lv1 := [(0, .ref (gAd G 98)), (1, .int x1), (3, .int s19), (4, .int x4)]) rfl ?_
          obtain ⟨v21, ev21⟩ : ∃ y : Int32, y = (x4 + 1) := ⟨_, rfl⟩
          have hw := hw v21 ev21
          refine g_iinc dX12_mostAlike_117 rfl (by rw [ev21]; rfl) (by decide) (lv1 := [(0, .ref (gAd G 98)), (1, .int x1), (3, .int s19), (4, .int v21)]) rfl ?_
          refine g_goto 31 dX12_mostAlike_120 rfl ?_
          exact ih _ _ _ hw
        refine g_icmp_le 115 dX12_mostAlike_107 rfl (fun hc => ?_) (fun hc => ?_)
        · have hw := hw.1 hc
          refine g_iload_n dX12_mostAlike_115 rfl rfl ?_
          refine g_lv [0, 1, 3] rfl ?_
          exact hJ116 _ _ hw
        · have hw := hw.2 hc
          refine g_iload dX12_mostAlike_110 rfl ?_
          refine g_goto 116 dX12_mostAlike_112 rfl ?_
          refine g_lv [0, 1, 3] rfl ?_
          exact hJ116 _ _ hw
def M_mostAlike (x1 : Int32) (x2 : Int32) (h : Hp) (Q : Int32 → Hp → Prop) : Prop := ∃ n5, M_mostAlike_L2 x1 x2 (fun h6 => ∃ n22, M_mostAlike_L31 x1 Q n22 0 0 h6) n5 0 h
set_option maxHeartbeats 4000000 in
set_option maxRecDepth 20000 in
theorem c_M_mostAlike {G : Gx}  {x1 : Int32} {x2 : Int32} {h : Hp} {Q : Int32 → Hp → Prop} (hw : M_mostAlike x1 x2 h Q) : Ct yX12_mostAlike cX12_mostAlike 7 (some .int) 4 G [.ref (gAd G 98), .int x1, .int x2] h (QI G Q) := by
  refine ct_go [(0, .ref (gAd G 98)), (1, .int x1), (2, .int x2)] (plainFor_of_name (by decide)) rfl (Nat.le_of_ble_eq_true rfl) rfl ?_
  refine g_iconst (v := 0) dX12_mostAlike_0 (by decide) ?_
  refine g_istore_n dX12_mostAlike_1 rfl (by decide) (lv1 := [(0, .ref (gAd G 98)), (1, .int x1), (2, .int x2), (3, .int 0)]) rfl ?_
  obtain ⟨n5, hw⟩ := hw
  refine gl_M_mostAlike_L2  ?_ _ _ _ hw
  · intro h6 hw
    refine g_iconst (v := 0) dX12_mostAlike_26 (by decide) ?_
    refine g_istore_n dX12_mostAlike_27 rfl (by decide) (lv1 := [(0, .ref (gAd G 98)), (1, .int x1), (3, .int 0)]) rfl ?_
    refine g_iconst (v := 0) dX12_mostAlike_28 (by decide) ?_
    refine g_istore dX12_mostAlike_29 (by decide) (lv1 := [(0, .ref (gAd G 98)), (1, .int x1), (3, .int 0), (4, .int 0)]) rfl ?_
    obtain ⟨n22, hw⟩ := hw
    refine gl_M_mostAlike_L31   _ _ _ _ hw
theorem dX12_ask_0 : decode cX12_ask 0 = .ok (.aload_n 0, 1) := by decide +kernel
theorem dX12_ask_1 : decode cX12_ask 1 = .ok (.iconst 0, 1) := by decide +kernel
theorem dX12_ask_2 : decode cX12_ask 2 = .ok (.putfield 1, 3) := by decide +kernel
theorem dX12_ask_5 : decode cX12_ask 5 = .ok (.aload_n 0, 1) := by decide +kernel
theorem dX12_ask_6 : decode cX12_ask 6 = .ok (.iload_n 1, 1) := by decide +kernel
theorem dX12_ask_7 : decode cX12_ask 7 = .ok (.invokevirtual 456, 3) := by decide +kernel
theorem dX12_ask_10 : decode cX12_ask 10 = .ok (.istore_n 2, 1) := by decide +kernel
theorem dX12_ask_11 : decode cX12_ask 11 = .ok (.iload_n 2, 1) := by decide +kernel
theorem dX12_ask_12 : decode cX12_ask 12 = .ok (.ifCond .eq 5, 3) := by decide +kernel
theorem dX12_ask_15 : decode cX12_ask 15 = .ok (.iload_n 2, 1) := by decide +kernel
theorem dX12_ask_16 : decode cX12_ask 16 = .ok (.ireturn, 1) := by decide +kernel
theorem dX12_ask_17 : decode cX12_ask 17 = .ok (.aload_n 0, 1) := by decide +kernel
theorem dX12_ask_18 : decode cX12_ask 18 = .ok (.iload_n 1, 1) := by decide +kernel
theorem dX12_ask_19 : decode cX12_ask 19 = .ok (.invokevirtual 459, 3) := by decide +kernel
theorem dX12_ask_22 : decode cX12_ask 22 = .ok (.istore_n 3, 1) := by decide +kernel
theorem dX12_ask_23 : decode cX12_ask 23 = .ok (.iconst (-1), 1) := by decide +kernel
theorem dX12_ask_24 : decode cX12_ask 24 = .ok (.istore 4, 2) := by decide +kernel
theorem dX12_ask_26 : decode cX12_ask 26 = .ok (.ldc_w 418, 3) := by decide +kernel
theorem dX12_ask_29 : decode cX12_ask 29 = .ok (.istore 5, 2) := by decide +kernel
theorem dX12_ask_31 : decode cX12_ask 31 = .ok (.iconst 0, 1) := by decide +kernel
theorem dX12_ask_32 : decode cX12_ask 32 = .ok (.istore 6, 2) := by decide +kernel
theorem dX12_ask_34 : decode cX12_ask 34 = .ok (.iload 6, 2) := by decide +kernel
theorem dX12_ask_36 : decode cX12_ask 36 = .ok (.aload_n 0, 1) := by decide +kernel
theorem dX12_ask_37 : decode cX12_ask 37 = .ok (.getfield 13, 3) := by decide +kernel
theorem dX12_ask_40 : decode cX12_ask 40 = .ok (.iconst 2, 1) := by decide +kernel
theorem dX12_ask_41 : decode cX12_ask 41 = .ok (.iaload, 1) := by decide +kernel
theorem dX12_ask_42 : decode cX12_ask 42 = .ok (.if_icmp .ge 40, 3) := by decide +kernel
theorem dX12_ask_45 : decode cX12_ask 45 = .ok (.iload_n 3, 1) := by decide +kernel
theorem dX12_ask_46 : decode cX12_ask 46 = .ok (.ifCond .eq 36, 3) := by decide +kernel
theorem dX12_ask_49 : decode cX12_ask 49 = .ok (.aload_n 0, 1) := by decide +kernel
theorem dX12_ask_50 : decode cX12_ask 50 = .ok (.iload_n 3, 1) := by decide +kernel
theorem dX12_ask_51 : decode cX12_ask 51 = .ok (.iload 6, 2) := by decide +kernel
theorem dX12_ask_53 : decode cX12_ask 53 = .ok (.invokevirtual 462, 3) := by decide +kernel
theorem dX12_ask_56 : decode cX12_ask 56 = .ok (.istore 7, 2) := by decide +kernel
theorem dX12_ask_58 : decode cX12_ask 58 = .ok (.iload 7, 2) := by decide +kernel
theorem dX12_ask_60 : decode cX12_ask 60 = .ok (.iload 5, 2) := by decide +kernel
theorem dX12_ask_62 : decode cX12_ask 62 = .ok (.if_icmp .lt 6, 3) := by decide +kernel
theorem dX12_ask_65 : decode cX12_ask 65 = .ok (.goto 11, 3) := by decide +kernel
theorem dX12_ask_68 : decode cX12_ask 68 = .ok (.iload 6, 2) := by decide +kernel
theorem dX12_ask_70 : decode cX12_ask 70 = .ok (.istore 4, 2) := by decide +kernel
theorem dX12_ask_72 : decode cX12_ask 72 = .ok (.iload 7, 2) := by decide +kernel
theorem dX12_ask_74 : decode cX12_ask 74 = .ok (.istore 5, 2) := by decide +kernel
theorem dX12_ask_76 : decode cX12_ask 76 = .ok (.iinc 6 1, 3) := by decide +kernel
theorem dX12_ask_79 : decode cX12_ask 79 = .ok (.goto (-45), 3) := by decide +kernel
theorem dX12_ask_82 : decode cX12_ask 82 = .ok (.iload 4, 2) := by decide +kernel
theorem dX12_ask_84 : decode cX12_ask 84 = .ok (.ireturn, 1) := by decide +kernel
theorem ml_X12_462 : Cond.methodLink RX12 462 yX12_mostAlike ∈ Wd := mW 1988 (by decide +kernel) rfl
theorem mk_X12_mostAlike : MokV yX12_mostAlike cX12_mostAlike 7 (some .int) 2 := ⟨⟨mW 14 (by decide +kernel) rfl, mW 1991 (by decide +kernel) rfl, ⟨by decide, by decide, by decide +kernel⟩, by decide⟩, mW 1990 (by decide +kernel) rfl, mS (q := (yX12_mostAlike, 46)) 113 (by decide +kernel)⟩
def M_ask_L34 (x3 : Int32) (Q : Int32 → Hp → Prop) : Nat → Int32 → Int32 → Int32 → Hp → Prop
  | 0, _, _, _, _ => False
  | n + 1, x4, x5, x6, h => ((gI h 99 2) ≤ x6 → Q x4 h) ∧ (¬ (gI h 99 2) ≤ x6 → (x3 = 0 → Q x4 h) ∧ (¬ x3 = 0 → M_mostAlike x3 x6 h (fun r6 h7 => ∀ J76 : Int32 → Int32 → Hp → Prop, J76 = (fun x4_8 x5_9 h10 => ∀ v11 : Int32, v11 = (x6 + 1) → M_ask_L34 x3 Q n x4_8 x5_9 v11 h10) → (r6 < x5 → J76 x6 r6 h7) ∧ (¬ r6 < x5 → J76 x4 x5 h7))))
set_option maxHeartbeats 4000000 in
set_option maxRecDepth 20000 in
theorem gl_M_ask_L34 {G : Gx}  {x3 : Int32} {Q : Int32 → Hp → Prop} : ∀ (n : Nat) (x4 : Int32) (x5 : Int32) (x6 : Int32) (h : Hp), M_ask_L34 x3 Q n x4 x5 x6 h → Go cX12_ask 8 RX12 (some .int) 5 G (QI G Q) 34 [(0, .ref (gAd G 98)), (3, .int x3), (4, .int x4), (5, .int x5), (6, .int x6)] [] h := by
  intro n
  induction n with
  | zero => intro _ _ _ h hw; exact False.elim hw
  | succ n ih =>
    intro x4 x5 x6 h hw
    refine g_iload dX12_ask_34 rfl ?_
    refine g_aload_n dX12_ask_36 rfl rfl ?_
    refine g_getA dX12_ask_37 fl_X12_13 sh98 rfl ?_
    refine g_iconst (v := 2) dX12_ask_40 (by decide) ?_
    refine g_ialdK dX12_ask_41 ia99 al99 (by unfold vp_in; decide) (k := 2) (by decide) ?_
    refine g_icmp_ge 82 dX12_ask_42 rfl (fun hc => ?_) (fun hc => ?_)
    · have hw := hw.1 hc
      refine g_iload dX12_ask_82 rfl ?_
      exact g_iret dX12_ask_84 hw
    · have hw := hw.2 hc
      refine g_iload_n dX12_ask_45 rfl rfl ?_
      refine g_if_eq 82 dX12_ask_46 rfl (fun hc => ?_) (fun hc => ?_)
      · have hw := hw.1 hc
        refine g_iload dX12_ask_82 rfl ?_
        exact g_iret dX12_ask_84 hw
      · have hw := hw.2 hc
        refine g_aload_n dX12_ask_49 rfl rfl ?_
        refine g_iload_n dX12_ask_50 rfl rfl ?_
        refine g_iload dX12_ask_51 rfl ?_
        refine g_callVI [.int x3, .int x6] (ci := 12) dX12_ask_53 ml_X12_462 mk_X12_mostAlike rfl rfl sh98 (Nat.le_of_ble_eq_true rfl) (Nat.le_of_ble_eq_true rfl) rfl (c_M_mostAlike hw) (fun r6 h7 hw => ?_)
        refine g_istore dX12_ask_56 (by decide) (lv1 := [(0, .ref (gAd G 98)), (3, .int x3), (4, .int x4), (5, .int x5), (6, .int x6), (7, .int r6)]) rfl ?_
        refine g_iload dX12_ask_58 rfl ?_
        refine g_iload dX12_ask_60 rfl ?_
        refine jn_el hw (fun J76 eJ76 hw => ?_)
        have hJ76 : ∀ (x4_8 : Int32) (x5_9 : Int32) (h10 : Hp), J76 x4_8 x5_9 h10 → Go cX12_ask 8 RX12 (some .int) 5 G (QI G Q) 76 [(0, .ref (gAd G 98)), (3, .int x3), (4, .int x4_8), (5, .int x5_9), (6, .int x6)] [] h10 := by
          intro x4_8 x5_9 h10 hw
          subst eJ76
          obtain ⟨v11, ev11⟩ : ∃ y : Int32, y = (x6 + 1) := ⟨_, rfl⟩
          have hw := hw v11 ev11
          refine g_iinc dX12_ask_76 rfl (by rw [ev11]; rfl) (by decide) (lv1 := [(0, .ref (gAd G 98)), (3, .int x3), (4, .int x4_8), (5, .int x5_9), (6, .int v11)]) rfl ?_
          refine g_goto 34 dX12_ask_79 rfl ?_
          exact ih _ _ _ _ hw
        refine g_icmp_lt 68 dX12_ask_62 rfl (fun hc => ?_) (fun hc => ?_)
        · have hw := hw.1 hc
          refine g_iload dX12_ask_68 rfl ?_
          refine g_istore dX12_ask_70 (by decide) (lv1 := [(0, .ref (gAd G 98)), (3, .int x3), (4, .int x6), (5, .int x5), (6, .int x6), (7, .int r6)]) rfl ?_
          refine g_iload dX12_ask_72 rfl ?_
          refine g_istore dX12_ask_74 (by decide) (lv1 := [(0, .ref (gAd G 98)), (3, .int x3), (4, .int x6), (5, .int r6), (6, .int x6), (7, .int r6)]) rfl ?_
          refine g_lv [0, 1, 2, 3, 4] rfl ?_
          exact hJ76 _ _ _ hw
        · have hw := hw.2 hc
          refine g_goto 76 dX12_ask_65 rfl ?_
          refine g_lv [0, 1, 2, 3, 4] rfl ?_
          exact hJ76 _ _ _ hw
def M_ask (x1 : Int32) (h : Hp) (Q : Int32 → Hp → Prop) : Prop := ∀ h1 : Hp, h1 = sI h 98 0 0 → M_noPaid x1 h1 (fun r2 h3 => (r2 = 0 → M_weathersOf x1 h3 (fun r4 h5 => ∃ n12, M_ask_L34 r4 Q n12 (-1) 268435456 0 h5)) ∧ (¬ r2 = 0 → Q r2 h3))
set_option maxHeartbeats 4000000 in
set_option maxRecDepth 20000 in
theorem c_M_ask {G : Gx}  {x1 : Int32} {h : Hp} {Q : Int32 → Hp → Prop} (hw : M_ask x1 h Q) : Ct yX12_ask cX12_ask 8 (some .int) 5 G [.ref (gAd G 98), .int x1] h (QI G Q) := by
  refine ct_go [(0, .ref (gAd G 98)), (1, .int x1)] (plainFor_of_name (by decide)) rfl (Nat.le_of_ble_eq_true rfl) rfl ?_
  refine g_aload_n dX12_ask_0 rfl rfl ?_
  refine g_iconst (v := 0) dX12_ask_1 (by decide) ?_
  refine g_putI dX12_ask_2 fl_X12_1 sh98 rfl rfl pf_12_0 ?_
  refine g_heap (fun h1 eh1 => ?_)
  have hw := hw h1 eh1
  refine g_aload_n dX12_ask_5 rfl rfl ?_
  refine g_iload_n dX12_ask_6 rfl rfl ?_
  refine g_callVI [.int x1] (ci := 12) dX12_ask_7 ml_X12_456 mk_X12_noPaid rfl rfl sh98 (Nat.le_of_ble_eq_true rfl) (Nat.le_of_ble_eq_true rfl) rfl (c_M_noPaid hw) (fun r2 h3 hw => ?_)
  refine g_istore_n dX12_ask_10 rfl (by decide) (lv1 := [(0, .ref (gAd G 98)), (1, .int x1), (2, .int r2)]) rfl ?_
  refine g_iload_n dX12_ask_11 rfl rfl ?_
  refine g_if_eq 17 dX12_ask_12 rfl (fun hc => ?_) (fun hc => ?_)
  · have hw := hw.1 hc
    refine g_aload_n dX12_ask_17 rfl rfl ?_
    refine g_iload_n dX12_ask_18 rfl rfl ?_
    refine g_callVI [.int x1] (ci := 12) dX12_ask_19 ml_X12_459 mk_X12_weathersOf rfl rfl sh98 (Nat.le_of_ble_eq_true rfl) (Nat.le_of_ble_eq_true rfl) rfl (c_M_weathersOf hw) (fun r4 h5 hw => ?_)
    refine g_istore_n dX12_ask_22 rfl (by decide) (lv1 := [(0, .ref (gAd G 98)), (1, .int x1), (2, .int r2), (3, .int r4)]) rfl ?_
    refine g_iconst (v := (-1)) dX12_ask_23 (by decide) ?_
    refine g_istore dX12_ask_24 (by decide) (lv1 := [(0, .ref (gAd G 98)), (1, .int x1), (2, .int r2), (3, .int r4), (4, .int (-1))]) rfl ?_
    refine g_ldcw dX12_ask_26 kc_X12_418 ?_
    refine g_istore dX12_ask_29 (by decide) (lv1 := [(0, .ref (gAd G 98)), (1, .int x1), (2, .int r2), (3, .int r4), (4, .int (-1)), (5, .int 268435456)]) rfl ?_
    refine g_iconst (v := 0) dX12_ask_31 (by decide) ?_
    refine g_istore dX12_ask_32 (by decide) (lv1 := [(0, .ref (gAd G 98)), (1, .int x1), (2, .int r2), (3, .int r4), (4, .int (-1)), (5, .int 268435456), (6, .int 0)]) rfl ?_
    obtain ⟨n12, hw⟩ := hw
    refine g_lv [0, 3, 4, 5, 6] rfl ?_
    refine gl_M_ask_L34   _ _ _ _ _ hw
  · have hw := hw.2 hc
    refine g_iload_n dX12_ask_15 rfl rfl ?_
    exact g_iret dX12_ask_16 hw
theorem dX12_goesLots_0 : decode cX12_goesLots 0 = .ok (.iload 4, 2) := by decide +kernel
theorem dX12_goesLots_2 : decode cX12_goesLots 2 = .ok (.ifCond .ne 38, 3) := by decide +kernel
theorem dX12_goesLots_5 : decode cX12_goesLots 5 = .ok (.aload_n 0, 1) := by decide +kernel
theorem dX12_goesLots_6 : decode cX12_goesLots 6 = .ok (.dup, 1) := by decide +kernel
theorem dX12_goesLots_7 : decode cX12_goesLots 7 = .ok (.getfield 465, 3) := by decide +kernel
theorem dX12_goesLots_10 : decode cX12_goesLots 10 = .ok (.lload_n 2, 1) := by decide +kernel
theorem dX12_goesLots_11 : decode cX12_goesLots 11 = .ok (.lconst 0, 1) := by decide +kernel
theorem dX12_goesLots_12 : decode cX12_goesLots 12 = .ok (.lcmp, 1) := by decide +kernel
theorem dX12_goesLots_13 : decode cX12_goesLots 13 = .ok (.ifCond .ge 7, 3) := by decide +kernel
theorem dX12_goesLots_16 : decode cX12_goesLots 16 = .ok (.lconst 0, 1) := by decide +kernel
theorem dX12_goesLots_17 : decode cX12_goesLots 17 = .ok (.goto 5, 3) := by decide +kernel
theorem dX12_goesLots_20 : decode cX12_goesLots 20 = .ok (.lload 5, 2) := by decide +kernel
theorem dX12_goesLots_22 : decode cX12_goesLots 22 = .ok (.ladd, 1) := by decide +kernel
theorem dX12_goesLots_23 : decode cX12_goesLots 23 = .ok (.putfield 465, 3) := by decide +kernel
theorem dX12_goesLots_26 : decode cX12_goesLots 26 = .ok (.aload_n 0, 1) := by decide +kernel
theorem dX12_goesLots_27 : decode cX12_goesLots 27 = .ok (.dup, 1) := by decide +kernel
theorem dX12_goesLots_28 : decode cX12_goesLots 28 = .ok (.getfield 469, 3) := by decide +kernel
theorem dX12_goesLots_31 : decode cX12_goesLots 31 = .ok (.lload 5, 2) := by decide +kernel
theorem dX12_goesLots_33 : decode cX12_goesLots 33 = .ok (.lload_n 2, 1) := by decide +kernel
theorem dX12_goesLots_34 : decode cX12_goesLots 34 = .ok (.lmul, 1) := by decide +kernel
theorem dX12_goesLots_35 : decode cX12_goesLots 35 = .ok (.ladd, 1) := by decide +kernel
theorem dX12_goesLots_36 : decode cX12_goesLots 36 = .ok (.putfield 469, 3) := by decide +kernel
theorem dX12_goesLots_39 : decode cX12_goesLots 39 = .ok (.return_, 1) := by decide +kernel
theorem dX12_goesLots_40 : decode cX12_goesLots 40 = .ok (.bipush 10, 2) := by decide +kernel
theorem dX12_goesLots_42 : decode cX12_goesLots 42 = .ok (.istore 7, 2) := by decide +kernel
theorem dX12_goesLots_44 : decode cX12_goesLots 44 = .ok (.iconst 0, 1) := by decide +kernel
theorem dX12_goesLots_45 : decode cX12_goesLots 45 = .ok (.istore 8, 2) := by decide +kernel
theorem dX12_goesLots_47 : decode cX12_goesLots 47 = .ok (.iload 8, 2) := by decide +kernel
theorem dX12_goesLots_49 : decode cX12_goesLots 49 = .ok (.bipush 16, 2) := by decide +kernel
theorem dX12_goesLots_51 : decode cX12_goesLots 51 = .ok (.if_icmp .ge 62, 3) := by decide +kernel
theorem dX12_goesLots_54 : decode cX12_goesLots 54 = .ok (.aload_n 0, 1) := by decide +kernel
theorem dX12_goesLots_55 : decode cX12_goesLots 55 = .ok (.getfield 45, 3) := by decide +kernel
theorem dX12_goesLots_58 : decode cX12_goesLots 58 = .ok (.iload_n 1, 1) := by decide +kernel
theorem dX12_goesLots_59 : decode cX12_goesLots 59 = .ok (.iaload, 1) := by decide +kernel
theorem dX12_goesLots_60 : decode cX12_goesLots 60 = .ok (.i2l, 1) := by decide +kernel
theorem dX12_goesLots_61 : decode cX12_goesLots 61 = .ok (.iload 8, 2) := by decide +kernel
theorem dX12_goesLots_63 : decode cX12_goesLots 63 = .ok (.invokestatic 228, 3) := by decide +kernel
theorem dX12_goesLots_66 : decode cX12_goesLots 66 = .ok (.ifCond .eq 41, 3) := by decide +kernel
theorem dX12_goesLots_69 : decode cX12_goesLots 69 = .ok (.iload 7, 2) := by decide +kernel
theorem dX12_goesLots_71 : decode cX12_goesLots 71 = .ok (.ifCond .ne 6, 3) := by decide +kernel
theorem dX12_goesLots_74 : decode cX12_goesLots 74 = .ok (.goto 33, 3) := by decide +kernel
theorem dX12_goesLots_77 : decode cX12_goesLots 77 = .ok (.aload_n 0, 1) := by decide +kernel
theorem dX12_goesLots_78 : decode cX12_goesLots 78 = .ok (.aload_n 0, 1) := by decide +kernel
theorem dX12_goesLots_79 : decode cX12_goesLots 79 = .ok (.getfield 39, 3) := by decide +kernel
theorem dX12_goesLots_82 : decode cX12_goesLots 82 = .ok (.iload 8, 2) := by decide +kernel
theorem dX12_goesLots_84 : decode cX12_goesLots 84 = .ok (.iaload, 1) := by decide +kernel
theorem dX12_goesLots_85 : decode cX12_goesLots 85 = .ok (.lload_n 2, 1) := by decide +kernel
theorem dX12_goesLots_86 : decode cX12_goesLots 86 = .ok (.aload_n 0, 1) := by decide +kernel
theorem dX12_goesLots_87 : decode cX12_goesLots 87 = .ok (.getfield 42, 3) := by decide +kernel
theorem dX12_goesLots_90 : decode cX12_goesLots 90 = .ok (.iload 8, 2) := by decide +kernel
theorem dX12_goesLots_92 : decode cX12_goesLots 92 = .ok (.iaload, 1) := by decide +kernel
theorem dX12_goesLots_93 : decode cX12_goesLots 93 = .ok (.i2l, 1) := by decide +kernel
theorem dX12_goesLots_94 : decode cX12_goesLots 94 = .ok (.ladd, 1) := by decide +kernel
theorem dX12_goesLots_95 : decode cX12_goesLots 95 = .ok (.iload 4, 2) := by decide +kernel
theorem dX12_goesLots_97 : decode cX12_goesLots 97 = .ok (.iconst 1, 1) := by decide +kernel
theorem dX12_goesLots_98 : decode cX12_goesLots 98 = .ok (.isub, 1) := by decide +kernel
theorem dX12_goesLots_99 : decode cX12_goesLots 99 = .ok (.lload 5, 2) := by decide +kernel
theorem dX12_goesLots_101 : decode cX12_goesLots 101 = .ok (.invokevirtual 472, 3) := by decide +kernel
theorem dX12_goesLots_104 : decode cX12_goesLots 104 = .ok (.iinc 7 (-1), 3) := by decide +kernel
theorem dX12_goesLots_107 : decode cX12_goesLots 107 = .ok (.iinc 8 1, 3) := by decide +kernel
theorem dX12_goesLots_110 : decode cX12_goesLots 110 = .ok (.goto (-63), 3) := by decide +kernel
theorem dX12_goesLots_113 : decode cX12_goesLots 113 = .ok (.iload 7, 2) := by decide +kernel
theorem dX12_goesLots_115 : decode cX12_goesLots 115 = .ok (.ifCond .le 19, 3) := by decide +kernel
theorem dX12_goesLots_118 : decode cX12_goesLots 118 = .ok (.aload_n 0, 1) := by decide +kernel
theorem dX12_goesLots_119 : decode cX12_goesLots 119 = .ok (.iload_n 1, 1) := by decide +kernel
theorem dX12_goesLots_120 : decode cX12_goesLots 120 = .ok (.lload_n 2, 1) := by decide +kernel
theorem dX12_goesLots_121 : decode cX12_goesLots 121 = .ok (.iload 4, 2) := by decide +kernel
theorem dX12_goesLots_123 : decode cX12_goesLots 123 = .ok (.iconst 1, 1) := by decide +kernel
theorem dX12_goesLots_124 : decode cX12_goesLots 124 = .ok (.isub, 1) := by decide +kernel
theorem dX12_goesLots_125 : decode cX12_goesLots 125 = .ok (.lload 5, 2) := by decide +kernel
theorem dX12_goesLots_127 : decode cX12_goesLots 127 = .ok (.iload 7, 2) := by decide +kernel
theorem dX12_goesLots_129 : decode cX12_goesLots 129 = .ok (.i2l, 1) := by decide +kernel
theorem dX12_goesLots_130 : decode cX12_goesLots 130 = .ok (.lmul, 1) := by decide +kernel
theorem dX12_goesLots_131 : decode cX12_goesLots 131 = .ok (.invokevirtual 472, 3) := by decide +kernel
theorem dX12_goesLots_134 : decode cX12_goesLots 134 = .ok (.return_, 1) := by decide +kernel
theorem ml_X12_472 : Cond.methodLink RX12 472 yX12_goesLots ∈ Wd := mW 2001 (by decide +kernel) rfl
theorem mk_X12_goesLots : MokV yX12_goesLots cX12_goesLots 9 none 4 := ⟨⟨mW 14 (by decide +kernel) rfl, mW 2004 (by decide +kernel) rfl, ⟨by decide, by decide, by decide +kernel⟩, by decide⟩, mW 2003 (by decide +kernel) rfl, mS (q := (yX12_goesLots, 46)) 115 (by decide +kernel)⟩
theorem fl_X12_465 : FLk RX12 465 12 41 := ⟨_, rfl, by decide, mW 1423 (by decide +kernel) rfl⟩
theorem pf_12_41 : parseFieldDescriptor (uD 12 41) = some .long := by decide +kernel
theorem fl_X12_469 : FLk RX12 469 12 42 := ⟨_, rfl, by decide, mW 1424 (by decide +kernel) rfl⟩
theorem pf_12_42 : parseFieldDescriptor (uD 12 42) = some .long := by decide +kernel
def M_goesLots_L47 (x1 : Int32) (x2 : Int64) (x4 : Int32) (x5 : Int64) (R_goesLots : Int32 → Int64 → Int32 → Int64 → Hp → (Hp → Prop) → Prop) (K113 : Int32 → Hp → Prop) : Nat → Int32 → Int32 → Hp → Prop
  | 0, _, _, _ => False
  | n + 1, x7, x8, h => (16 ≤ x8 → K113 x7 h) ∧ (¬ 16 ≤ x8 → vp_in x1 8 ∧ M_isIn (((gI h 108 (x1).toNatClampNeg)).toInt64) x8 h (fun r1 h2 => ∀ J107 : Int32 → Hp → Prop, J107 = (fun x7_3 h4 => ∀ v5 : Int32, v5 = (x8 + 1) → M_goesLots_L47 x1 x2 x4 x5 R_goesLots K113 n x7_3 v5 h4) → (r1 = 0 → J107 x7 h2) ∧ (¬ r1 = 0 → (¬ x7 = 0 → vp_in x8 24 ∧ vp_in x8 24 ∧ R_goesLots (gI h2 106 (x8).toNatClampNeg) (x2 + (((gI h2 107 (x8).toNatClampNeg)).toInt64)) (x4 - 1) x5 h2 (fun h6 => ∀ v7 : Int32, v7 = (x7 + (-1)) → J107 v7 h6)) ∧ (x7 = 0 → J107 x7 h2))))
set_option maxHeartbeats 4000000 in
set_option maxRecDepth 20000 in
theorem gl_M_goesLots_L47 {G : Gx}  {d d1 : Nat} (hdd : d1 + 1 ≤ d) (hD : 2 ≤ d) {R_goesLots : Int32 → Int64 → Int32 → Int64 → Hp → (Hp → Prop) → Prop} (hR_goesLots : ∀ (y0 : Int32) (y1 : Int64) (y2 : Int32) (y3 : Int64) (h : Hp) (Q : Hp → Prop), R_goesLots y0 y1 y2 y3 h Q → Ct yX12_goesLots cX12_goesLots 9 none d1 G [.ref (gAd G 98), .int y0, .long y1, .int y2, .long y3] h (QV G Q)) {x1 : Int32} {x2 : Int64} {x4 : Int32} {x5 : Int64} {Q : Hp → Prop} {K113 : Int32 → Hp → Prop} (hK113 : ∀ (y7 : Int32) (h1 : Hp), K113 y7 h1 → Go cX12_goesLots 9 RX12 none d G (QV G Q) 113 [(0, .ref (gAd G 98)), (1, .int x1), (2, .long x2), (4, .int x4), (5, .long x5), (7, .int y7)] [] h1) : ∀ (n : Nat) (x7 : Int32) (x8 : Int32) (h : Hp), M_goesLots_L47 x1 x2 x4 x5 R_goesLots K113 n x7 x8 h → Go cX12_goesLots 9 RX12 none d G (QV G Q) 47 [(0, .ref (gAd G 98)), (1, .int x1), (2, .long x2), (4, .int x4), (5, .long x5), (7, .int x7), (8, .int x8)] [] h := by
  intro n
  induction n with
  | zero => intro _ _ h hw; exact False.elim hw
  | succ n ih =>
    intro x7 x8 h hw
    refine g_iload dX12_goesLots_47 rfl ?_
    refine g_bipush (v := 16) dX12_goesLots_49 (by decide) ?_
    refine g_icmp_ge 113 dX12_goesLots_51 rfl (fun hc => ?_) (fun hc => ?_)
    · have hw := hw.1 hc
      refine g_lv [0, 1, 2, 3, 4, 5] rfl ?_
      exact hK113 _ _ hw
    · have hw := hw.2 hc
      refine g_aload_n dX12_goesLots_54 rfl rfl ?_
      refine g_getA dX12_goesLots_55 fl_X12_45 sh98 rfl ?_
      refine g_iload_n dX12_goesLots_58 rfl rfl ?_
      refine g_iald dX12_goesLots_59 ia108 al108 hw.1 ?_
      have hw := hw.2
      refine g_i2l dX12_goesLots_60 ?_
      refine g_iload dX12_goesLots_61 rfl ?_
      refine g_callSI [.long (((gI h 108 (x1).toNatClampNeg)).toInt64), .int x8] dX12_goesLots_63 ml_X12_228 mk_X12_isIn rfl (by omega) (Nat.le_of_ble_eq_true rfl) rfl (c_M_isIn hw) (fun r1 h2 hw => ?_)
      refine jn_el hw (fun J107 eJ107 hw => ?_)
      have hJ107 : ∀ (x7_3 : Int32) (h4 : Hp), J107 x7_3 h4 → Go cX12_goesLots 9 RX12 none d G (QV G Q) 107 [(0, .ref (gAd G 98)), (1, .int x1), (2, .long x2), (4, .int x4), (5, .long x5), (7, .int x7_3), (8, .int x8)] [] h4 := by
        intro x7_3 h4 hw
        subst eJ107
        obtain ⟨v5, ev5⟩ : ∃ y : Int32, y = (x8 + 1) := ⟨_, rfl⟩
        have hw := hw v5 ev5
        refine g_iinc dX12_goesLots_107 rfl (by rw [ev5]; rfl) (by decide) (lv1 := [(0, .ref (gAd G 98)), (1, .int x1), (2, .long x2), (4, .int x4), (5, .long x5), (7, .int x7_3), (8, .int v5)]) rfl ?_
        refine g_goto 47 dX12_goesLots_110 rfl ?_
        exact ih _ _ _ hw
      refine g_if_eq 107 dX12_goesLots_66 rfl (fun hc => ?_) (fun hc => ?_)
      · have hw := hw.1 hc
        exact hJ107 _ _ hw
      · have hw := hw.2 hc
        refine g_iload dX12_goesLots_69 rfl ?_
        refine g_if_ne 77 dX12_goesLots_71 rfl (fun hc => ?_) (fun hc => ?_)
        · have hw := hw.1 hc
          refine g_aload_n dX12_goesLots_77 rfl rfl ?_
          refine g_aload_n dX12_goesLots_78 rfl rfl ?_
          refine g_getA dX12_goesLots_79 fl_X12_39 sh98 rfl ?_
          refine g_iload dX12_goesLots_82 rfl ?_
          refine g_iald dX12_goesLots_84 ia106 al106 hw.1 ?_
          have hw := hw.2
          refine g_lload_n dX12_goesLots_85 rfl rfl ?_
          refine g_aload_n dX12_goesLots_86 rfl rfl ?_
          refine g_getA dX12_goesLots_87 fl_X12_42 sh98 rfl ?_
          refine g_iload dX12_goesLots_90 rfl ?_
          refine g_iald dX12_goesLots_92 ia107 al107 hw.1 ?_
          have hw := hw.2
          refine g_i2l dX12_goesLots_93 ?_
          refine g_ladd dX12_goesLots_94 ?_
          refine g_iload dX12_goesLots_95 rfl ?_
          refine g_iconst (v := 1) dX12_goesLots_97 (by decide) ?_
          refine g_isub dX12_goesLots_98 ?_
          refine g_lload dX12_goesLots_99 rfl ?_
          refine g_callVV [.int (gI h2 106 (x8).toNatClampNeg), .long (x2 + (((gI h2 107 (x8).toNatClampNeg)).toInt64)), .int (x4 - 1), .long x5] (ci := 12) dX12_goesLots_101 ml_X12_472 mk_X12_goesLots rfl rfl sh98 hdd (Nat.le_of_ble_eq_true rfl) rfl (hR_goesLots _ _ _ _ _ _ hw) (fun h6 hw => ?_)
          obtain ⟨v7, ev7⟩ : ∃ y : Int32, y = (x7 + (-1)) := ⟨_, rfl⟩
          have hw := hw v7 ev7
          refine g_iinc dX12_goesLots_104 rfl (by rw [ev7]; rfl) (by decide) (lv1 := [(0, .ref (gAd G 98)), (1, .int x1), (2, .long x2), (4, .int x4), (5, .long x5), (7, .int v7), (8, .int x8)]) rfl ?_
          exact hJ107 _ _ hw
        · have hw := hw.2 hc
          refine g_goto 107 dX12_goesLots_74 rfl ?_
          exact hJ107 _ _ hw
def M_goesLots_B  (R_goesLots : Int32 → Int64 → Int32 → Int64 → Hp → (Hp → Prop) → Prop) (x1 : Int32) (x2 : Int64) (x4 : Int32) (x5 : Int64) (h : Hp) (Q : Hp → Prop) : Prop := (¬ x4 = 0 → ∃ n8, M_goesLots_L47 x1 x2 x4 x5 R_goesLots (fun x7_9 h10 => (x7_9 ≤ 0 → Q h10) ∧ (¬ x7_9 ≤ 0 → R_goesLots x1 x2 (x4 - 1) (x5 * ((x7_9).toInt64)) h10 (fun h11 => Q h11))) n8 10 0 h) ∧ (x4 = 0 → ∀ J22 : Int64 → Hp → Prop, J22 = (fun s12 h13 => ∀ h14 : Hp, h14 = sJ h13 98 41 ((gJ h 98 41) + s12) → ∀ h15 : Hp, h15 = sJ h14 98 42 ((gJ h14 98 42) + (x5 * x2)) → Q h15) → ((0 : Int64) ≤ x2 → J22 x5 h) ∧ (¬ (0 : Int64) ≤ x2 → J22 (0 : Int64) h))
set_option maxHeartbeats 4000000 in
set_option maxRecDepth 20000 in
theorem cb_M_goesLots {G : Gx}  {d d1 : Nat} (hdd : d1 + 1 ≤ d) (hD : 2 ≤ d) {R_goesLots : Int32 → Int64 → Int32 → Int64 → Hp → (Hp → Prop) → Prop} (hR_goesLots : ∀ (y0 : Int32) (y1 : Int64) (y2 : Int32) (y3 : Int64) (h : Hp) (Q : Hp → Prop), R_goesLots y0 y1 y2 y3 h Q → Ct yX12_goesLots cX12_goesLots 9 none d1 G [.ref (gAd G 98), .int y0, .long y1, .int y2, .long y3] h (QV G Q)) {x1 : Int32} {x2 : Int64} {x4 : Int32} {x5 : Int64} {h : Hp} {Q : Hp → Prop} (hw : M_goesLots_B  R_goesLots x1 x2 x4 x5 h Q) : Ct yX12_goesLots cX12_goesLots 9 none d G [.ref (gAd G 98), .int x1, .long x2, .int x4, .long x5] h (QV G Q) := by
  refine ct_go [(0, .ref (gAd G 98)), (1, .int x1), (2, .long x2), (4, .int x4), (5, .long x5)] (plainFor_of_name (by decide)) rfl (Nat.le_of_ble_eq_true rfl) rfl ?_
  refine g_iload dX12_goesLots_0 rfl ?_
  refine g_if_ne 40 dX12_goesLots_2 rfl (fun hc => ?_) (fun hc => ?_)
  · have hw := hw.1 hc
    refine g_bipush (v := 10) dX12_goesLots_40 (by decide) ?_
    refine g_istore dX12_goesLots_42 (by decide) (lv1 := [(0, .ref (gAd G 98)), (1, .int x1), (2, .long x2), (4, .int x4), (5, .long x5), (7, .int 10)]) rfl ?_
    refine g_iconst (v := 0) dX12_goesLots_44 (by decide) ?_
    refine g_istore dX12_goesLots_45 (by decide) (lv1 := [(0, .ref (gAd G 98)), (1, .int x1), (2, .long x2), (4, .int x4), (5, .long x5), (7, .int 10), (8, .int 0)]) rfl ?_
    obtain ⟨n8, hw⟩ := hw
    refine gl_M_goesLots_L47  hdd hD hR_goesLots ?_ _ _ _ _ hw
    · intro x7_9 h10 hw
      refine g_iload dX12_goesLots_113 rfl ?_
      refine g_if_le 134 dX12_goesLots_115 rfl (fun hc => ?_) (fun hc => ?_)
      · have hw := hw.1 hc
        exact g_vret dX12_goesLots_134 hw
      · have hw := hw.2 hc
        refine g_aload_n dX12_goesLots_118 rfl rfl ?_
        refine g_iload_n dX12_goesLots_119 rfl rfl ?_
        refine g_lload_n dX12_goesLots_120 rfl rfl ?_
        refine g_iload dX12_goesLots_121 rfl ?_
        refine g_iconst (v := 1) dX12_goesLots_123 (by decide) ?_
        refine g_isub dX12_goesLots_124 ?_
        refine g_lload dX12_goesLots_125 rfl ?_
        refine g_iload dX12_goesLots_127 rfl ?_
        refine g_i2l dX12_goesLots_129 ?_
        refine g_lmul dX12_goesLots_130 ?_
        refine g_callVV [.int x1, .long x2, .int (x4 - 1), .long (x5 * ((x7_9).toInt64))] (ci := 12) dX12_goesLots_131 ml_X12_472 mk_X12_goesLots rfl rfl sh98 hdd (Nat.le_of_ble_eq_true rfl) rfl (hR_goesLots _ _ _ _ _ _ hw) (fun h11 hw => ?_)
        exact g_vret dX12_goesLots_134 hw
  · have hw := hw.2 hc
    refine g_aload_n dX12_goesLots_5 rfl rfl ?_
    refine g_dup dX12_goesLots_6 rfl ?_
    refine g_getJ dX12_goesLots_7 fl_X12_465 sh98 rfl ?_
    refine g_lload_n dX12_goesLots_10 rfl rfl ?_
    refine g_lconst (v := (0 : Int64)) dX12_goesLots_11 (by decide) ?_
    refine jn_el hw (fun J22 eJ22 hw => ?_)
    have hJ22 : ∀ (s12 : Int64) (h13 : Hp), J22 s12 h13 → Go cX12_goesLots 9 RX12 none d G (QV G Q) 22 [(0, .ref (gAd G 98)), (2, .long x2), (5, .long x5)] [.long s12, .long (gJ h 98 41), .ref (gAd G 98)] h13 := by
      intro s12 h13 hw
      subst eJ22
      refine g_ladd dX12_goesLots_22 ?_
      refine g_putJ dX12_goesLots_23 fl_X12_465 sh98 rfl rfl pf_12_41 ?_
      refine g_heap (fun h14 eh14 => ?_)
      have hw := hw h14 eh14
      refine g_aload_n dX12_goesLots_26 rfl rfl ?_
      refine g_dup dX12_goesLots_27 rfl ?_
      refine g_getJ dX12_goesLots_28 fl_X12_469 sh98 rfl ?_
      refine g_lload dX12_goesLots_31 rfl ?_
      refine g_lload_n dX12_goesLots_33 rfl rfl ?_
      refine g_lmul dX12_goesLots_34 ?_
      refine g_ladd dX12_goesLots_35 ?_
      refine g_putJ dX12_goesLots_36 fl_X12_469 sh98 rfl rfl pf_12_42 ?_
      refine g_heap (fun h15 eh15 => ?_)
      have hw := hw h15 eh15
      exact g_vret dX12_goesLots_39 hw
    refine g_lc_ge 20 dX12_goesLots_12 dX12_goesLots_13 rfl (fun hc => ?_) (fun hc => ?_)
    · have hw := hw.1 hc
      refine g_lload dX12_goesLots_20 rfl ?_
      refine g_lv [0, 2, 4] rfl ?_
      exact hJ22 _ _ hw
    · have hw := hw.2 hc
      refine g_lconst (v := (0 : Int64)) dX12_goesLots_16 (by decide) ?_
      refine g_goto 22 dX12_goesLots_17 rfl ?_
      refine g_lv [0, 2, 4] rfl ?_
      exact hJ22 _ _ hw
def M_goesLots  : Nat → Int32 → Int64 → Int32 → Int64 → Hp → (Hp → Prop) → Prop
  | 0, _, _, _, _, _, _ => False
  | n + 1, x1, x2, x4, x5, h, Q => M_goesLots_B  (M_goesLots  n) x1 x2 x4 x5 h Q
theorem cn_M_goesLots {G : Gx}  : ∀ (n : Nat) (x1 : Int32) (x2 : Int64) (x4 : Int32) (x5 : Int64) (h : Hp) (Q : Hp → Prop), M_goesLots  n x1 x2 x4 x5 h Q → Ct yX12_goesLots cX12_goesLots 9 none (2 + n) G [.ref (gAd G 98), .int x1, .long x2, .int x4, .long x5] h (QV G Q) := by
  intro n
  induction n with
  | zero => intro _ _ _ _ _ _ hw; exact False.elim hw
  | succ n ih =>
    intro x1 x2 x4 x5 h Q hw
    exact cb_M_goesLots  (d := 2 + (n + 1)) (d1 := 2 + n) (by omega) (by omega) ih hw
theorem c_M_goesLots {G : Gx}  {x1 : Int32} {x2 : Int64} {x4 : Int32} {x5 : Int64} {h : Hp} {Q : Hp → Prop} (hw : M_goesLots  8 x1 x2 x4 x5 h Q) : Ct yX12_goesLots cX12_goesLots 9 none 10 G [.ref (gAd G 98), .int x1, .long x2, .int x4, .long x5] h (QV G Q) := cn_M_goesLots  8 _ _ _ _ _ _ hw
theorem dX12_laysLots_0 : decode cX12_laysLots 0 = .ok (.aload_n 0, 1) := by decide +kernel
theorem dX12_laysLots_1 : decode cX12_laysLots 1 = .ok (.invokevirtual 260, 3) := by decide +kernel
theorem dX12_laysLots_4 : decode cX12_laysLots 4 = .ok (.aload_n 0, 1) := by decide +kernel
theorem dX12_laysLots_5 : decode cX12_laysLots 5 = .ok (.lconst 0, 1) := by decide +kernel
theorem dX12_laysLots_6 : decode cX12_laysLots 6 = .ok (.putfield 465, 3) := by decide +kernel
theorem dX12_laysLots_9 : decode cX12_laysLots 9 = .ok (.aload_n 0, 1) := by decide +kernel
theorem dX12_laysLots_10 : decode cX12_laysLots 10 = .ok (.lconst 0, 1) := by decide +kernel
theorem dX12_laysLots_11 : decode cX12_laysLots 11 = .ok (.putfield 469, 3) := by decide +kernel
theorem dX12_laysLots_14 : decode cX12_laysLots 14 = .ok (.aload_n 0, 1) := by decide +kernel
theorem dX12_laysLots_15 : decode cX12_laysLots 15 = .ok (.aload_n 0, 1) := by decide +kernel
theorem dX12_laysLots_16 : decode cX12_laysLots 16 = .ok (.getfield 13, 3) := by decide +kernel
theorem dX12_laysLots_19 : decode cX12_laysLots 19 = .ok (.bipush 58, 2) := by decide +kernel
theorem dX12_laysLots_21 : decode cX12_laysLots 21 = .ok (.iaload, 1) := by decide +kernel
theorem dX12_laysLots_22 : decode cX12_laysLots 22 = .ok (.aload_n 0, 1) := by decide +kernel
theorem dX12_laysLots_23 : decode cX12_laysLots 23 = .ok (.getfield 13, 3) := by decide +kernel
theorem dX12_laysLots_26 : decode cX12_laysLots 26 = .ok (.bipush 59, 2) := by decide +kernel
theorem dX12_laysLots_28 : decode cX12_laysLots 28 = .ok (.iaload, 1) := by decide +kernel
theorem dX12_laysLots_29 : decode cX12_laysLots 29 = .ok (.i2l, 1) := by decide +kernel
theorem dX12_laysLots_30 : decode cX12_laysLots 30 = .ok (.iload_n 1, 1) := by decide +kernel
theorem dX12_laysLots_31 : decode cX12_laysLots 31 = .ok (.lconst 1, 1) := by decide +kernel
theorem dX12_laysLots_32 : decode cX12_laysLots 32 = .ok (.invokevirtual 472, 3) := by decide +kernel
theorem dX12_laysLots_35 : decode cX12_laysLots 35 = .ok (.return_, 1) := by decide +kernel
def M_laysLots (x1 : Int32) (h : Hp) (Q : Hp → Prop) : Prop := M_laysWays  h (fun h1 => ∀ h2 : Hp, h2 = sJ h1 98 41 (0 : Int64) → ∀ h3 : Hp, h3 = sJ h2 98 42 (0 : Int64) → M_goesLots 8 (gI h3 99 58) (((gI h3 99 59)).toInt64) x1 (1 : Int64) h3 (fun h4 => Q h4))
set_option maxHeartbeats 4000000 in
set_option maxRecDepth 20000 in
theorem c_M_laysLots {G : Gx}  {x1 : Int32} {h : Hp} {Q : Hp → Prop} (hw : M_laysLots x1 h Q) : Ct yX12_laysLots cX12_laysLots 2 none 11 G [.ref (gAd G 98), .int x1] h (QV G Q) := by
  refine ct_go [(0, .ref (gAd G 98)), (1, .int x1)] (plainFor_of_name (by decide)) rfl (Nat.le_of_ble_eq_true rfl) rfl ?_
  refine g_aload_n dX12_laysLots_0 rfl rfl ?_
  refine g_callVV [] (ci := 12) dX12_laysLots_1 ml_X12_260 mk_X12_laysWays rfl rfl sh98 (Nat.le_of_ble_eq_true rfl) (Nat.le_of_ble_eq_true rfl) rfl (c_M_laysWays hw) (fun h1 hw => ?_)
  refine g_aload_n dX12_laysLots_4 rfl rfl ?_
  refine g_lconst (v := (0 : Int64)) dX12_laysLots_5 (by decide) ?_
  refine g_putJ dX12_laysLots_6 fl_X12_465 sh98 rfl rfl pf_12_41 ?_
  refine g_heap (fun h2 eh2 => ?_)
  have hw := hw h2 eh2
  refine g_aload_n dX12_laysLots_9 rfl rfl ?_
  refine g_lconst (v := (0 : Int64)) dX12_laysLots_10 (by decide) ?_
  refine g_putJ dX12_laysLots_11 fl_X12_469 sh98 rfl rfl pf_12_42 ?_
  refine g_heap (fun h3 eh3 => ?_)
  have hw := hw h3 eh3
  refine g_aload_n dX12_laysLots_14 rfl rfl ?_
  refine g_aload_n dX12_laysLots_15 rfl rfl ?_
  refine g_getA dX12_laysLots_16 fl_X12_13 sh98 rfl ?_
  refine g_bipush (v := 58) dX12_laysLots_19 (by decide) ?_
  refine g_ialdK dX12_laysLots_21 ia99 al99 (by unfold vp_in; decide) (k := 58) (by decide) ?_
  refine g_aload_n dX12_laysLots_22 rfl rfl ?_
  refine g_getA dX12_laysLots_23 fl_X12_13 sh98 rfl ?_
  refine g_bipush (v := 59) dX12_laysLots_26 (by decide) ?_
  refine g_ialdK dX12_laysLots_28 ia99 al99 (by unfold vp_in; decide) (k := 59) (by decide) ?_
  refine g_i2l dX12_laysLots_29 ?_
  refine g_iload_n dX12_laysLots_30 rfl rfl ?_
  refine g_lconst (v := (1 : Int64)) dX12_laysLots_31 (by decide) ?_
  refine g_callVV [.int (gI h3 99 58), .long (((gI h3 99 59)).toInt64), .int x1, .long (1 : Int64)] (ci := 12) dX12_laysLots_32 ml_X12_472 mk_X12_goesLots rfl rfl sh98 (Nat.le_of_ble_eq_true rfl) (Nat.le_of_ble_eq_true rfl) rfl (c_M_goesLots hw) (fun h4 hw => ?_)
  exact g_vret dX12_laysLots_35 hw
theorem dX12_wholeOf_0 : decode cX12_wholeOf 0 = .ok (.lconst 1, 1) := by decide +kernel
theorem dX12_wholeOf_1 : decode cX12_wholeOf 1 = .ok (.lstore_n 1, 1) := by decide +kernel
theorem dX12_wholeOf_2 : decode cX12_wholeOf 2 = .ok (.iconst 0, 1) := by decide +kernel
theorem dX12_wholeOf_3 : decode cX12_wholeOf 3 = .ok (.istore_n 3, 1) := by decide +kernel
theorem dX12_wholeOf_4 : decode cX12_wholeOf 4 = .ok (.iload_n 3, 1) := by decide +kernel
theorem dX12_wholeOf_5 : decode cX12_wholeOf 5 = .ok (.iload_n 0, 1) := by decide +kernel
theorem dX12_wholeOf_6 : decode cX12_wholeOf 6 = .ok (.if_icmp .ge 15, 3) := by decide +kernel
theorem dX12_wholeOf_9 : decode cX12_wholeOf 9 = .ok (.lload_n 1, 1) := by decide +kernel
theorem dX12_wholeOf_10 : decode cX12_wholeOf 10 = .ok (.ldc2_w 315, 3) := by decide +kernel
theorem dX12_wholeOf_13 : decode cX12_wholeOf 13 = .ok (.lmul, 1) := by decide +kernel
theorem dX12_wholeOf_14 : decode cX12_wholeOf 14 = .ok (.lstore_n 1, 1) := by decide +kernel
theorem dX12_wholeOf_15 : decode cX12_wholeOf 15 = .ok (.iinc 3 1, 3) := by decide +kernel
theorem dX12_wholeOf_18 : decode cX12_wholeOf 18 = .ok (.goto (-14), 3) := by decide +kernel
theorem dX12_wholeOf_21 : decode cX12_wholeOf 21 = .ok (.lload_n 1, 1) := by decide +kernel
theorem dX12_wholeOf_22 : decode cX12_wholeOf 22 = .ok (.lreturn, 1) := by decide +kernel
def M_wholeOf_L4 (x0 : Int32) (Q : Int64 → Hp → Prop) : Nat → Int64 → Int32 → Hp → Prop
  | 0, _, _, _ => False
  | n + 1, x1, x3, h => (x0 ≤ x3 → Q x1 h) ∧ (¬ x0 ≤ x3 → ∀ v1 : Int64, v1 = (x1 * (10 : Int64)) → ∀ v2 : Int32, v2 = (x3 + 1) → M_wholeOf_L4 x0 Q n v1 v2 h)
set_option maxHeartbeats 4000000 in
set_option maxRecDepth 20000 in
theorem gl_M_wholeOf_L4 {G : Gx}  {x0 : Int32} {Q : Int64 → Hp → Prop} : ∀ (n : Nat) (x1 : Int64) (x3 : Int32) (h : Hp), M_wholeOf_L4 x0 Q n x1 x3 h → Go cX12_wholeOf 4 RX12 (some .long) 1 G (QJ G Q) 4 [(0, .int x0), (1, .long x1), (3, .int x3)] [] h := by
  intro n
  induction n with
  | zero => intro _ _ h hw; exact False.elim hw
  | succ n ih =>
    intro x1 x3 h hw
    refine g_iload_n dX12_wholeOf_4 rfl rfl ?_
    refine g_iload_n dX12_wholeOf_5 rfl rfl ?_
    refine g_icmp_ge 21 dX12_wholeOf_6 rfl (fun hc => ?_) (fun hc => ?_)
    · have hw := hw.1 hc
      refine g_lload_n dX12_wholeOf_21 rfl rfl ?_
      exact g_lret dX12_wholeOf_22 hw
    · have hw := hw.2 hc
      refine g_lload_n dX12_wholeOf_9 rfl rfl ?_
      refine g_ldc2 dX12_wholeOf_10 kl_X12_315 ?_
      refine g_lmul dX12_wholeOf_13 ?_
      refine g_topj (fun v1 ev1 => ?_)
      have hw := hw v1 ev1
      refine g_lstore_n dX12_wholeOf_14 rfl (by decide) (lv1 := [(0, .int x0), (1, .long v1), (3, .int x3)]) rfl ?_
      obtain ⟨v2, ev2⟩ : ∃ y : Int32, y = (x3 + 1) := ⟨_, rfl⟩
      have hw := hw v2 ev2
      refine g_iinc dX12_wholeOf_15 rfl (by rw [ev2]; rfl) (by decide) (lv1 := [(0, .int x0), (1, .long v1), (3, .int v2)]) rfl ?_
      refine g_goto 4 dX12_wholeOf_18 rfl ?_
      exact ih _ _ _ hw
def M_wholeOf (x0 : Int32) (h : Hp) (Q : Int64 → Hp → Prop) : Prop := ∃ n3, M_wholeOf_L4 x0 Q n3 (1 : Int64) 0 h
set_option maxHeartbeats 4000000 in
set_option maxRecDepth 20000 in
theorem c_M_wholeOf {G : Gx}  {x0 : Int32} {h : Hp} {Q : Int64 → Hp → Prop} (hw : M_wholeOf x0 h Q) : Ct yX12_wholeOf cX12_wholeOf 4 (some .long) 1 G [.int x0] h (QJ G Q) := by
  refine ct_go [(0, .int x0)] (plainFor_of_name (by decide)) rfl (Nat.le_of_ble_eq_true rfl) rfl ?_
  refine g_lconst (v := (1 : Int64)) dX12_wholeOf_0 (by decide) ?_
  refine g_lstore_n dX12_wholeOf_1 rfl (by decide) (lv1 := [(0, .int x0), (1, .long (1 : Int64))]) rfl ?_
  refine g_iconst (v := 0) dX12_wholeOf_2 (by decide) ?_
  refine g_istore_n dX12_wholeOf_3 rfl (by decide) (lv1 := [(0, .int x0), (1, .long (1 : Int64)), (3, .int 0)]) rfl ?_
  obtain ⟨n3, hw⟩ := hw
  refine gl_M_wholeOf_L4   _ _ _ _ hw
theorem dX12_chance_0 : decode cX12_chance 0 = .ok (.aload_n 0, 1) := by decide +kernel
theorem dX12_chance_1 : decode cX12_chance 1 = .ok (.iconst 0, 1) := by decide +kernel
theorem dX12_chance_2 : decode cX12_chance 2 = .ok (.putfield 1, 3) := by decide +kernel
theorem dX12_chance_5 : decode cX12_chance 5 = .ok (.iload_n 2, 1) := by decide +kernel
theorem dX12_chance_6 : decode cX12_chance 6 = .ok (.i2l, 1) := by decide +kernel
theorem dX12_chance_7 : decode cX12_chance 7 = .ok (.lconst 0, 1) := by decide +kernel
theorem dX12_chance_8 : decode cX12_chance 8 = .ok (.lconst 1, 1) := by decide +kernel
theorem dX12_chance_9 : decode cX12_chance 9 = .ok (.invokestatic 169, 3) := by decide +kernel
theorem dX12_chance_12 : decode cX12_chance 12 = .ok (.ifCond .ne 6, 3) := by decide +kernel
theorem dX12_chance_15 : decode cX12_chance 15 = .ok (.bipush (-2), 2) := by decide +kernel
theorem dX12_chance_17 : decode cX12_chance 17 = .ok (.ireturn, 1) := by decide +kernel
theorem dX12_chance_18 : decode cX12_chance 18 = .ok (.iload_n 1, 1) := by decide +kernel
theorem dX12_chance_19 : decode cX12_chance 19 = .ok (.i2l, 1) := by decide +kernel
theorem dX12_chance_20 : decode cX12_chance 20 = .ok (.lconst 0, 1) := by decide +kernel
theorem dX12_chance_21 : decode cX12_chance 21 = .ok (.ldc2_w 476, 3) := by decide +kernel
theorem dX12_chance_24 : decode cX12_chance 24 = .ok (.invokestatic 169, 3) := by decide +kernel
theorem dX12_chance_27 : decode cX12_chance 27 = .ok (.ifCond .ne 6, 3) := by decide +kernel
theorem dX12_chance_30 : decode cX12_chance 30 = .ok (.bipush (-3), 2) := by decide +kernel
theorem dX12_chance_32 : decode cX12_chance 32 = .ok (.ireturn, 1) := by decide +kernel
theorem dX12_chance_33 : decode cX12_chance 33 = .ok (.aload_n 0, 1) := by decide +kernel
theorem dX12_chance_34 : decode cX12_chance 34 = .ok (.iload_n 1, 1) := by decide +kernel
theorem dX12_chance_35 : decode cX12_chance 35 = .ok (.invokevirtual 478, 3) := by decide +kernel
theorem dX12_chance_38 : decode cX12_chance 38 = .ok (.aload_n 0, 1) := by decide +kernel
theorem dX12_chance_39 : decode cX12_chance 39 = .ok (.getfield 465, 3) := by decide +kernel
theorem dX12_chance_42 : decode cX12_chance 42 = .ok (.iload_n 1, 1) := by decide +kernel
theorem dX12_chance_43 : decode cX12_chance 43 = .ok (.invokestatic 481, 3) := by decide +kernel
theorem dX12_chance_46 : decode cX12_chance 46 = .ok (.iload_n 2, 1) := by decide +kernel
theorem dX12_chance_47 : decode cX12_chance 47 = .ok (.invokestatic 375, 3) := by decide +kernel
theorem dX12_chance_50 : decode cX12_chance 50 = .ok (.l2i, 1) := by decide +kernel
theorem dX12_chance_51 : decode cX12_chance 51 = .ok (.ireturn, 1) := by decide +kernel
theorem kl_X12_476 : Cond.constantLong RX12 476 (5) ∈ Wd := mW 1996 (by decide +kernel) rfl
theorem ml_X12_478 : Cond.methodLink RX12 478 yX12_laysLots ∈ Wd := mW 1997 (by decide +kernel) rfl
theorem mk_X12_laysLots : MokV yX12_laysLots cX12_laysLots 2 none 1 := ⟨⟨mW 14 (by decide +kernel) rfl, mW 2000 (by decide +kernel) rfl, ⟨by decide, by decide, by decide +kernel⟩, by decide⟩, mW 1999 (by decide +kernel) rfl, mS (q := (yX12_laysLots, 46)) 114 (by decide +kernel)⟩
theorem ml_X12_481 : Cond.methodLink RX12 481 yX12_wholeOf ∈ Wd := mW 2005 (by decide +kernel) rfl
theorem mk_X12_wholeOf : MokS yX12_wholeOf cX12_wholeOf 4 (some .long) 1 := ⟨⟨mW 14 (by decide +kernel) rfl, mW 2007 (by decide +kernel) rfl, ⟨by decide, by decide, by decide +kernel⟩, by decide⟩, mW 2006 (by decide +kernel) rfl⟩
def M_chance (x1 : Int32) (x2 : Int32) (h : Hp) (Q : Int32 → Hp → Prop) : Prop := ∀ h1 : Hp, h1 = sI h 98 0 0 → M_within ((x2).toInt64) (0 : Int64) (1 : Int64) h1 (fun r2 h3 => (¬ r2 = 0 → M_within ((x1).toInt64) (0 : Int64) (5 : Int64) h3 (fun r4 h5 => (¬ r4 = 0 → M_laysLots x1 h5 (fun h6 => M_wholeOf x1 h6 (fun r7 h8 => M_part (gJ h6 98 41) r7 x2 h8 (fun r9 h10 => Q ((r9).toInt32) h10)))) ∧ (r4 = 0 → Q (-3) h5))) ∧ (r2 = 0 → Q (-2) h3))
set_option maxHeartbeats 4000000 in
set_option maxRecDepth 20000 in
theorem c_M_chance {G : Gx}  {x1 : Int32} {x2 : Int32} {h : Hp} {Q : Int32 → Hp → Prop} (hw : M_chance x1 x2 h Q) : Ct yX12_chance cX12_chance 3 (some .int) 103 G [.ref (gAd G 98), .int x1, .int x2] h (QI G Q) := by
  refine ct_go [(0, .ref (gAd G 98)), (1, .int x1), (2, .int x2)] (plainFor_of_name (by decide)) rfl (Nat.le_of_ble_eq_true rfl) rfl ?_
  refine g_aload_n dX12_chance_0 rfl rfl ?_
  refine g_iconst (v := 0) dX12_chance_1 (by decide) ?_
  refine g_putI dX12_chance_2 fl_X12_1 sh98 rfl rfl pf_12_0 ?_
  refine g_heap (fun h1 eh1 => ?_)
  have hw := hw h1 eh1
  refine g_iload_n dX12_chance_5 rfl rfl ?_
  refine g_i2l dX12_chance_6 ?_
  refine g_lconst (v := (0 : Int64)) dX12_chance_7 (by decide) ?_
  refine g_lconst (v := (1 : Int64)) dX12_chance_8 (by decide) ?_
  refine g_callSI [.long ((x2).toInt64), .long (0 : Int64), .long (1 : Int64)] dX12_chance_9 ml_X12_169 mk_X12_within rfl (Nat.le_of_ble_eq_true rfl) (Nat.le_of_ble_eq_true rfl) rfl (c_M_within hw) (fun r2 h3 hw => ?_)
  refine g_if_ne 18 dX12_chance_12 rfl (fun hc => ?_) (fun hc => ?_)
  · have hw := hw.1 hc
    refine g_iload_n dX12_chance_18 rfl rfl ?_
    refine g_i2l dX12_chance_19 ?_
    refine g_lconst (v := (0 : Int64)) dX12_chance_20 (by decide) ?_
    refine g_ldc2 dX12_chance_21 kl_X12_476 ?_
    refine g_callSI [.long ((x1).toInt64), .long (0 : Int64), .long (5 : Int64)] dX12_chance_24 ml_X12_169 mk_X12_within rfl (Nat.le_of_ble_eq_true rfl) (Nat.le_of_ble_eq_true rfl) rfl (c_M_within hw) (fun r4 h5 hw => ?_)
    refine g_if_ne 33 dX12_chance_27 rfl (fun hc => ?_) (fun hc => ?_)
    · have hw := hw.1 hc
      refine g_aload_n dX12_chance_33 rfl rfl ?_
      refine g_iload_n dX12_chance_34 rfl rfl ?_
      refine g_callVV [.int x1] (ci := 12) dX12_chance_35 ml_X12_478 mk_X12_laysLots rfl rfl sh98 (Nat.le_of_ble_eq_true rfl) (Nat.le_of_ble_eq_true rfl) rfl (c_M_laysLots hw) (fun h6 hw => ?_)
      refine g_aload_n dX12_chance_38 rfl rfl ?_
      refine g_getJ dX12_chance_39 fl_X12_465 sh98 rfl ?_
      refine g_iload_n dX12_chance_42 rfl rfl ?_
      refine g_callSJ [.int x1] dX12_chance_43 ml_X12_481 mk_X12_wholeOf rfl (Nat.le_of_ble_eq_true rfl) (Nat.le_of_ble_eq_true rfl) rfl (c_M_wholeOf hw) (fun r7 h8 hw => ?_)
      refine g_iload_n dX12_chance_46 rfl rfl ?_
      refine g_callSJ [.long (gJ h6 98 41), .long r7, .int x2] dX12_chance_47 ml_X12_375 mk_X12_part rfl (Nat.le_of_ble_eq_true rfl) (Nat.le_of_ble_eq_true rfl) rfl (c_M_part hw) (fun r9 h10 hw => ?_)
      refine g_l2i dX12_chance_50 ?_
      exact g_iret dX12_chance_51 hw
    · have hw := hw.2 hc
      refine g_bipush (v := (-3)) dX12_chance_30 (by decide) ?_
      exact g_iret dX12_chance_32 hw
  · have hw := hw.2 hc
    refine g_bipush (v := (-2)) dX12_chance_15 (by decide) ?_
    exact g_iret dX12_chance_17 hw
theorem dX12_mean_0 : decode cX12_mean 0 = .ok (.aload_n 0, 1) := by decide +kernel
theorem dX12_mean_1 : decode cX12_mean 1 = .ok (.iconst 0, 1) := by decide +kernel
theorem dX12_mean_2 : decode cX12_mean 2 = .ok (.putfield 1, 3) := by decide +kernel
theorem dX12_mean_5 : decode cX12_mean 5 = .ok (.iload_n 2, 1) := by decide +kernel
theorem dX12_mean_6 : decode cX12_mean 6 = .ok (.i2l, 1) := by decide +kernel
theorem dX12_mean_7 : decode cX12_mean 7 = .ok (.lconst 0, 1) := by decide +kernel
theorem dX12_mean_8 : decode cX12_mean 8 = .ok (.lconst 1, 1) := by decide +kernel
theorem dX12_mean_9 : decode cX12_mean 9 = .ok (.invokestatic 169, 3) := by decide +kernel
theorem dX12_mean_12 : decode cX12_mean 12 = .ok (.ifCond .ne 7, 3) := by decide +kernel
theorem dX12_mean_15 : decode cX12_mean 15 = .ok (.ldc2_w 278, 3) := by decide +kernel
theorem dX12_mean_18 : decode cX12_mean 18 = .ok (.lreturn, 1) := by decide +kernel
theorem dX12_mean_19 : decode cX12_mean 19 = .ok (.iload_n 1, 1) := by decide +kernel
theorem dX12_mean_20 : decode cX12_mean 20 = .ok (.i2l, 1) := by decide +kernel
theorem dX12_mean_21 : decode cX12_mean 21 = .ok (.lconst 0, 1) := by decide +kernel
theorem dX12_mean_22 : decode cX12_mean 22 = .ok (.ldc2_w 476, 3) := by decide +kernel
theorem dX12_mean_25 : decode cX12_mean 25 = .ok (.invokestatic 169, 3) := by decide +kernel
theorem dX12_mean_28 : decode cX12_mean 28 = .ok (.ifCond .ne 7, 3) := by decide +kernel
theorem dX12_mean_31 : decode cX12_mean 31 = .ok (.ldc2_w 302, 3) := by decide +kernel
theorem dX12_mean_34 : decode cX12_mean 34 = .ok (.lreturn, 1) := by decide +kernel
theorem dX12_mean_35 : decode cX12_mean 35 = .ok (.aload_n 0, 1) := by decide +kernel
theorem dX12_mean_36 : decode cX12_mean 36 = .ok (.iload_n 1, 1) := by decide +kernel
theorem dX12_mean_37 : decode cX12_mean 37 = .ok (.invokevirtual 478, 3) := by decide +kernel
theorem dX12_mean_40 : decode cX12_mean 40 = .ok (.aload_n 0, 1) := by decide +kernel
theorem dX12_mean_41 : decode cX12_mean 41 = .ok (.getfield 469, 3) := by decide +kernel
theorem dX12_mean_44 : decode cX12_mean 44 = .ok (.iload_n 1, 1) := by decide +kernel
theorem dX12_mean_45 : decode cX12_mean 45 = .ok (.invokestatic 481, 3) := by decide +kernel
theorem dX12_mean_48 : decode cX12_mean 48 = .ok (.iload_n 2, 1) := by decide +kernel
theorem dX12_mean_49 : decode cX12_mean 49 = .ok (.invokestatic 375, 3) := by decide +kernel
theorem dX12_mean_52 : decode cX12_mean 52 = .ok (.lreturn, 1) := by decide +kernel
def M_mean (x1 : Int32) (x2 : Int32) (h : Hp) (Q : Int64 → Hp → Prop) : Prop := ∀ h1 : Hp, h1 = sI h 98 0 0 → M_within ((x2).toInt64) (0 : Int64) (1 : Int64) h1 (fun r2 h3 => (¬ r2 = 0 → M_within ((x1).toInt64) (0 : Int64) (5 : Int64) h3 (fun r4 h5 => (¬ r4 = 0 → M_laysLots x1 h5 (fun h6 => M_wholeOf x1 h6 (fun r7 h8 => M_part (gJ h6 98 42) r7 x2 h8 (fun r9 h10 => Q r9 h10)))) ∧ (r4 = 0 → Q (-9000000000000000003 : Int64) h5))) ∧ (r2 = 0 → Q (-9000000000000000002 : Int64) h3))
set_option maxHeartbeats 4000000 in
set_option maxRecDepth 20000 in
theorem c_M_mean {G : Gx}  {x1 : Int32} {x2 : Int32} {h : Hp} {Q : Int64 → Hp → Prop} (hw : M_mean x1 x2 h Q) : Ct yX12_mean cX12_mean 3 (some .long) 103 G [.ref (gAd G 98), .int x1, .int x2] h (QJ G Q) := by
  refine ct_go [(0, .ref (gAd G 98)), (1, .int x1), (2, .int x2)] (plainFor_of_name (by decide)) rfl (Nat.le_of_ble_eq_true rfl) rfl ?_
  refine g_aload_n dX12_mean_0 rfl rfl ?_
  refine g_iconst (v := 0) dX12_mean_1 (by decide) ?_
  refine g_putI dX12_mean_2 fl_X12_1 sh98 rfl rfl pf_12_0 ?_
  refine g_heap (fun h1 eh1 => ?_)
  have hw := hw h1 eh1
  refine g_iload_n dX12_mean_5 rfl rfl ?_
  refine g_i2l dX12_mean_6 ?_
  refine g_lconst (v := (0 : Int64)) dX12_mean_7 (by decide) ?_
  refine g_lconst (v := (1 : Int64)) dX12_mean_8 (by decide) ?_
  refine g_callSI [.long ((x2).toInt64), .long (0 : Int64), .long (1 : Int64)] dX12_mean_9 ml_X12_169 mk_X12_within rfl (Nat.le_of_ble_eq_true rfl) (Nat.le_of_ble_eq_true rfl) rfl (c_M_within hw) (fun r2 h3 hw => ?_)
  refine g_if_ne 19 dX12_mean_12 rfl (fun hc => ?_) (fun hc => ?_)
  · have hw := hw.1 hc
    refine g_iload_n dX12_mean_19 rfl rfl ?_
    refine g_i2l dX12_mean_20 ?_
    refine g_lconst (v := (0 : Int64)) dX12_mean_21 (by decide) ?_
    refine g_ldc2 dX12_mean_22 kl_X12_476 ?_
    refine g_callSI [.long ((x1).toInt64), .long (0 : Int64), .long (5 : Int64)] dX12_mean_25 ml_X12_169 mk_X12_within rfl (Nat.le_of_ble_eq_true rfl) (Nat.le_of_ble_eq_true rfl) rfl (c_M_within hw) (fun r4 h5 hw => ?_)
    refine g_if_ne 35 dX12_mean_28 rfl (fun hc => ?_) (fun hc => ?_)
    · have hw := hw.1 hc
      refine g_aload_n dX12_mean_35 rfl rfl ?_
      refine g_iload_n dX12_mean_36 rfl rfl ?_
      refine g_callVV [.int x1] (ci := 12) dX12_mean_37 ml_X12_478 mk_X12_laysLots rfl rfl sh98 (Nat.le_of_ble_eq_true rfl) (Nat.le_of_ble_eq_true rfl) rfl (c_M_laysLots hw) (fun h6 hw => ?_)
      refine g_aload_n dX12_mean_40 rfl rfl ?_
      refine g_getJ dX12_mean_41 fl_X12_469 sh98 rfl ?_
      refine g_iload_n dX12_mean_44 rfl rfl ?_
      refine g_callSJ [.int x1] dX12_mean_45 ml_X12_481 mk_X12_wholeOf rfl (Nat.le_of_ble_eq_true rfl) (Nat.le_of_ble_eq_true rfl) rfl (c_M_wholeOf hw) (fun r7 h8 hw => ?_)
      refine g_iload_n dX12_mean_48 rfl rfl ?_
      refine g_callSJ [.long (gJ h6 98 42), .long r7, .int x2] dX12_mean_49 ml_X12_375 mk_X12_part rfl (Nat.le_of_ble_eq_true rfl) (Nat.le_of_ble_eq_true rfl) rfl (c_M_part hw) (fun r9 h10 hw => ?_)
      exact g_lret dX12_mean_52 hw
    · have hw := hw.2 hc
      refine g_ldc2 dX12_mean_31 kl_X12_302 ?_
      exact g_lret dX12_mean_34 hw
  · have hw := hw.2 hc
    refine g_ldc2 dX12_mean_15 kl_X12_278 ?_
    exact g_lret dX12_mean_18 hw
theorem dX12_numbers_0 : decode cX12_numbers 0 = .ok (.aload_n 0, 1) := by decide +kernel
theorem dX12_numbers_1 : decode cX12_numbers 1 = .ok (.iconst 0, 1) := by decide +kernel
theorem dX12_numbers_2 : decode cX12_numbers 2 = .ok (.putfield 1, 3) := by decide +kernel
theorem dX12_numbers_5 : decode cX12_numbers 5 = .ok (.iload_n 1, 1) := by decide +kernel
theorem dX12_numbers_6 : decode cX12_numbers 6 = .ok (.i2l, 1) := by decide +kernel
theorem dX12_numbers_7 : decode cX12_numbers 7 = .ok (.lconst 0, 1) := by decide +kernel
theorem dX12_numbers_8 : decode cX12_numbers 8 = .ok (.ldc2_w 336, 3) := by decide +kernel
theorem dX12_numbers_11 : decode cX12_numbers 11 = .ok (.invokestatic 169, 3) := by decide +kernel
theorem dX12_numbers_14 : decode cX12_numbers 14 = .ok (.ifCond .eq 15, 3) := by decide +kernel
theorem dX12_numbers_17 : decode cX12_numbers 17 = .ok (.iload_n 2, 1) := by decide +kernel
theorem dX12_numbers_18 : decode cX12_numbers 18 = .ok (.i2l, 1) := by decide +kernel
theorem dX12_numbers_19 : decode cX12_numbers 19 = .ok (.lconst 0, 1) := by decide +kernel
theorem dX12_numbers_20 : decode cX12_numbers 20 = .ok (.ldc2_w 336, 3) := by decide +kernel
theorem dX12_numbers_23 : decode cX12_numbers 23 = .ok (.invokestatic 169, 3) := by decide +kernel
theorem dX12_numbers_26 : decode cX12_numbers 26 = .ok (.ifCond .ne 6, 3) := by decide +kernel
theorem dX12_numbers_29 : decode cX12_numbers 29 = .ok (.bipush (-2), 2) := by decide +kernel
theorem dX12_numbers_31 : decode cX12_numbers 31 = .ok (.ireturn, 1) := by decide +kernel
theorem dX12_numbers_32 : decode cX12_numbers 32 = .ok (.iload_n 3, 1) := by decide +kernel
theorem dX12_numbers_33 : decode cX12_numbers 33 = .ok (.i2l, 1) := by decide +kernel
theorem dX12_numbers_34 : decode cX12_numbers 34 = .ok (.lconst 0, 1) := by decide +kernel
theorem dX12_numbers_35 : decode cX12_numbers 35 = .ok (.ldc2_w 355, 3) := by decide +kernel
theorem dX12_numbers_38 : decode cX12_numbers 38 = .ok (.invokestatic 169, 3) := by decide +kernel
theorem dX12_numbers_41 : decode cX12_numbers 41 = .ok (.ifCond .ne 6, 3) := by decide +kernel
theorem dX12_numbers_44 : decode cX12_numbers 44 = .ok (.bipush (-3), 2) := by decide +kernel
theorem dX12_numbers_46 : decode cX12_numbers 46 = .ok (.ireturn, 1) := by decide +kernel
theorem dX12_numbers_47 : decode cX12_numbers 47 = .ok (.aload_n 0, 1) := by decide +kernel
theorem dX12_numbers_48 : decode cX12_numbers 48 = .ok (.getfield 94, 3) := by decide +kernel
theorem dX12_numbers_51 : decode cX12_numbers 51 = .ok (.iload_n 1, 1) := by decide +kernel
theorem dX12_numbers_52 : decode cX12_numbers 52 = .ok (.iload_n 2, 1) := by decide +kernel
theorem dX12_numbers_53 : decode cX12_numbers 53 = .ok (.iastore, 1) := by decide +kernel
theorem dX12_numbers_54 : decode cX12_numbers 54 = .ok (.aload_n 0, 1) := by decide +kernel
theorem dX12_numbers_55 : decode cX12_numbers 55 = .ok (.getfield 97, 3) := by decide +kernel
theorem dX12_numbers_58 : decode cX12_numbers 58 = .ok (.iload_n 1, 1) := by decide +kernel
theorem dX12_numbers_59 : decode cX12_numbers 59 = .ok (.iload_n 3, 1) := by decide +kernel
theorem dX12_numbers_60 : decode cX12_numbers 60 = .ok (.iastore, 1) := by decide +kernel
theorem dX12_numbers_61 : decode cX12_numbers 61 = .ok (.iconst 0, 1) := by decide +kernel
theorem dX12_numbers_62 : decode cX12_numbers 62 = .ok (.istore 4, 2) := by decide +kernel
theorem dX12_numbers_64 : decode cX12_numbers 64 = .ok (.iload 4, 2) := by decide +kernel
theorem dX12_numbers_66 : decode cX12_numbers 66 = .ok (.iload_n 3, 1) := by decide +kernel
theorem dX12_numbers_67 : decode cX12_numbers 67 = .ok (.if_icmp .ge 22, 3) := by decide +kernel
theorem dX12_numbers_70 : decode cX12_numbers 70 = .ok (.aload_n 0, 1) := by decide +kernel
theorem dX12_numbers_71 : decode cX12_numbers 71 = .ok (.getfield 100, 3) := by decide +kernel
theorem dX12_numbers_74 : decode cX12_numbers 74 = .ok (.bipush 40, 2) := by decide +kernel
theorem dX12_numbers_76 : decode cX12_numbers 76 = .ok (.iload_n 1, 1) := by decide +kernel
theorem dX12_numbers_77 : decode cX12_numbers 77 = .ok (.imul, 1) := by decide +kernel
theorem dX12_numbers_78 : decode cX12_numbers 78 = .ok (.iload 4, 2) := by decide +kernel
theorem dX12_numbers_80 : decode cX12_numbers 80 = .ok (.iadd, 1) := by decide +kernel
theorem dX12_numbers_81 : decode cX12_numbers 81 = .ok (.lconst 0, 1) := by decide +kernel
theorem dX12_numbers_82 : decode cX12_numbers 82 = .ok (.lastore, 1) := by decide +kernel
theorem dX12_numbers_83 : decode cX12_numbers 83 = .ok (.iinc 4 1, 3) := by decide +kernel
theorem dX12_numbers_86 : decode cX12_numbers 86 = .ok (.goto (-22), 3) := by decide +kernel
theorem dX12_numbers_89 : decode cX12_numbers 89 = .ok (.iconst 0, 1) := by decide +kernel
theorem dX12_numbers_90 : decode cX12_numbers 90 = .ok (.ireturn, 1) := by decide +kernel
def M_numbers_L64 (x1 : Int32) (x3 : Int32) (Q : Int32 → Hp → Prop) : Nat → Int32 → Hp → Prop
  | 0, _, _ => False
  | n + 1, x4, h => (x3 ≤ x4 → Q 0 h) ∧ (¬ x3 ≤ x4 → vp_in (((40 : Int32) * x1) + x4) 160 ∧ ∀ h10 : Hp, h10 = sJ h 126 ((((40 : Int32) * x1) + x4)).toNatClampNeg (0 : Int64) → ∀ v11 : Int32, v11 = (x4 + 1) → M_numbers_L64 x1 x3 Q n v11 h10)
set_option maxHeartbeats 4000000 in
set_option maxRecDepth 20000 in
theorem gl_M_numbers_L64 {G : Gx}  {x1 : Int32} {x3 : Int32} {Q : Int32 → Hp → Prop} : ∀ (n : Nat) (x4 : Int32) (h : Hp), M_numbers_L64 x1 x3 Q n x4 h → Go cX12_numbers 5 RX12 (some .int) 2 G (QI G Q) 64 [(0, .ref (gAd G 98)), (1, .int x1), (3, .int x3), (4, .int x4)] [] h := by
  intro n
  induction n with
  | zero => intro _ h hw; exact False.elim hw
  | succ n ih =>
    intro x4 h hw
    refine g_iload dX12_numbers_64 rfl ?_
    refine g_iload_n dX12_numbers_66 rfl rfl ?_
    refine g_icmp_ge 89 dX12_numbers_67 rfl (fun hc => ?_) (fun hc => ?_)
    · have hw := hw.1 hc
      refine g_iconst (v := 0) dX12_numbers_89 (by decide) ?_
      exact g_iret dX12_numbers_90 hw
    · have hw := hw.2 hc
      refine g_aload_n dX12_numbers_70 rfl rfl ?_
      refine g_getA dX12_numbers_71 fl_X12_100 sh98 rfl ?_
      refine g_bipush (v := 40) dX12_numbers_74 (by decide) ?_
      refine g_iload_n dX12_numbers_76 rfl rfl ?_
      refine g_imul dX12_numbers_77 ?_
      refine g_iload dX12_numbers_78 rfl ?_
      refine g_iadd dX12_numbers_80 ?_
      refine g_lconst (v := (0 : Int64)) dX12_numbers_81 (by decide) ?_
      refine g_last dX12_numbers_82 ia126 al126 hw.1 ?_
      have hw := hw.2
      refine g_heap (fun h10 eh10 => ?_)
      have hw := hw h10 eh10
      obtain ⟨v11, ev11⟩ : ∃ y : Int32, y = (x4 + 1) := ⟨_, rfl⟩
      have hw := hw v11 ev11
      refine g_iinc dX12_numbers_83 rfl (by rw [ev11]; rfl) (by decide) (lv1 := [(0, .ref (gAd G 98)), (1, .int x1), (3, .int x3), (4, .int v11)]) rfl ?_
      refine g_goto 64 dX12_numbers_86 rfl ?_
      exact ih _ _ hw
def M_numbers (x1 : Int32) (x2 : Int32) (x3 : Int32) (h : Hp) (Q : Int32 → Hp → Prop) : Prop := ∀ h1 : Hp, h1 = sI h 98 0 0 → M_within ((x1).toInt64) (0 : Int64) (3 : Int64) h1 (fun r2 h3 => (r2 = 0 → Q (-2) h3) ∧ (¬ r2 = 0 → M_within ((x2).toInt64) (0 : Int64) (3 : Int64) h3 (fun r4 h5 => (¬ r4 = 0 → M_within ((x3).toInt64) (0 : Int64) (40 : Int64) h5 (fun r6 h7 => (¬ r6 = 0 → vp_in x1 4 ∧ ∀ h8 : Hp, h8 = sI h7 124 (x1).toNatClampNeg x2 → vp_in x1 4 ∧ ∀ h9 : Hp, h9 = sI h8 125 (x1).toNatClampNeg x3 → ∃ n12, M_numbers_L64 x1 x3 Q n12 0 h9) ∧ (r6 = 0 → Q (-3) h7))) ∧ (r4 = 0 → Q (-2) h5))))
set_option maxHeartbeats 4000000 in
set_option maxRecDepth 20000 in
theorem c_M_numbers {G : Gx}  {x1 : Int32} {x2 : Int32} {x3 : Int32} {h : Hp} {Q : Int32 → Hp → Prop} (hw : M_numbers x1 x2 x3 h Q) : Ct yX12_numbers cX12_numbers 5 (some .int) 2 G [.ref (gAd G 98), .int x1, .int x2, .int x3] h (QI G Q) := by
  refine ct_go [(0, .ref (gAd G 98)), (1, .int x1), (2, .int x2), (3, .int x3)] (plainFor_of_name (by decide)) rfl (Nat.le_of_ble_eq_true rfl) rfl ?_
  refine g_aload_n dX12_numbers_0 rfl rfl ?_
  refine g_iconst (v := 0) dX12_numbers_1 (by decide) ?_
  refine g_putI dX12_numbers_2 fl_X12_1 sh98 rfl rfl pf_12_0 ?_
  refine g_heap (fun h1 eh1 => ?_)
  have hw := hw h1 eh1
  refine g_iload_n dX12_numbers_5 rfl rfl ?_
  refine g_i2l dX12_numbers_6 ?_
  refine g_lconst (v := (0 : Int64)) dX12_numbers_7 (by decide) ?_
  refine g_ldc2 dX12_numbers_8 kl_X12_336 ?_
  refine g_callSI [.long ((x1).toInt64), .long (0 : Int64), .long (3 : Int64)] dX12_numbers_11 ml_X12_169 mk_X12_within rfl (Nat.le_of_ble_eq_true rfl) (Nat.le_of_ble_eq_true rfl) rfl (c_M_within hw) (fun r2 h3 hw => ?_)
  refine g_if_eq 29 dX12_numbers_14 rfl (fun hc => ?_) (fun hc => ?_)
  · have hw := hw.1 hc
    refine g_bipush (v := (-2)) dX12_numbers_29 (by decide) ?_
    exact g_iret dX12_numbers_31 hw
  · have hw := hw.2 hc
    refine g_iload_n dX12_numbers_17 rfl rfl ?_
    refine g_i2l dX12_numbers_18 ?_
    refine g_lconst (v := (0 : Int64)) dX12_numbers_19 (by decide) ?_
    refine g_ldc2 dX12_numbers_20 kl_X12_336 ?_
    refine g_callSI [.long ((x2).toInt64), .long (0 : Int64), .long (3 : Int64)] dX12_numbers_23 ml_X12_169 mk_X12_within rfl (Nat.le_of_ble_eq_true rfl) (Nat.le_of_ble_eq_true rfl) rfl (c_M_within hw) (fun r4 h5 hw => ?_)
    refine g_if_ne 32 dX12_numbers_26 rfl (fun hc => ?_) (fun hc => ?_)
    · have hw := hw.1 hc
      refine g_iload_n dX12_numbers_32 rfl rfl ?_
      refine g_i2l dX12_numbers_33 ?_
      refine g_lconst (v := (0 : Int64)) dX12_numbers_34 (by decide) ?_
      refine g_ldc2 dX12_numbers_35 kl_X12_355 ?_
      refine g_callSI [.long ((x3).toInt64), .long (0 : Int64), .long (40 : Int64)] dX12_numbers_38 ml_X12_169 mk_X12_within rfl (Nat.le_of_ble_eq_true rfl) (Nat.le_of_ble_eq_true rfl) rfl (c_M_within hw) (fun r6 h7 hw => ?_)
      refine g_if_ne 47 dX12_numbers_41 rfl (fun hc => ?_) (fun hc => ?_)
      · have hw := hw.1 hc
        refine g_aload_n dX12_numbers_47 rfl rfl ?_
        refine g_getA dX12_numbers_48 fl_X12_94 sh98 rfl ?_
        refine g_iload_n dX12_numbers_51 rfl rfl ?_
        refine g_iload_n dX12_numbers_52 rfl rfl ?_
        refine g_iast dX12_numbers_53 ia124 al124 hw.1 ?_
        have hw := hw.2
        refine g_heap (fun h8 eh8 => ?_)
        have hw := hw h8 eh8
        refine g_aload_n dX12_numbers_54 rfl rfl ?_
        refine g_getA dX12_numbers_55 fl_X12_97 sh98 rfl ?_
        refine g_iload_n dX12_numbers_58 rfl rfl ?_
        refine g_iload_n dX12_numbers_59 rfl rfl ?_
        refine g_iast dX12_numbers_60 ia125 al125 hw.1 ?_
        have hw := hw.2
        refine g_heap (fun h9 eh9 => ?_)
        have hw := hw h9 eh9
        refine g_iconst (v := 0) dX12_numbers_61 (by decide) ?_
        refine g_istore dX12_numbers_62 (by decide) (lv1 := [(0, .ref (gAd G 98)), (1, .int x1), (2, .int x2), (3, .int x3), (4, .int 0)]) rfl ?_
        obtain ⟨n12, hw⟩ := hw
        refine g_lv [0, 1, 3, 4] rfl ?_
        refine gl_M_numbers_L64   _ _ _ hw
      · have hw := hw.2 hc
        refine g_bipush (v := (-3)) dX12_numbers_44 (by decide) ?_
        exact g_iret dX12_numbers_46 hw
    · have hw := hw.2 hc
      refine g_bipush (v := (-2)) dX12_numbers_29 (by decide) ?_
      exact g_iret dX12_numbers_31 hw
theorem dX12_cut_0 : decode cX12_cut 0 = .ok (.iload_n 2, 1) := by decide +kernel
theorem dX12_cut_1 : decode cX12_cut 1 = .ok (.ifCond .ne 10, 3) := by decide +kernel
theorem dX12_cut_4 : decode cX12_cut 4 = .ok (.lload_n 0, 1) := by decide +kernel
theorem dX12_cut_5 : decode cX12_cut 5 = .ok (.l2i, 1) := by decide +kernel
theorem dX12_cut_6 : decode cX12_cut 6 = .ok (.i2b, 1) := by decide +kernel
theorem dX12_cut_7 : decode cX12_cut 7 = .ok (.i2l, 1) := by decide +kernel
theorem dX12_cut_8 : decode cX12_cut 8 = .ok (.goto 27, 3) := by decide +kernel
theorem dX12_cut_11 : decode cX12_cut 11 = .ok (.iload_n 2, 1) := by decide +kernel
theorem dX12_cut_12 : decode cX12_cut 12 = .ok (.iconst 1, 1) := by decide +kernel
theorem dX12_cut_13 : decode cX12_cut 13 = .ok (.if_icmp .ne 10, 3) := by decide +kernel
theorem dX12_cut_16 : decode cX12_cut 16 = .ok (.lload_n 0, 1) := by decide +kernel
theorem dX12_cut_17 : decode cX12_cut 17 = .ok (.l2i, 1) := by decide +kernel
theorem dX12_cut_18 : decode cX12_cut 18 = .ok (.i2s, 1) := by decide +kernel
theorem dX12_cut_19 : decode cX12_cut 19 = .ok (.i2l, 1) := by decide +kernel
theorem dX12_cut_20 : decode cX12_cut 20 = .ok (.goto 15, 3) := by decide +kernel
theorem dX12_cut_23 : decode cX12_cut 23 = .ok (.iload_n 2, 1) := by decide +kernel
theorem dX12_cut_24 : decode cX12_cut 24 = .ok (.iconst 2, 1) := by decide +kernel
theorem dX12_cut_25 : decode cX12_cut 25 = .ok (.if_icmp .ne 9, 3) := by decide +kernel
theorem dX12_cut_28 : decode cX12_cut 28 = .ok (.lload_n 0, 1) := by decide +kernel
theorem dX12_cut_29 : decode cX12_cut 29 = .ok (.l2i, 1) := by decide +kernel
theorem dX12_cut_30 : decode cX12_cut 30 = .ok (.i2l, 1) := by decide +kernel
theorem dX12_cut_31 : decode cX12_cut 31 = .ok (.goto 4, 3) := by decide +kernel
theorem dX12_cut_34 : decode cX12_cut 34 = .ok (.lload_n 0, 1) := by decide +kernel
theorem dX12_cut_35 : decode cX12_cut 35 = .ok (.lreturn, 1) := by decide +kernel
def M_cut (x0 : Int64) (x2 : Int32) (h : Hp) (Q : Int64 → Hp → Prop) : Prop := (¬ x2 = 0 → (¬ x2 = 1 → (¬ x2 = 2 → Q x0 h) ∧ (x2 = 2 → Q ((((x0).toInt32)).toInt64) h)) ∧ (x2 = 1 → Q ((((((x0).toInt32)).toInt16.toInt32)).toInt64) h)) ∧ (x2 = 0 → Q ((((((x0).toInt32)).toInt8.toInt32)).toInt64) h)
set_option maxHeartbeats 4000000 in
set_option maxRecDepth 20000 in
theorem c_M_cut {G : Gx}  {x0 : Int64} {x2 : Int32} {h : Hp} {Q : Int64 → Hp → Prop} (hw : M_cut x0 x2 h Q) : Ct yX12_cut cX12_cut 3 (some .long) 1 G [.long x0, .int x2] h (QJ G Q) := by
  refine ct_go [(0, .long x0), (2, .int x2)] (plainFor_of_name (by decide)) rfl (Nat.le_of_ble_eq_true rfl) rfl ?_
  refine g_iload_n dX12_cut_0 rfl rfl ?_
  refine g_if_ne 11 dX12_cut_1 rfl (fun hc => ?_) (fun hc => ?_)
  · have hw := hw.1 hc
    refine g_iload_n dX12_cut_11 rfl rfl ?_
    refine g_iconst (v := 1) dX12_cut_12 (by decide) ?_
    refine g_icmp_ne 23 dX12_cut_13 rfl (fun hc => ?_) (fun hc => ?_)
    · have hw := hw.1 hc
      refine g_iload_n dX12_cut_23 rfl rfl ?_
      refine g_iconst (v := 2) dX12_cut_24 (by decide) ?_
      refine g_icmp_ne 34 dX12_cut_25 rfl (fun hc => ?_) (fun hc => ?_)
      · have hw := hw.1 hc
        refine g_lload_n dX12_cut_34 rfl rfl ?_
        exact g_lret dX12_cut_35 hw
      · have hw := hw.2 hc
        refine g_lload_n dX12_cut_28 rfl rfl ?_
        refine g_l2i dX12_cut_29 ?_
        refine g_i2l dX12_cut_30 ?_
        refine g_goto 35 dX12_cut_31 rfl ?_
        exact g_lret dX12_cut_35 hw
    · have hw := hw.2 hc
      refine g_lload_n dX12_cut_16 rfl rfl ?_
      refine g_l2i dX12_cut_17 ?_
      refine g_i2s dX12_cut_18 ?_
      refine g_i2l dX12_cut_19 ?_
      refine g_goto 35 dX12_cut_20 rfl ?_
      exact g_lret dX12_cut_35 hw
  · have hw := hw.2 hc
    refine g_lload_n dX12_cut_4 rfl rfl ?_
    refine g_l2i dX12_cut_5 ?_
    refine g_i2b dX12_cut_6 ?_
    refine g_i2l dX12_cut_7 ?_
    refine g_goto 35 dX12_cut_8 rfl ?_
    exact g_lret dX12_cut_35 hw
theorem dX12_write_0 : decode cX12_write 0 = .ok (.aload_n 0, 1) := by decide +kernel
theorem dX12_write_1 : decode cX12_write 1 = .ok (.iconst 0, 1) := by decide +kernel
theorem dX12_write_2 : decode cX12_write 2 = .ok (.putfield 1, 3) := by decide +kernel
theorem dX12_write_5 : decode cX12_write 5 = .ok (.aload_n 0, 1) := by decide +kernel
theorem dX12_write_6 : decode cX12_write 6 = .ok (.iload_n 1, 1) := by decide +kernel
theorem dX12_write_7 : decode cX12_write 7 = .ok (.invokevirtual 338, 3) := by decide +kernel
theorem dX12_write_10 : decode cX12_write 10 = .ok (.istore 5, 2) := by decide +kernel
theorem dX12_write_12 : decode cX12_write 12 = .ok (.iload 5, 2) := by decide +kernel
theorem dX12_write_14 : decode cX12_write 14 = .ok (.ifCond .eq 7, 3) := by decide +kernel
theorem dX12_write_17 : decode cX12_write 17 = .ok (.iload 5, 2) := by decide +kernel
theorem dX12_write_19 : decode cX12_write 19 = .ok (.i2l, 1) := by decide +kernel
theorem dX12_write_20 : decode cX12_write 20 = .ok (.lreturn, 1) := by decide +kernel
theorem dX12_write_21 : decode cX12_write 21 = .ok (.iload_n 2, 1) := by decide +kernel
theorem dX12_write_22 : decode cX12_write 22 = .ok (.i2l, 1) := by decide +kernel
theorem dX12_write_23 : decode cX12_write 23 = .ok (.lconst 0, 1) := by decide +kernel
theorem dX12_write_24 : decode cX12_write 24 = .ok (.aload_n 0, 1) := by decide +kernel
theorem dX12_write_25 : decode cX12_write 25 = .ok (.getfield 97, 3) := by decide +kernel
theorem dX12_write_28 : decode cX12_write 28 = .ok (.iload_n 1, 1) := by decide +kernel
theorem dX12_write_29 : decode cX12_write 29 = .ok (.iaload, 1) := by decide +kernel
theorem dX12_write_30 : decode cX12_write 30 = .ok (.iconst 1, 1) := by decide +kernel
theorem dX12_write_31 : decode cX12_write 31 = .ok (.isub, 1) := by decide +kernel
theorem dX12_write_32 : decode cX12_write 32 = .ok (.i2l, 1) := by decide +kernel
theorem dX12_write_33 : decode cX12_write 33 = .ok (.invokestatic 169, 3) := by decide +kernel
theorem dX12_write_36 : decode cX12_write 36 = .ok (.ifCond .ne 7, 3) := by decide +kernel
theorem dX12_write_39 : decode cX12_write 39 = .ok (.ldc2_w 485, 3) := by decide +kernel
theorem dX12_write_42 : decode cX12_write 42 = .ok (.lreturn, 1) := by decide +kernel
theorem dX12_write_43 : decode cX12_write 43 = .ok (.aload_n 0, 1) := by decide +kernel
theorem dX12_write_44 : decode cX12_write 44 = .ok (.getfield 100, 3) := by decide +kernel
theorem dX12_write_47 : decode cX12_write 47 = .ok (.bipush 40, 2) := by decide +kernel
theorem dX12_write_49 : decode cX12_write 49 = .ok (.iload_n 1, 1) := by decide +kernel
theorem dX12_write_50 : decode cX12_write 50 = .ok (.imul, 1) := by decide +kernel
theorem dX12_write_51 : decode cX12_write 51 = .ok (.iload_n 2, 1) := by decide +kernel
theorem dX12_write_52 : decode cX12_write 52 = .ok (.iadd, 1) := by decide +kernel
theorem dX12_write_53 : decode cX12_write 53 = .ok (.lload_n 3, 1) := by decide +kernel
theorem dX12_write_54 : decode cX12_write 54 = .ok (.aload_n 0, 1) := by decide +kernel
theorem dX12_write_55 : decode cX12_write 55 = .ok (.getfield 94, 3) := by decide +kernel
theorem dX12_write_58 : decode cX12_write 58 = .ok (.iload_n 1, 1) := by decide +kernel
theorem dX12_write_59 : decode cX12_write 59 = .ok (.iaload, 1) := by decide +kernel
theorem dX12_write_60 : decode cX12_write 60 = .ok (.invokestatic 487, 3) := by decide +kernel
theorem dX12_write_63 : decode cX12_write 63 = .ok (.lastore, 1) := by decide +kernel
theorem dX12_write_64 : decode cX12_write 64 = .ok (.aload_n 0, 1) := by decide +kernel
theorem dX12_write_65 : decode cX12_write 65 = .ok (.getfield 100, 3) := by decide +kernel
theorem dX12_write_68 : decode cX12_write 68 = .ok (.bipush 40, 2) := by decide +kernel
theorem dX12_write_70 : decode cX12_write 70 = .ok (.iload_n 1, 1) := by decide +kernel
theorem dX12_write_71 : decode cX12_write 71 = .ok (.imul, 1) := by decide +kernel
theorem dX12_write_72 : decode cX12_write 72 = .ok (.iload_n 2, 1) := by decide +kernel
theorem dX12_write_73 : decode cX12_write 73 = .ok (.iadd, 1) := by decide +kernel
theorem dX12_write_74 : decode cX12_write 74 = .ok (.laload, 1) := by decide +kernel
theorem dX12_write_75 : decode cX12_write 75 = .ok (.lreturn, 1) := by decide +kernel
theorem ml_X12_487 : Cond.methodLink RX12 487 yX12_cut ∈ Wd := mW 2021 (by decide +kernel) rfl
theorem mk_X12_cut : MokS yX12_cut cX12_cut 3 (some .long) 2 := ⟨⟨mW 14 (by decide +kernel) rfl, mW 2023 (by decide +kernel) rfl, ⟨by decide, by decide, by decide +kernel⟩, by decide⟩, mW 2022 (by decide +kernel) rfl⟩
theorem kl_X12_485 : Cond.constantLong RX12 485 (-7) ∈ Wd := mW 2020 (by decide +kernel) rfl
def M_write (x1 : Int32) (x2 : Int32) (x3 : Int64) (h : Hp) (Q : Int64 → Hp → Prop) : Prop := ∀ h1 : Hp, h1 = sI h 98 0 0 → M_noTray x1 h1 (fun r2 h3 => (r2 = 0 → vp_in x1 4 ∧ M_within ((x2).toInt64) (0 : Int64) ((((gI h3 125 (x1).toNatClampNeg) - 1)).toInt64) h3 (fun r4 h5 => (¬ r4 = 0 → vp_in x1 4 ∧ M_cut x3 (gI h5 124 (x1).toNatClampNeg) h5 (fun r6 h7 => vp_in (((40 : Int32) * x1) + x2) 160 ∧ ∀ h8 : Hp, h8 = sJ h7 126 ((((40 : Int32) * x1) + x2)).toNatClampNeg r6 → vp_in (((40 : Int32) * x1) + x2) 160 ∧ Q (gJ h8 126 ((((40 : Int32) * x1) + x2)).toNatClampNeg) h8)) ∧ (r4 = 0 → Q (-7 : Int64) h5))) ∧ (¬ r2 = 0 → Q ((r2).toInt64) h3))
set_option maxHeartbeats 4000000 in
set_option maxRecDepth 20000 in
theorem c_M_write {G : Gx}  {x1 : Int32} {x2 : Int32} {x3 : Int64} {h : Hp} {Q : Int64 → Hp → Prop} (hw : M_write x1 x2 x3 h Q) : Ct yX12_write cX12_write 6 (some .long) 3 G [.ref (gAd G 98), .int x1, .int x2, .long x3] h (QJ G Q) := by
  refine ct_go [(0, .ref (gAd G 98)), (1, .int x1), (2, .int x2), (3, .long x3)] (plainFor_of_name (by decide)) rfl (Nat.le_of_ble_eq_true rfl) rfl ?_
  refine g_aload_n dX12_write_0 rfl rfl ?_
  refine g_iconst (v := 0) dX12_write_1 (by decide) ?_
  refine g_putI dX12_write_2 fl_X12_1 sh98 rfl rfl pf_12_0 ?_
  refine g_heap (fun h1 eh1 => ?_)
  have hw := hw h1 eh1
  refine g_aload_n dX12_write_5 rfl rfl ?_
  refine g_iload_n dX12_write_6 rfl rfl ?_
  refine g_callVI [.int x1] (ci := 12) dX12_write_7 ml_X12_338 mk_X12_noTray rfl rfl sh98 (Nat.le_of_ble_eq_true rfl) (Nat.le_of_ble_eq_true rfl) rfl (c_M_noTray hw) (fun r2 h3 hw => ?_)
  refine g_istore dX12_write_10 (by decide) (lv1 := [(0, .ref (gAd G 98)), (1, .int x1), (2, .int x2), (3, .long x3), (5, .int r2)]) rfl ?_
  refine g_iload dX12_write_12 rfl ?_
  refine g_if_eq 21 dX12_write_14 rfl (fun hc => ?_) (fun hc => ?_)
  · have hw := hw.1 hc
    refine g_iload_n dX12_write_21 rfl rfl ?_
    refine g_i2l dX12_write_22 ?_
    refine g_lconst (v := (0 : Int64)) dX12_write_23 (by decide) ?_
    refine g_aload_n dX12_write_24 rfl rfl ?_
    refine g_getA dX12_write_25 fl_X12_97 sh98 rfl ?_
    refine g_iload_n dX12_write_28 rfl rfl ?_
    refine g_iald dX12_write_29 ia125 al125 hw.1 ?_
    have hw := hw.2
    refine g_iconst (v := 1) dX12_write_30 (by decide) ?_
    refine g_isub dX12_write_31 ?_
    refine g_i2l dX12_write_32 ?_
    refine g_callSI [.long ((x2).toInt64), .long (0 : Int64), .long ((((gI h3 125 (x1).toNatClampNeg) - 1)).toInt64)] dX12_write_33 ml_X12_169 mk_X12_within rfl (Nat.le_of_ble_eq_true rfl) (Nat.le_of_ble_eq_true rfl) rfl (c_M_within hw) (fun r4 h5 hw => ?_)
    refine g_if_ne 43 dX12_write_36 rfl (fun hc => ?_) (fun hc => ?_)
    · have hw := hw.1 hc
      refine g_aload_n dX12_write_43 rfl rfl ?_
      refine g_getA dX12_write_44 fl_X12_100 sh98 rfl ?_
      refine g_bipush (v := 40) dX12_write_47 (by decide) ?_
      refine g_iload_n dX12_write_49 rfl rfl ?_
      refine g_imul dX12_write_50 ?_
      refine g_iload_n dX12_write_51 rfl rfl ?_
      refine g_iadd dX12_write_52 ?_
      refine g_lload_n dX12_write_53 rfl rfl ?_
      refine g_aload_n dX12_write_54 rfl rfl ?_
      refine g_getA dX12_write_55 fl_X12_94 sh98 rfl ?_
      refine g_iload_n dX12_write_58 rfl rfl ?_
      refine g_iald dX12_write_59 ia124 al124 hw.1 ?_
      have hw := hw.2
      refine g_callSJ [.long x3, .int (gI h5 124 (x1).toNatClampNeg)] dX12_write_60 ml_X12_487 mk_X12_cut rfl (Nat.le_of_ble_eq_true rfl) (Nat.le_of_ble_eq_true rfl) rfl (c_M_cut hw) (fun r6 h7 hw => ?_)
      refine g_last dX12_write_63 ia126 al126 hw.1 ?_
      have hw := hw.2
      refine g_heap (fun h8 eh8 => ?_)
      have hw := hw h8 eh8
      refine g_aload_n dX12_write_64 rfl rfl ?_
      refine g_getA dX12_write_65 fl_X12_100 sh98 rfl ?_
      refine g_bipush (v := 40) dX12_write_68 (by decide) ?_
      refine g_iload_n dX12_write_70 rfl rfl ?_
      refine g_imul dX12_write_71 ?_
      refine g_iload_n dX12_write_72 rfl rfl ?_
      refine g_iadd dX12_write_73 ?_
      refine g_lald dX12_write_74 ia126 al126 hw.1 ?_
      have hw := hw.2
      exact g_lret dX12_write_75 hw
    · have hw := hw.2 hc
      refine g_ldc2 dX12_write_39 kl_X12_485 ?_
      exact g_lret dX12_write_42 hw
  · have hw := hw.2 hc
    refine g_iload dX12_write_17 rfl ?_
    refine g_i2l dX12_write_19 ?_
    exact g_lret dX12_write_20 hw
theorem dX12_lists_0 : decode cX12_lists 0 = .ok (.aload_n 0, 1) := by decide +kernel
theorem dX12_lists_1 : decode cX12_lists 1 = .ok (.iconst 0, 1) := by decide +kernel
theorem dX12_lists_2 : decode cX12_lists 2 = .ok (.putfield 1, 3) := by decide +kernel
theorem dX12_lists_5 : decode cX12_lists 5 = .ok (.aload_n 0, 1) := by decide +kernel
theorem dX12_lists_6 : decode cX12_lists 6 = .ok (.iload_n 1, 1) := by decide +kernel
theorem dX12_lists_7 : decode cX12_lists 7 = .ok (.invokevirtual 338, 3) := by decide +kernel
theorem dX12_lists_10 : decode cX12_lists 10 = .ok (.istore_n 2, 1) := by decide +kernel
theorem dX12_lists_11 : decode cX12_lists 11 = .ok (.iload_n 2, 1) := by decide +kernel
theorem dX12_lists_12 : decode cX12_lists 12 = .ok (.ifCond .eq 5, 3) := by decide +kernel
theorem dX12_lists_15 : decode cX12_lists 15 = .ok (.iload_n 2, 1) := by decide +kernel
theorem dX12_lists_16 : decode cX12_lists 16 = .ok (.ireturn, 1) := by decide +kernel
theorem dX12_lists_17 : decode cX12_lists 17 = .ok (.aload_n 0, 1) := by decide +kernel
theorem dX12_lists_18 : decode cX12_lists 18 = .ok (.invokevirtual 430, 3) := by decide +kernel
theorem dX12_lists_21 : decode cX12_lists 21 = .ok (.iconst 0, 1) := by decide +kernel
theorem dX12_lists_22 : decode cX12_lists 22 = .ok (.istore_n 3, 1) := by decide +kernel
theorem dX12_lists_23 : decode cX12_lists 23 = .ok (.iload_n 3, 1) := by decide +kernel
theorem dX12_lists_24 : decode cX12_lists 24 = .ok (.aload_n 0, 1) := by decide +kernel
theorem dX12_lists_25 : decode cX12_lists 25 = .ok (.getfield 97, 3) := by decide +kernel
theorem dX12_lists_28 : decode cX12_lists 28 = .ok (.iload_n 1, 1) := by decide +kernel
theorem dX12_lists_29 : decode cX12_lists 29 = .ok (.iaload, 1) := by decide +kernel
theorem dX12_lists_30 : decode cX12_lists 30 = .ok (.if_icmp .ge 34, 3) := by decide +kernel
theorem dX12_lists_33 : decode cX12_lists 33 = .ok (.aload_n 0, 1) := by decide +kernel
theorem dX12_lists_34 : decode cX12_lists 34 = .ok (.getfield 100, 3) := by decide +kernel
theorem dX12_lists_37 : decode cX12_lists 37 = .ok (.bipush 40, 2) := by decide +kernel
theorem dX12_lists_39 : decode cX12_lists 39 = .ok (.iload_n 1, 1) := by decide +kernel
theorem dX12_lists_40 : decode cX12_lists 40 = .ok (.imul, 1) := by decide +kernel
theorem dX12_lists_41 : decode cX12_lists 41 = .ok (.iload_n 3, 1) := by decide +kernel
theorem dX12_lists_42 : decode cX12_lists 42 = .ok (.iadd, 1) := by decide +kernel
theorem dX12_lists_43 : decode cX12_lists 43 = .ok (.aload_n 0, 1) := by decide +kernel
theorem dX12_lists_44 : decode cX12_lists 44 = .ok (.aload_n 0, 1) := by decide +kernel
theorem dX12_lists_45 : decode cX12_lists 45 = .ok (.iload_n 3, 1) := by decide +kernel
theorem dX12_lists_46 : decode cX12_lists 46 = .ok (.i2l, 1) := by decide +kernel
theorem dX12_lists_47 : decode cX12_lists 47 = .ok (.invokevirtual 433, 3) := by decide +kernel
theorem dX12_lists_50 : decode cX12_lists 50 = .ok (.invokevirtual 269, 3) := by decide +kernel
theorem dX12_lists_53 : decode cX12_lists 53 = .ok (.invokestatic 272, 3) := by decide +kernel
theorem dX12_lists_56 : decode cX12_lists 56 = .ok (.i2l, 1) := by decide +kernel
theorem dX12_lists_57 : decode cX12_lists 57 = .ok (.lastore, 1) := by decide +kernel
theorem dX12_lists_58 : decode cX12_lists 58 = .ok (.iinc 3 1, 3) := by decide +kernel
theorem dX12_lists_61 : decode cX12_lists 61 = .ok (.goto (-38), 3) := by decide +kernel
theorem dX12_lists_64 : decode cX12_lists 64 = .ok (.aload_n 0, 1) := by decide +kernel
theorem dX12_lists_65 : decode cX12_lists 65 = .ok (.getfield 97, 3) := by decide +kernel
theorem dX12_lists_68 : decode cX12_lists 68 = .ok (.iload_n 1, 1) := by decide +kernel
theorem dX12_lists_69 : decode cX12_lists 69 = .ok (.iaload, 1) := by decide +kernel
theorem dX12_lists_70 : decode cX12_lists 70 = .ok (.ireturn, 1) := by decide +kernel
def M_lists_L23 (x1 : Int32) (Q : Int32 → Hp → Prop) : Nat → Int32 → Hp → Prop
  | 0, _, _ => False
  | n + 1, x3, h => vp_in x1 4 ∧ ((gI h 125 (x1).toNatClampNeg) ≤ x3 → vp_in x1 4 ∧ Q (gI h 125 (x1).toNatClampNeg) h) ∧ (¬ (gI h 125 (x1).toNatClampNeg) ≤ x3 → M_placeIn ((x3).toInt64) h (fun r5 h6 => M_planned r5 h6 (fun r7 h8 => M_toldWay r7 h8 (fun r9 h10 => vp_in (((40 : Int32) * x1) + x3) 160 ∧ ∀ h11 : Hp, h11 = sJ h10 126 ((((40 : Int32) * x1) + x3)).toNatClampNeg ((r9).toInt64) → ∀ v12 : Int32, v12 = (x3 + 1) → M_lists_L23 x1 Q n v12 h11))))
set_option maxHeartbeats 4000000 in
set_option maxRecDepth 20000 in
theorem gl_M_lists_L23 {G : Gx}  {x1 : Int32} {Q : Int32 → Hp → Prop} : ∀ (n : Nat) (x3 : Int32) (h : Hp), M_lists_L23 x1 Q n x3 h → Go cX12_lists 4 RX12 (some .int) 6 G (QI G Q) 23 [(0, .ref (gAd G 98)), (1, .int x1), (3, .int x3)] [] h := by
  intro n
  induction n with
  | zero => intro _ h hw; exact False.elim hw
  | succ n ih =>
    intro x3 h hw
    refine g_iload_n dX12_lists_23 rfl rfl ?_
    refine g_aload_n dX12_lists_24 rfl rfl ?_
    refine g_getA dX12_lists_25 fl_X12_97 sh98 rfl ?_
    refine g_iload_n dX12_lists_28 rfl rfl ?_
    refine g_iald dX12_lists_29 ia125 al125 hw.1 ?_
    have hw := hw.2
    refine g_icmp_ge 64 dX12_lists_30 rfl (fun hc => ?_) (fun hc => ?_)
    · have hw := hw.1 hc
      refine g_aload_n dX12_lists_64 rfl rfl ?_
      refine g_getA dX12_lists_65 fl_X12_97 sh98 rfl ?_
      refine g_iload_n dX12_lists_68 rfl rfl ?_
      refine g_iald dX12_lists_69 ia125 al125 hw.1 ?_
      have hw := hw.2
      exact g_iret dX12_lists_70 hw
    · have hw := hw.2 hc
      refine g_aload_n dX12_lists_33 rfl rfl ?_
      refine g_getA dX12_lists_34 fl_X12_100 sh98 rfl ?_
      refine g_bipush (v := 40) dX12_lists_37 (by decide) ?_
      refine g_iload_n dX12_lists_39 rfl rfl ?_
      refine g_imul dX12_lists_40 ?_
      refine g_iload_n dX12_lists_41 rfl rfl ?_
      refine g_iadd dX12_lists_42 ?_
      refine g_aload_n dX12_lists_43 rfl rfl ?_
      refine g_aload_n dX12_lists_44 rfl rfl ?_
      refine g_iload_n dX12_lists_45 rfl rfl ?_
      refine g_i2l dX12_lists_46 ?_
      refine g_callVI [.long ((x3).toInt64)] (ci := 12) dX12_lists_47 ml_X12_433 mk_X12_placeIn rfl rfl sh98 (Nat.le_of_ble_eq_true rfl) (Nat.le_of_ble_eq_true rfl) rfl (c_M_placeIn hw) (fun r5 h6 hw => ?_)
      refine g_callVI [.int r5] (ci := 12) dX12_lists_50 ml_X12_269 mk_X12_planned rfl rfl sh98 (Nat.le_of_ble_eq_true rfl) (Nat.le_of_ble_eq_true rfl) rfl (c_M_planned hw) (fun r7 h8 hw => ?_)
      refine g_callSI [.int r7] dX12_lists_53 ml_X12_272 mk_X12_toldWay rfl (Nat.le_of_ble_eq_true rfl) (Nat.le_of_ble_eq_true rfl) rfl (c_M_toldWay hw) (fun r9 h10 hw => ?_)
      refine g_i2l dX12_lists_56 ?_
      refine g_last dX12_lists_57 ia126 al126 hw.1 ?_
      have hw := hw.2
      refine g_heap (fun h11 eh11 => ?_)
      have hw := hw h11 eh11
      obtain ⟨v12, ev12⟩ : ∃ y : Int32, y = (x3 + 1) := ⟨_, rfl⟩
      have hw := hw v12 ev12
      refine g_iinc dX12_lists_58 rfl (by rw [ev12]; rfl) (by decide) (lv1 := [(0, .ref (gAd G 98)), (1, .int x1), (3, .int v12)]) rfl ?_
      refine g_goto 23 dX12_lists_61 rfl ?_
      exact ih _ _ hw
def M_lists (x1 : Int32) (h : Hp) (Q : Int32 → Hp → Prop) : Prop := ∀ h1 : Hp, h1 = sI h 98 0 0 → M_noTray x1 h1 (fun r2 h3 => (r2 = 0 → M_laysGoing  h3 (fun h4 => ∃ n13, M_lists_L23 x1 Q n13 0 h4)) ∧ (¬ r2 = 0 → Q r2 h3))
set_option maxHeartbeats 4000000 in
set_option maxRecDepth 20000 in
theorem c_M_lists {G : Gx}  {x1 : Int32} {h : Hp} {Q : Int32 → Hp → Prop} (hw : M_lists x1 h Q) : Ct yX12_lists cX12_lists 4 (some .int) 6 G [.ref (gAd G 98), .int x1] h (QI G Q) := by
  refine ct_go [(0, .ref (gAd G 98)), (1, .int x1)] (plainFor_of_name (by decide)) rfl (Nat.le_of_ble_eq_true rfl) rfl ?_
  refine g_aload_n dX12_lists_0 rfl rfl ?_
  refine g_iconst (v := 0) dX12_lists_1 (by decide) ?_
  refine g_putI dX12_lists_2 fl_X12_1 sh98 rfl rfl pf_12_0 ?_
  refine g_heap (fun h1 eh1 => ?_)
  have hw := hw h1 eh1
  refine g_aload_n dX12_lists_5 rfl rfl ?_
  refine g_iload_n dX12_lists_6 rfl rfl ?_
  refine g_callVI [.int x1] (ci := 12) dX12_lists_7 ml_X12_338 mk_X12_noTray rfl rfl sh98 (Nat.le_of_ble_eq_true rfl) (Nat.le_of_ble_eq_true rfl) rfl (c_M_noTray hw) (fun r2 h3 hw => ?_)
  refine g_istore_n dX12_lists_10 rfl (by decide) (lv1 := [(0, .ref (gAd G 98)), (1, .int x1), (2, .int r2)]) rfl ?_
  refine g_iload_n dX12_lists_11 rfl rfl ?_
  refine g_if_eq 17 dX12_lists_12 rfl (fun hc => ?_) (fun hc => ?_)
  · have hw := hw.1 hc
    refine g_aload_n dX12_lists_17 rfl rfl ?_
    refine g_callVV [] (ci := 12) dX12_lists_18 ml_X12_430 mk_X12_laysGoing rfl rfl sh98 (Nat.le_of_ble_eq_true rfl) (Nat.le_of_ble_eq_true rfl) rfl (c_M_laysGoing hw) (fun h4 hw => ?_)
    refine g_iconst (v := 0) dX12_lists_21 (by decide) ?_
    refine g_istore_n dX12_lists_22 rfl (by decide) (lv1 := [(0, .ref (gAd G 98)), (1, .int x1), (2, .int r2), (3, .int 0)]) rfl ?_
    obtain ⟨n13, hw⟩ := hw
    refine g_lv [0, 1, 3] rfl ?_
    refine gl_M_lists_L23   _ _ _ hw
  · have hw := hw.2 hc
    refine g_iload_n dX12_lists_15 rfl rfl ?_
    exact g_iret dX12_lists_16 hw
theorem dX12_image_0 : decode cX12_image 0 = .ok (.aload_n 0, 1) := by decide +kernel
theorem dX12_image_1 : decode cX12_image 1 = .ok (.iconst 0, 1) := by decide +kernel
theorem dX12_image_2 : decode cX12_image 2 = .ok (.putfield 1, 3) := by decide +kernel
theorem dX12_image_5 : decode cX12_image 5 = .ok (.iload_n 1, 1) := by decide +kernel
theorem dX12_image_6 : decode cX12_image 6 = .ok (.i2l, 1) := by decide +kernel
theorem dX12_image_7 : decode cX12_image 7 = .ok (.lconst 0, 1) := by decide +kernel
theorem dX12_image_8 : decode cX12_image 8 = .ok (.lconst 1, 1) := by decide +kernel
theorem dX12_image_9 : decode cX12_image 9 = .ok (.invokestatic 169, 3) := by decide +kernel
theorem dX12_image_12 : decode cX12_image 12 = .ok (.ifCond .ne 6, 3) := by decide +kernel
theorem dX12_image_15 : decode cX12_image 15 = .ok (.bipush (-2), 2) := by decide +kernel
theorem dX12_image_17 : decode cX12_image 17 = .ok (.ireturn, 1) := by decide +kernel
theorem dX12_image_18 : decode cX12_image 18 = .ok (.iconst 0, 1) := by decide +kernel
theorem dX12_image_19 : decode cX12_image 19 = .ok (.istore_n 2, 1) := by decide +kernel
theorem dX12_image_20 : decode cX12_image 20 = .ok (.iload_n 2, 1) := by decide +kernel
theorem dX12_image_21 : decode cX12_image 21 = .ok (.sipush 1092, 3) := by decide +kernel
theorem dX12_image_24 : decode cX12_image 24 = .ok (.if_icmp .ge 29, 3) := by decide +kernel
theorem dX12_image_27 : decode cX12_image 27 = .ok (.aload_n 0, 1) := by decide +kernel
theorem dX12_image_28 : decode cX12_image 28 = .ok (.getfield 13, 3) := by decide +kernel
theorem dX12_image_31 : decode cX12_image 31 = .ok (.sipush 1092, 3) := by decide +kernel
theorem dX12_image_34 : decode cX12_image 34 = .ok (.iload_n 1, 1) := by decide +kernel
theorem dX12_image_35 : decode cX12_image 35 = .ok (.iconst 1, 1) := by decide +kernel
theorem dX12_image_36 : decode cX12_image 36 = .ok (.iadd, 1) := by decide +kernel
theorem dX12_image_37 : decode cX12_image 37 = .ok (.imul, 1) := by decide +kernel
theorem dX12_image_38 : decode cX12_image 38 = .ok (.iload_n 2, 1) := by decide +kernel
theorem dX12_image_39 : decode cX12_image 39 = .ok (.iadd, 1) := by decide +kernel
theorem dX12_image_40 : decode cX12_image 40 = .ok (.aload_n 0, 1) := by decide +kernel
theorem dX12_image_41 : decode cX12_image 41 = .ok (.getfield 13, 3) := by decide +kernel
theorem dX12_image_44 : decode cX12_image 44 = .ok (.iload_n 2, 1) := by decide +kernel
theorem dX12_image_45 : decode cX12_image 45 = .ok (.iaload, 1) := by decide +kernel
theorem dX12_image_46 : decode cX12_image 46 = .ok (.iastore, 1) := by decide +kernel
theorem dX12_image_47 : decode cX12_image 47 = .ok (.iinc 2 1, 3) := by decide +kernel
theorem dX12_image_50 : decode cX12_image 50 = .ok (.goto (-30), 3) := by decide +kernel
theorem dX12_image_53 : decode cX12_image 53 = .ok (.aload_n 0, 1) := by decide +kernel
theorem dX12_image_54 : decode cX12_image 54 = .ok (.getfield 17, 3) := by decide +kernel
theorem dX12_image_57 : decode cX12_image 57 = .ok (.iload_n 1, 1) := by decide +kernel
theorem dX12_image_58 : decode cX12_image 58 = .ok (.iconst 1, 1) := by decide +kernel
theorem dX12_image_59 : decode cX12_image 59 = .ok (.bastore, 1) := by decide +kernel
theorem dX12_image_60 : decode cX12_image 60 = .ok (.iconst 0, 1) := by decide +kernel
theorem dX12_image_61 : decode cX12_image 61 = .ok (.ireturn, 1) := by decide +kernel
theorem fl_X12_17 : FLk RX12 17 12 2 := ⟨_, rfl, by decide, mW 1384 (by decide +kernel) rfl⟩
def M_image_L20 (x1 : Int32) (Q : Int32 → Hp → Prop) : Nat → Int32 → Hp → Prop
  | 0, _, _ => False
  | n + 1, x2, h => (1092 ≤ x2 → vp_in x1 2 ∧ ∀ h4 : Hp, h4 = sI h 100 (x1).toNatClampNeg (vp_nar .boolean 1) → Q 0 h4) ∧ (¬ 1092 ≤ x2 → vp_in x2 3276 ∧ vp_in (((1092 : Int32) * (x1 + 1)) + x2) 3276 ∧ ∀ h5 : Hp, h5 = sI h 99 ((((1092 : Int32) * (x1 + 1)) + x2)).toNatClampNeg (gI h 99 (x2).toNatClampNeg) → ∀ v6 : Int32, v6 = (x2 + 1) → M_image_L20 x1 Q n v6 h5)
set_option maxHeartbeats 4000000 in
set_option maxRecDepth 20000 in
theorem gl_M_image_L20 {G : Gx}  {x1 : Int32} {Q : Int32 → Hp → Prop} : ∀ (n : Nat) (x2 : Int32) (h : Hp), M_image_L20 x1 Q n x2 h → Go cX12_image 3 RX12 (some .int) 2 G (QI G Q) 20 [(0, .ref (gAd G 98)), (1, .int x1), (2, .int x2)] [] h := by
  intro n
  induction n with
  | zero => intro _ h hw; exact False.elim hw
  | succ n ih =>
    intro x2 h hw
    refine g_iload_n dX12_image_20 rfl rfl ?_
    refine g_sipush (v := 1092) dX12_image_21 (by decide) ?_
    refine g_icmp_ge 53 dX12_image_24 rfl (fun hc => ?_) (fun hc => ?_)
    · have hw := hw.1 hc
      refine g_aload_n dX12_image_53 rfl rfl ?_
      refine g_getA dX12_image_54 fl_X12_17 sh98 rfl ?_
      refine g_iload_n dX12_image_57 rfl rfl ?_
      refine g_iconst (v := 1) dX12_image_58 (by decide) ?_
      refine g_zast dX12_image_59 ia100 al100 hw.1 ?_
      have hw := hw.2
      refine g_heap (fun h4 eh4 => ?_)
      have hw := hw h4 eh4
      refine g_iconst (v := 0) dX12_image_60 (by decide) ?_
      exact g_iret dX12_image_61 hw
    · have hw := hw.2 hc
      refine g_aload_n dX12_image_27 rfl rfl ?_
      refine g_getA dX12_image_28 fl_X12_13 sh98 rfl ?_
      refine g_sipush (v := 1092) dX12_image_31 (by decide) ?_
      refine g_iload_n dX12_image_34 rfl rfl ?_
      refine g_iconst (v := 1) dX12_image_35 (by decide) ?_
      refine g_iadd dX12_image_36 ?_
      refine g_imul dX12_image_37 ?_
      refine g_iload_n dX12_image_38 rfl rfl ?_
      refine g_iadd dX12_image_39 ?_
      refine g_aload_n dX12_image_40 rfl rfl ?_
      refine g_getA dX12_image_41 fl_X12_13 sh98 rfl ?_
      refine g_iload_n dX12_image_44 rfl rfl ?_
      refine g_iald dX12_image_45 ia99 al99 hw.1 ?_
      have hw := hw.2
      refine g_iast dX12_image_46 ia99 al99 hw.1 ?_
      have hw := hw.2
      refine g_heap (fun h5 eh5 => ?_)
      have hw := hw h5 eh5
      obtain ⟨v6, ev6⟩ : ∃ y : Int32, y = (x2 + 1) := ⟨_, rfl⟩
      have hw := hw v6 ev6
      refine g_iinc dX12_image_47 rfl (by rw [ev6]; rfl) (by decide) (lv1 := [(0, .ref (gAd G 98)), (1, .int x1), (2, .int v6)]) rfl ?_
      refine g_goto 20 dX12_image_50 rfl ?_
      exact ih _ _ hw
def M_image (x1 : Int32) (h : Hp) (Q : Int32 → Hp → Prop) : Prop := ∀ h1 : Hp, h1 = sI h 98 0 0 → M_within ((x1).toInt64) (0 : Int64) (1 : Int64) h1 (fun r2 h3 => (¬ r2 = 0 → ∃ n7, M_image_L20 x1 Q n7 0 h3) ∧ (r2 = 0 → Q (-2) h3))
set_option maxHeartbeats 4000000 in
set_option maxRecDepth 20000 in
theorem c_M_image {G : Gx}  {x1 : Int32} {h : Hp} {Q : Int32 → Hp → Prop} (hw : M_image x1 h Q) : Ct yX12_image cX12_image 3 (some .int) 2 G [.ref (gAd G 98), .int x1] h (QI G Q) := by
  refine ct_go [(0, .ref (gAd G 98)), (1, .int x1)] (plainFor_of_name (by decide)) rfl (Nat.le_of_ble_eq_true rfl) rfl ?_
  refine g_aload_n dX12_image_0 rfl rfl ?_
  refine g_iconst (v := 0) dX12_image_1 (by decide) ?_
  refine g_putI dX12_image_2 fl_X12_1 sh98 rfl rfl pf_12_0 ?_
  refine g_heap (fun h1 eh1 => ?_)
  have hw := hw h1 eh1
  refine g_iload_n dX12_image_5 rfl rfl ?_
  refine g_i2l dX12_image_6 ?_
  refine g_lconst (v := (0 : Int64)) dX12_image_7 (by decide) ?_
  refine g_lconst (v := (1 : Int64)) dX12_image_8 (by decide) ?_
  refine g_callSI [.long ((x1).toInt64), .long (0 : Int64), .long (1 : Int64)] dX12_image_9 ml_X12_169 mk_X12_within rfl (Nat.le_of_ble_eq_true rfl) (Nat.le_of_ble_eq_true rfl) rfl (c_M_within hw) (fun r2 h3 hw => ?_)
  refine g_if_ne 18 dX12_image_12 rfl (fun hc => ?_) (fun hc => ?_)
  · have hw := hw.1 hc
    refine g_iconst (v := 0) dX12_image_18 (by decide) ?_
    refine g_istore_n dX12_image_19 rfl (by decide) (lv1 := [(0, .ref (gAd G 98)), (1, .int x1), (2, .int 0)]) rfl ?_
    obtain ⟨n7, hw⟩ := hw
    refine gl_M_image_L20   _ _ _ hw
  · have hw := hw.2 hc
    refine g_bipush (v := (-2)) dX12_image_15 (by decide) ?_
    exact g_iret dX12_image_17 hw
theorem dX12_restore_0 : decode cX12_restore 0 = .ok (.aload_n 0, 1) := by decide +kernel
theorem dX12_restore_1 : decode cX12_restore 1 = .ok (.iconst 0, 1) := by decide +kernel
theorem dX12_restore_2 : decode cX12_restore 2 = .ok (.putfield 1, 3) := by decide +kernel
theorem dX12_restore_5 : decode cX12_restore 5 = .ok (.iload_n 1, 1) := by decide +kernel
theorem dX12_restore_6 : decode cX12_restore 6 = .ok (.i2l, 1) := by decide +kernel
theorem dX12_restore_7 : decode cX12_restore 7 = .ok (.lconst 0, 1) := by decide +kernel
theorem dX12_restore_8 : decode cX12_restore 8 = .ok (.lconst 1, 1) := by decide +kernel
theorem dX12_restore_9 : decode cX12_restore 9 = .ok (.invokestatic 169, 3) := by decide +kernel
theorem dX12_restore_12 : decode cX12_restore 12 = .ok (.ifCond .ne 6, 3) := by decide +kernel
theorem dX12_restore_15 : decode cX12_restore 15 = .ok (.bipush (-2), 2) := by decide +kernel
theorem dX12_restore_17 : decode cX12_restore 17 = .ok (.ireturn, 1) := by decide +kernel
theorem dX12_restore_18 : decode cX12_restore 18 = .ok (.aload_n 0, 1) := by decide +kernel
theorem dX12_restore_19 : decode cX12_restore 19 = .ok (.getfield 17, 3) := by decide +kernel
theorem dX12_restore_22 : decode cX12_restore 22 = .ok (.iload_n 1, 1) := by decide +kernel
theorem dX12_restore_23 : decode cX12_restore 23 = .ok (.baload, 1) := by decide +kernel
theorem dX12_restore_24 : decode cX12_restore 24 = .ok (.ifCond .ne 6, 3) := by decide +kernel
theorem dX12_restore_27 : decode cX12_restore 27 = .ok (.bipush (-5), 2) := by decide +kernel
theorem dX12_restore_29 : decode cX12_restore 29 = .ok (.ireturn, 1) := by decide +kernel
theorem dX12_restore_30 : decode cX12_restore 30 = .ok (.iconst 0, 1) := by decide +kernel
theorem dX12_restore_31 : decode cX12_restore 31 = .ok (.istore_n 2, 1) := by decide +kernel
theorem dX12_restore_32 : decode cX12_restore 32 = .ok (.iload_n 2, 1) := by decide +kernel
theorem dX12_restore_33 : decode cX12_restore 33 = .ok (.sipush 1092, 3) := by decide +kernel
theorem dX12_restore_36 : decode cX12_restore 36 = .ok (.if_icmp .ge 29, 3) := by decide +kernel
theorem dX12_restore_39 : decode cX12_restore 39 = .ok (.aload_n 0, 1) := by decide +kernel
theorem dX12_restore_40 : decode cX12_restore 40 = .ok (.getfield 13, 3) := by decide +kernel
theorem dX12_restore_43 : decode cX12_restore 43 = .ok (.iload_n 2, 1) := by decide +kernel
theorem dX12_restore_44 : decode cX12_restore 44 = .ok (.aload_n 0, 1) := by decide +kernel
theorem dX12_restore_45 : decode cX12_restore 45 = .ok (.getfield 13, 3) := by decide +kernel
theorem dX12_restore_48 : decode cX12_restore 48 = .ok (.sipush 1092, 3) := by decide +kernel
theorem dX12_restore_51 : decode cX12_restore 51 = .ok (.iload_n 1, 1) := by decide +kernel
theorem dX12_restore_52 : decode cX12_restore 52 = .ok (.iconst 1, 1) := by decide +kernel
theorem dX12_restore_53 : decode cX12_restore 53 = .ok (.iadd, 1) := by decide +kernel
theorem dX12_restore_54 : decode cX12_restore 54 = .ok (.imul, 1) := by decide +kernel
theorem dX12_restore_55 : decode cX12_restore 55 = .ok (.iload_n 2, 1) := by decide +kernel
theorem dX12_restore_56 : decode cX12_restore 56 = .ok (.iadd, 1) := by decide +kernel
theorem dX12_restore_57 : decode cX12_restore 57 = .ok (.iaload, 1) := by decide +kernel
theorem dX12_restore_58 : decode cX12_restore 58 = .ok (.iastore, 1) := by decide +kernel
theorem dX12_restore_59 : decode cX12_restore 59 = .ok (.iinc 2 1, 3) := by decide +kernel
theorem dX12_restore_62 : decode cX12_restore 62 = .ok (.goto (-30), 3) := by decide +kernel
theorem dX12_restore_65 : decode cX12_restore 65 = .ok (.aload_n 0, 1) := by decide +kernel
theorem dX12_restore_66 : decode cX12_restore 66 = .ok (.getfield 13, 3) := by decide +kernel
theorem dX12_restore_69 : decode cX12_restore 69 = .ok (.bipush 70, 2) := by decide +kernel
theorem dX12_restore_71 : decode cX12_restore 71 = .ok (.iconst 0, 1) := by decide +kernel
theorem dX12_restore_72 : decode cX12_restore 72 = .ok (.iastore, 1) := by decide +kernel
theorem dX12_restore_73 : decode cX12_restore 73 = .ok (.iconst 0, 1) := by decide +kernel
theorem dX12_restore_74 : decode cX12_restore 74 = .ok (.ireturn, 1) := by decide +kernel
def M_restore_L32 (x1 : Int32) (Q : Int32 → Hp → Prop) : Nat → Int32 → Hp → Prop
  | 0, _, _ => False
  | n + 1, x2, h => (1092 ≤ x2 → ∀ h4 : Hp, h4 = sI h 99 70 0 → Q 0 h4) ∧ (¬ 1092 ≤ x2 → vp_in (((1092 : Int32) * (x1 + 1)) + x2) 3276 ∧ vp_in x2 3276 ∧ ∀ h5 : Hp, h5 = sI h 99 (x2).toNatClampNeg (gI h 99 ((((1092 : Int32) * (x1 + 1)) + x2)).toNatClampNeg) → ∀ v6 : Int32, v6 = (x2 + 1) → M_restore_L32 x1 Q n v6 h5)
set_option maxHeartbeats 4000000 in
set_option maxRecDepth 20000 in
theorem gl_M_restore_L32 {G : Gx}  {x1 : Int32} {Q : Int32 → Hp → Prop} : ∀ (n : Nat) (x2 : Int32) (h : Hp), M_restore_L32 x1 Q n x2 h → Go cX12_restore 3 RX12 (some .int) 2 G (QI G Q) 32 [(0, .ref (gAd G 98)), (1, .int x1), (2, .int x2)] [] h := by
  intro n
  induction n with
  | zero => intro _ h hw; exact False.elim hw
  | succ n ih =>
    intro x2 h hw
    refine g_iload_n dX12_restore_32 rfl rfl ?_
    refine g_sipush (v := 1092) dX12_restore_33 (by decide) ?_
    refine g_icmp_ge 65 dX12_restore_36 rfl (fun hc => ?_) (fun hc => ?_)
    · have hw := hw.1 hc
      refine g_aload_n dX12_restore_65 rfl rfl ?_
      refine g_getA dX12_restore_66 fl_X12_13 sh98 rfl ?_
      refine g_bipush (v := 70) dX12_restore_69 (by decide) ?_
      refine g_iconst (v := 0) dX12_restore_71 (by decide) ?_
      refine g_iastK dX12_restore_72 ia99 al99 (by unfold vp_in; decide) (k := 70) (by decide) ?_
      refine g_heap (fun h4 eh4 => ?_)
      have hw := hw h4 eh4
      refine g_iconst (v := 0) dX12_restore_73 (by decide) ?_
      exact g_iret dX12_restore_74 hw
    · have hw := hw.2 hc
      refine g_aload_n dX12_restore_39 rfl rfl ?_
      refine g_getA dX12_restore_40 fl_X12_13 sh98 rfl ?_
      refine g_iload_n dX12_restore_43 rfl rfl ?_
      refine g_aload_n dX12_restore_44 rfl rfl ?_
      refine g_getA dX12_restore_45 fl_X12_13 sh98 rfl ?_
      refine g_sipush (v := 1092) dX12_restore_48 (by decide) ?_
      refine g_iload_n dX12_restore_51 rfl rfl ?_
      refine g_iconst (v := 1) dX12_restore_52 (by decide) ?_
      refine g_iadd dX12_restore_53 ?_
      refine g_imul dX12_restore_54 ?_
      refine g_iload_n dX12_restore_55 rfl rfl ?_
      refine g_iadd dX12_restore_56 ?_
      refine g_iald dX12_restore_57 ia99 al99 hw.1 ?_
      have hw := hw.2
      refine g_iast dX12_restore_58 ia99 al99 hw.1 ?_
      have hw := hw.2
      refine g_heap (fun h5 eh5 => ?_)
      have hw := hw h5 eh5
      obtain ⟨v6, ev6⟩ : ∃ y : Int32, y = (x2 + 1) := ⟨_, rfl⟩
      have hw := hw v6 ev6
      refine g_iinc dX12_restore_59 rfl (by rw [ev6]; rfl) (by decide) (lv1 := [(0, .ref (gAd G 98)), (1, .int x1), (2, .int v6)]) rfl ?_
      refine g_goto 32 dX12_restore_62 rfl ?_
      exact ih _ _ hw
def M_restore (x1 : Int32) (h : Hp) (Q : Int32 → Hp → Prop) : Prop := ∀ h1 : Hp, h1 = sI h 98 0 0 → M_within ((x1).toInt64) (0 : Int64) (1 : Int64) h1 (fun r2 h3 => (¬ r2 = 0 → vp_in x1 2 ∧ (¬ (gI h3 100 (x1).toNatClampNeg) = 0 → ∃ n7, M_restore_L32 x1 Q n7 0 h3) ∧ ((gI h3 100 (x1).toNatClampNeg) = 0 → Q (-5) h3)) ∧ (r2 = 0 → Q (-2) h3))
set_option maxHeartbeats 4000000 in
set_option maxRecDepth 20000 in
theorem c_M_restore {G : Gx}  {x1 : Int32} {h : Hp} {Q : Int32 → Hp → Prop} (hw : M_restore x1 h Q) : Ct yX12_restore cX12_restore 3 (some .int) 2 G [.ref (gAd G 98), .int x1] h (QI G Q) := by
  refine ct_go [(0, .ref (gAd G 98)), (1, .int x1)] (plainFor_of_name (by decide)) rfl (Nat.le_of_ble_eq_true rfl) rfl ?_
  refine g_aload_n dX12_restore_0 rfl rfl ?_
  refine g_iconst (v := 0) dX12_restore_1 (by decide) ?_
  refine g_putI dX12_restore_2 fl_X12_1 sh98 rfl rfl pf_12_0 ?_
  refine g_heap (fun h1 eh1 => ?_)
  have hw := hw h1 eh1
  refine g_iload_n dX12_restore_5 rfl rfl ?_
  refine g_i2l dX12_restore_6 ?_
  refine g_lconst (v := (0 : Int64)) dX12_restore_7 (by decide) ?_
  refine g_lconst (v := (1 : Int64)) dX12_restore_8 (by decide) ?_
  refine g_callSI [.long ((x1).toInt64), .long (0 : Int64), .long (1 : Int64)] dX12_restore_9 ml_X12_169 mk_X12_within rfl (Nat.le_of_ble_eq_true rfl) (Nat.le_of_ble_eq_true rfl) rfl (c_M_within hw) (fun r2 h3 hw => ?_)
  refine g_if_ne 18 dX12_restore_12 rfl (fun hc => ?_) (fun hc => ?_)
  · have hw := hw.1 hc
    refine g_aload_n dX12_restore_18 rfl rfl ?_
    refine g_getA dX12_restore_19 fl_X12_17 sh98 rfl ?_
    refine g_iload_n dX12_restore_22 rfl rfl ?_
    refine g_zald dX12_restore_23 ia100 al100 hw.1 ?_
    have hw := hw.2
    refine g_if_ne 30 dX12_restore_24 rfl (fun hc => ?_) (fun hc => ?_)
    · have hw := hw.1 hc
      refine g_iconst (v := 0) dX12_restore_30 (by decide) ?_
      refine g_istore_n dX12_restore_31 rfl (by decide) (lv1 := [(0, .ref (gAd G 98)), (1, .int x1), (2, .int 0)]) rfl ?_
      obtain ⟨n7, hw⟩ := hw
      refine gl_M_restore_L32   _ _ _ hw
    · have hw := hw.2 hc
      refine g_bipush (v := (-5)) dX12_restore_27 (by decide) ?_
      exact g_iret dX12_restore_29 hw
  · have hw := hw.2 hc
    refine g_bipush (v := (-2)) dX12_restore_15 (by decide) ?_
    exact g_iret dX12_restore_17 hw
theorem dX12_count_0 : decode cX12_count 0 = .ok (.aload_n 0, 1) := by decide +kernel
theorem dX12_count_1 : decode cX12_count 1 = .ok (.iconst 0, 1) := by decide +kernel
theorem dX12_count_2 : decode cX12_count 2 = .ok (.putfield 1, 3) := by decide +kernel
theorem dX12_count_5 : decode cX12_count 5 = .ok (.iload_n 1, 1) := by decide +kernel
theorem dX12_count_6 : decode cX12_count 6 = .ok (.tableswitch 132 0 9 #[54, 61, 68, 76, 84, 92, 99, 112, 120, 125], 54) := by decide +kernel
theorem dX12_count_60 : decode cX12_count 60 = .ok (.aload_n 0, 1) := by decide +kernel
theorem dX12_count_61 : decode cX12_count 61 = .ok (.getfield 13, 3) := by decide +kernel
theorem dX12_count_64 : decode cX12_count 64 = .ok (.iconst 1, 1) := by decide +kernel
theorem dX12_count_65 : decode cX12_count 65 = .ok (.iaload, 1) := by decide +kernel
theorem dX12_count_66 : decode cX12_count 66 = .ok (.ireturn, 1) := by decide +kernel
theorem dX12_count_67 : decode cX12_count 67 = .ok (.aload_n 0, 1) := by decide +kernel
theorem dX12_count_68 : decode cX12_count 68 = .ok (.getfield 13, 3) := by decide +kernel
theorem dX12_count_71 : decode cX12_count 71 = .ok (.iconst 2, 1) := by decide +kernel
theorem dX12_count_72 : decode cX12_count 72 = .ok (.iaload, 1) := by decide +kernel
theorem dX12_count_73 : decode cX12_count 73 = .ok (.ireturn, 1) := by decide +kernel
theorem dX12_count_74 : decode cX12_count 74 = .ok (.aload_n 0, 1) := by decide +kernel
theorem dX12_count_75 : decode cX12_count 75 = .ok (.getfield 13, 3) := by decide +kernel
theorem dX12_count_78 : decode cX12_count 78 = .ok (.bipush 61, 2) := by decide +kernel
theorem dX12_count_80 : decode cX12_count 80 = .ok (.iaload, 1) := by decide +kernel
theorem dX12_count_81 : decode cX12_count 81 = .ok (.ireturn, 1) := by decide +kernel
theorem dX12_count_82 : decode cX12_count 82 = .ok (.aload_n 0, 1) := by decide +kernel
theorem dX12_count_83 : decode cX12_count 83 = .ok (.getfield 13, 3) := by decide +kernel
theorem dX12_count_86 : decode cX12_count 86 = .ok (.bipush 58, 2) := by decide +kernel
theorem dX12_count_88 : decode cX12_count 88 = .ok (.iaload, 1) := by decide +kernel
theorem dX12_count_89 : decode cX12_count 89 = .ok (.ireturn, 1) := by decide +kernel
theorem dX12_count_90 : decode cX12_count 90 = .ok (.aload_n 0, 1) := by decide +kernel
theorem dX12_count_91 : decode cX12_count 91 = .ok (.getfield 13, 3) := by decide +kernel
theorem dX12_count_94 : decode cX12_count 94 = .ok (.bipush 60, 2) := by decide +kernel
theorem dX12_count_96 : decode cX12_count 96 = .ok (.iaload, 1) := by decide +kernel
theorem dX12_count_97 : decode cX12_count 97 = .ok (.ireturn, 1) := by decide +kernel
theorem dX12_count_98 : decode cX12_count 98 = .ok (.aload_n 0, 1) := by decide +kernel
theorem dX12_count_99 : decode cX12_count 99 = .ok (.getfield 13, 3) := by decide +kernel
theorem dX12_count_102 : decode cX12_count 102 = .ok (.iconst 3, 1) := by decide +kernel
theorem dX12_count_103 : decode cX12_count 103 = .ok (.iaload, 1) := by decide +kernel
theorem dX12_count_104 : decode cX12_count 104 = .ok (.ireturn, 1) := by decide +kernel
theorem dX12_count_105 : decode cX12_count 105 = .ok (.aload_n 0, 1) := by decide +kernel
theorem dX12_count_106 : decode cX12_count 106 = .ok (.invokevirtual 260, 3) := by decide +kernel
theorem dX12_count_109 : decode cX12_count 109 = .ok (.aload_n 0, 1) := by decide +kernel
theorem dX12_count_110 : decode cX12_count 110 = .ok (.invokevirtual 382, 3) := by decide +kernel
theorem dX12_count_113 : decode cX12_count 113 = .ok (.ldc_w 491, 3) := by decide +kernel
theorem dX12_count_116 : decode cX12_count 116 = .ok (.iand, 1) := by decide +kernel
theorem dX12_count_117 : decode cX12_count 117 = .ok (.ireturn, 1) := by decide +kernel
theorem dX12_count_118 : decode cX12_count 118 = .ok (.aload_n 0, 1) := by decide +kernel
theorem dX12_count_119 : decode cX12_count 119 = .ok (.getfield 13, 3) := by decide +kernel
theorem dX12_count_122 : decode cX12_count 122 = .ok (.bipush 70, 2) := by decide +kernel
theorem dX12_count_124 : decode cX12_count 124 = .ok (.iaload, 1) := by decide +kernel
theorem dX12_count_125 : decode cX12_count 125 = .ok (.ireturn, 1) := by decide +kernel
theorem dX12_count_126 : decode cX12_count 126 = .ok (.aload_n 0, 1) := by decide +kernel
theorem dX12_count_127 : decode cX12_count 127 = .ok (.getfield 107, 3) := by decide +kernel
theorem dX12_count_130 : decode cX12_count 130 = .ok (.ireturn, 1) := by decide +kernel
theorem dX12_count_131 : decode cX12_count 131 = .ok (.aload_n 0, 1) := by decide +kernel
theorem dX12_count_132 : decode cX12_count 132 = .ok (.getfield 13, 3) := by decide +kernel
theorem dX12_count_135 : decode cX12_count 135 = .ok (.iconst 0, 1) := by decide +kernel
theorem dX12_count_136 : decode cX12_count 136 = .ok (.iaload, 1) := by decide +kernel
theorem dX12_count_137 : decode cX12_count 137 = .ok (.ireturn, 1) := by decide +kernel
theorem dX12_count_138 : decode cX12_count 138 = .ok (.iconst (-1), 1) := by decide +kernel
theorem dX12_count_139 : decode cX12_count 139 = .ok (.ireturn, 1) := by decide +kernel
theorem kc_X12_491 : Cond.constant RX12 491 (65535) ∈ Wd := mW 2040 (by decide +kernel) rfl
def M_count (x1 : Int32) (h : Hp) (Q : Int32 → Hp → Prop) : Prop := ∀ h1 : Hp, h1 = sI h 98 0 0 → (x1.toInt < 0 ∨ 9 < x1.toInt → Q (-1) h1) ∧ (x1 = 0 → Q (gI h1 99 1) h1) ∧ (x1 = 1 → Q (gI h1 99 2) h1) ∧ (x1 = 2 → Q (gI h1 99 61) h1) ∧ (x1 = 3 → Q (gI h1 99 58) h1) ∧ (x1 = 4 → Q (gI h1 99 60) h1) ∧ (x1 = 5 → Q (gI h1 99 3) h1) ∧ (x1 = 6 → M_laysWays  h1 (fun h2 => M_allWays  h2 (fun r3 h4 => Q (r3 &&& 65535) h4))) ∧ (x1 = 7 → Q (gI h1 99 70) h1) ∧ (x1 = 8 → Q (gI h1 98 5) h1) ∧ (x1 = 9 → Q (gI h1 99 0) h1)
set_option maxHeartbeats 4000000 in
set_option maxRecDepth 20000 in
theorem c_M_count {G : Gx}  {x1 : Int32} {h : Hp} {Q : Int32 → Hp → Prop} (hw : M_count x1 h Q) : Ct yX12_count cX12_count 2 (some .int) 5 G [.ref (gAd G 98), .int x1] h (QI G Q) := by
  refine ct_go [(0, .ref (gAd G 98)), (1, .int x1)] (plainFor_of_name (by decide)) rfl (Nat.le_of_ble_eq_true rfl) rfl ?_
  refine g_aload_n dX12_count_0 rfl rfl ?_
  refine g_iconst (v := 0) dX12_count_1 (by decide) ?_
  refine g_putI dX12_count_2 fl_X12_1 sh98 rfl rfl pf_12_0 ?_
  refine g_heap (fun h1 eh1 => ?_)
  have hw := hw h1 eh1
  refine g_iload_n dX12_count_5 rfl rfl ?_
  rcases tsw_in x1 (0) (9) 10 (by decide) with hc | ⟨j, hj, hc⟩
  · have hw := hw.1 hc
    refine g_tswD 138 dX12_count_6 hc rfl ?_
    refine g_iconst (v := (-1)) dX12_count_138 (by decide) ?_
    exact g_iret dX12_count_139 hw
  · match j, hj, hc with
    | 0, _, hc =>
      have hc : x1 = 0 := tsw_eq hc (by decide)
      have hw := hw.2.1 hc
      refine g_tswI 0 60 dX12_count_6 hc (by decide) (by decide) (off := 54) (by decide) rfl ?_
      refine g_aload_n dX12_count_60 rfl rfl ?_
      refine g_getA dX12_count_61 fl_X12_13 sh98 rfl ?_
      refine g_iconst (v := 1) dX12_count_64 (by decide) ?_
      refine g_ialdK dX12_count_65 ia99 al99 (by unfold vp_in; decide) (k := 1) (by decide) ?_
      exact g_iret dX12_count_66 hw
    | 1, _, hc =>
      have hc : x1 = 1 := tsw_eq hc (by decide)
      have hw := hw.2.2.1 hc
      refine g_tswI 1 67 dX12_count_6 hc (by decide) (by decide) (off := 61) (by decide) rfl ?_
      refine g_aload_n dX12_count_67 rfl rfl ?_
      refine g_getA dX12_count_68 fl_X12_13 sh98 rfl ?_
      refine g_iconst (v := 2) dX12_count_71 (by decide) ?_
      refine g_ialdK dX12_count_72 ia99 al99 (by unfold vp_in; decide) (k := 2) (by decide) ?_
      exact g_iret dX12_count_73 hw
    | 2, _, hc =>
      have hc : x1 = 2 := tsw_eq hc (by decide)
      have hw := hw.2.2.2.1 hc
      refine g_tswI 2 74 dX12_count_6 hc (by decide) (by decide) (off := 68) (by decide) rfl ?_
      refine g_aload_n dX12_count_74 rfl rfl ?_
      refine g_getA dX12_count_75 fl_X12_13 sh98 rfl ?_
      refine g_bipush (v := 61) dX12_count_78 (by decide) ?_
      refine g_ialdK dX12_count_80 ia99 al99 (by unfold vp_in; decide) (k := 61) (by decide) ?_
      exact g_iret dX12_count_81 hw
    | 3, _, hc =>
      have hc : x1 = 3 := tsw_eq hc (by decide)
      have hw := hw.2.2.2.2.1 hc
      refine g_tswI 3 82 dX12_count_6 hc (by decide) (by decide) (off := 76) (by decide) rfl ?_
      refine g_aload_n dX12_count_82 rfl rfl ?_
      refine g_getA dX12_count_83 fl_X12_13 sh98 rfl ?_
      refine g_bipush (v := 58) dX12_count_86 (by decide) ?_
      refine g_ialdK dX12_count_88 ia99 al99 (by unfold vp_in; decide) (k := 58) (by decide) ?_
      exact g_iret dX12_count_89 hw
    | 4, _, hc =>
      have hc : x1 = 4 := tsw_eq hc (by decide)
      have hw := hw.2.2.2.2.2.1 hc
      refine g_tswI 4 90 dX12_count_6 hc (by decide) (by decide) (off := 84) (by decide) rfl ?_
      refine g_aload_n dX12_count_90 rfl rfl ?_
      refine g_getA dX12_count_91 fl_X12_13 sh98 rfl ?_
      refine g_bipush (v := 60) dX12_count_94 (by decide) ?_
      refine g_ialdK dX12_count_96 ia99 al99 (by unfold vp_in; decide) (k := 60) (by decide) ?_
      exact g_iret dX12_count_97 hw
    | 5, _, hc =>
      have hc : x1 = 5 := tsw_eq hc (by decide)
      have hw := hw.2.2.2.2.2.2.1 hc
      refine g_tswI 5 98 dX12_count_6 hc (by decide) (by decide) (off := 92) (by decide) rfl ?_
      refine g_aload_n dX12_count_98 rfl rfl ?_
      refine g_getA dX12_count_99 fl_X12_13 sh98 rfl ?_
      refine g_iconst (v := 3) dX12_count_102 (by decide) ?_
      refine g_ialdK dX12_count_103 ia99 al99 (by unfold vp_in; decide) (k := 3) (by decide) ?_
      exact g_iret dX12_count_104 hw
    | 6, _, hc =>
      have hc : x1 = 6 := tsw_eq hc (by decide)
      have hw := hw.2.2.2.2.2.2.2.1 hc
      refine g_tswI 6 105 dX12_count_6 hc (by decide) (by decide) (off := 99) (by decide) rfl ?_
      refine g_aload_n dX12_count_105 rfl rfl ?_
      refine g_callVV [] (ci := 12) dX12_count_106 ml_X12_260 mk_X12_laysWays rfl rfl sh98 (Nat.le_of_ble_eq_true rfl) (Nat.le_of_ble_eq_true rfl) rfl (c_M_laysWays hw) (fun h2 hw => ?_)
      refine g_aload_n dX12_count_109 rfl rfl ?_
      refine g_callVI [] (ci := 12) dX12_count_110 ml_X12_382 mk_X12_allWays rfl rfl sh98 (Nat.le_of_ble_eq_true rfl) (Nat.le_of_ble_eq_true rfl) rfl (c_M_allWays hw) (fun r3 h4 hw => ?_)
      refine g_ldcw dX12_count_113 kc_X12_491 ?_
      refine g_iand dX12_count_116 ?_
      exact g_iret dX12_count_117 hw
    | 7, _, hc =>
      have hc : x1 = 7 := tsw_eq hc (by decide)
      have hw := hw.2.2.2.2.2.2.2.2.1 hc
      refine g_tswI 7 118 dX12_count_6 hc (by decide) (by decide) (off := 112) (by decide) rfl ?_
      refine g_aload_n dX12_count_118 rfl rfl ?_
      refine g_getA dX12_count_119 fl_X12_13 sh98 rfl ?_
      refine g_bipush (v := 70) dX12_count_122 (by decide) ?_
      refine g_ialdK dX12_count_124 ia99 al99 (by unfold vp_in; decide) (k := 70) (by decide) ?_
      exact g_iret dX12_count_125 hw
    | 8, _, hc =>
      have hc : x1 = 8 := tsw_eq hc (by decide)
      have hw := hw.2.2.2.2.2.2.2.2.2.1 hc
      refine g_tswI 8 126 dX12_count_6 hc (by decide) (by decide) (off := 120) (by decide) rfl ?_
      refine g_aload_n dX12_count_126 rfl rfl ?_
      refine g_getI dX12_count_127 fl_X12_107 sh98 rfl ?_
      exact g_iret dX12_count_130 hw
    | 9, _, hc =>
      have hc : x1 = 9 := tsw_eq hc (by decide)
      have hw := hw.2.2.2.2.2.2.2.2.2.2 hc
      refine g_tswI 9 131 dX12_count_6 hc (by decide) (by decide) (off := 125) (by decide) rfl ?_
      refine g_aload_n dX12_count_131 rfl rfl ?_
      refine g_getA dX12_count_132 fl_X12_13 sh98 rfl ?_
      refine g_iconst (v := 0) dX12_count_135 (by decide) ?_
      refine g_ialdK dX12_count_136 ia99 al99 (by unfold vp_in; decide) (k := 0) (by decide) ?_
      exact g_iret dX12_count_137 hw
    | k + 10, hj, _ => exact absurd hj (by omega)
