theorem dJ9_min_7cf53_0 : decode cJ9_min_7cf53 0 = .ok (.iload_n 0, 1) := by decide +kernel
theorem dJ9_min_7cf53_1 : decode cJ9_min_7cf53 1 = .ok (.iload_n 1, 1) := by decide +kernel
theorem dJ9_min_7cf53_2 : decode cJ9_min_7cf53 2 = .ok (.if_icmp .gt 7, 3) := by decide +kernel
theorem dJ9_min_7cf53_5 : decode cJ9_min_7cf53 5 = .ok (.iload_n 0, 1) := by decide +kernel
theorem dJ9_min_7cf53_6 : decode cJ9_min_7cf53 6 = .ok (.goto 4, 3) := by decide +kernel
theorem dJ9_min_7cf53_9 : decode cJ9_min_7cf53 9 = .ok (.iload_n 1, 1) := by decide +kernel
theorem dJ9_min_7cf53_10 : decode cJ9_min_7cf53 10 = .ok (.ireturn, 1) := by decide +kernel
def J9_min_7cf53 (x0 : Int32) (x1 : Int32) (h : Hp) (Q : Int32 → Hp → Prop) : Prop := (x1 < x0 → Q x1 h) ∧ (¬ x1 < x0 → Q x0 h)
set_option maxHeartbeats 4000000 in
set_option maxRecDepth 20000 in
theorem c_J9_min_7cf53 {G : Gx}  {x0 : Int32} {x1 : Int32} {h : Hp} {Q : Int32 → Hp → Prop} (hw : J9_min_7cf53 x0 x1 h Q) : Ct yJ9_min_7cf53 cJ9_min_7cf53 2 (some .int) 1 G [.int x0, .int x1] h (QI G Q) := by
  refine ct_go [(0, .int x0), (1, .int x1)] (by decide +kernel) rfl (Nat.le_of_ble_eq_true rfl) rfl ?_
  refine g_iload_n dJ9_min_7cf53_0 rfl rfl ?_
  refine g_iload_n dJ9_min_7cf53_1 rfl rfl ?_
  refine g_icmp_gt 9 dJ9_min_7cf53_2 rfl (fun hc => ?_) (fun hc => ?_)
  · have hw := hw.1 hc
    refine g_iload_n dJ9_min_7cf53_9 rfl rfl ?_
    exact g_iret dJ9_min_7cf53_10 hw
  · have hw := hw.2 hc
    refine g_iload_n dJ9_min_7cf53_5 rfl rfl ?_
    refine g_goto 10 dJ9_min_7cf53_6 rfl ?_
    exact g_iret dJ9_min_7cf53_10 hw
theorem dJ9_max_7cf53_0 : decode cJ9_max_7cf53 0 = .ok (.iload_n 0, 1) := by decide +kernel
theorem dJ9_max_7cf53_1 : decode cJ9_max_7cf53 1 = .ok (.iload_n 1, 1) := by decide +kernel
theorem dJ9_max_7cf53_2 : decode cJ9_max_7cf53 2 = .ok (.if_icmp .lt 7, 3) := by decide +kernel
theorem dJ9_max_7cf53_5 : decode cJ9_max_7cf53 5 = .ok (.iload_n 0, 1) := by decide +kernel
theorem dJ9_max_7cf53_6 : decode cJ9_max_7cf53 6 = .ok (.goto 4, 3) := by decide +kernel
theorem dJ9_max_7cf53_9 : decode cJ9_max_7cf53 9 = .ok (.iload_n 1, 1) := by decide +kernel
theorem dJ9_max_7cf53_10 : decode cJ9_max_7cf53 10 = .ok (.ireturn, 1) := by decide +kernel
def J9_max_7cf53 (x0 : Int32) (x1 : Int32) (h : Hp) (Q : Int32 → Hp → Prop) : Prop := (x0 < x1 → Q x1 h) ∧ (¬ x0 < x1 → Q x0 h)
set_option maxHeartbeats 4000000 in
set_option maxRecDepth 20000 in
theorem c_J9_max_7cf53 {G : Gx}  {x0 : Int32} {x1 : Int32} {h : Hp} {Q : Int32 → Hp → Prop} (hw : J9_max_7cf53 x0 x1 h Q) : Ct yJ9_max_7cf53 cJ9_max_7cf53 2 (some .int) 1 G [.int x0, .int x1] h (QI G Q) := by
  refine ct_go [(0, .int x0), (1, .int x1)] (by decide +kernel) rfl (Nat.le_of_ble_eq_true rfl) rfl ?_
  refine g_iload_n dJ9_max_7cf53_0 rfl rfl ?_
  refine g_iload_n dJ9_max_7cf53_1 rfl rfl ?_
  refine g_icmp_lt 9 dJ9_max_7cf53_2 rfl (fun hc => ?_) (fun hc => ?_)
  · have hw := hw.1 hc
    refine g_iload_n dJ9_max_7cf53_9 rfl rfl ?_
    exact g_iret dJ9_max_7cf53_10 hw
  · have hw := hw.2 hc
    refine g_iload_n dJ9_max_7cf53_5 rfl rfl ?_
    refine g_goto 10 dJ9_max_7cf53_6 rfl ?_
    exact g_iret dJ9_max_7cf53_10 hw
theorem dJ0_isLatin1_aae02_0 : decode cJ0_isLatin1_aae02 0 = .ok (.getstatic 38, 3) := by decide +kernel
theorem dJ0_isLatin1_aae02_3 : decode cJ0_isLatin1_aae02 3 = .ok (.ifCond .eq 14, 3) := by decide +kernel
theorem dJ0_isLatin1_aae02_6 : decode cJ0_isLatin1_aae02 6 = .ok (.aload_n 0, 1) := by decide +kernel
theorem dJ0_isLatin1_aae02_7 : decode cJ0_isLatin1_aae02 7 = .ok (.getfield 15, 3) := by decide +kernel
theorem dJ0_isLatin1_aae02_10 : decode cJ0_isLatin1_aae02 10 = .ok (.ifCond .ne 7, 3) := by decide +kernel
theorem dJ0_isLatin1_aae02_13 : decode cJ0_isLatin1_aae02 13 = .ok (.iconst 1, 1) := by decide +kernel
theorem dJ0_isLatin1_aae02_14 : decode cJ0_isLatin1_aae02 14 = .ok (.goto 4, 3) := by decide +kernel
theorem dJ0_isLatin1_aae02_17 : decode cJ0_isLatin1_aae02 17 = .ok (.iconst 0, 1) := by decide +kernel
theorem dJ0_isLatin1_aae02_18 : decode cJ0_isLatin1_aae02 18 = .ok (.ireturn, 1) := by decide +kernel
theorem fj_J0_38 : Cond.fieldLink RJ0 38 "java/lang/String" "COMPACT_STRINGS" "Z" ∈ Wd := mW 477 (by decide +kernel) rfl
theorem fj_J0_15 : Cond.fieldLink RJ0 15 "java/lang/String" "coder" "B" ∈ Wd := mW 2042 (by decide +kernel) rfl
def J0_isLatin1_aae02 (o0 : Nat) (h : Hp) (Q : Int32 → Hp → Prop) : Prop := Q 1 h
set_option maxHeartbeats 4000000 in
set_option maxRecDepth 20000 in
theorem c_J0_isLatin1_aae02 {G : Gx} {o0 : Nat} (ho0 : o0 < NS)  {h : Hp} {Q : Int32 → Hp → Prop} (hw : J0_isLatin1_aae02 o0 h Q) : Ct yJ0_isLatin1_aae02 cJ0_isLatin1_aae02 1 (some .boolean) 1 G [.ref (gSa G o0)] h (QI G Q) := by
  refine ct_go [(0, .ref (gSa G o0))] (plainFor_of_name (by decide)) rfl (Nat.le_of_ble_eq_true rfl) rfl ?_
  refine g_compact dJ0_isLatin1_aae02_0 fj_J0_38 ?_
  refine g_if_eq 17 dJ0_isLatin1_aae02_3 rfl (fun hc => absurd hc (by decide)) (fun _ => ?_)
  refine g_aload_n dJ0_isLatin1_aae02_6 rfl rfl ?_
  refine g_strC dJ0_isLatin1_aae02_7 ho0 fj_J0_15 ?_
  refine g_if_ne 17 dJ0_isLatin1_aae02_10 rfl (fun hc => absurd hc (by decide)) (fun _ => ?_)
  refine g_iconst (v := 1) dJ0_isLatin1_aae02_13 (by decide) ?_
  refine g_goto 18 dJ0_isLatin1_aae02_14 rfl ?_
  exact g_zret dJ0_isLatin1_aae02_18 rfl hw
theorem k_J0_isLatin1_aae02 {G : Gx} {o0 : Nat} (ho0 : o0 < NS) {h : Hp} : Ct yJ0_isLatin1_aae02 cJ0_isLatin1_aae02 1 (some .boolean) 1 G [.ref (gSa G o0)] h (QI G (fun r h1 => r = 1 ∧ h1 = h)) := c_J0_isLatin1_aae02 ho0 ⟨rfl, rfl⟩
theorem dJ0_coder_7d493_0 : decode cJ0_coder_7d493 0 = .ok (.getstatic 38, 3) := by decide +kernel
theorem dJ0_coder_7d493_3 : decode cJ0_coder_7d493 3 = .ok (.ifCond .eq 10, 3) := by decide +kernel
theorem dJ0_coder_7d493_6 : decode cJ0_coder_7d493 6 = .ok (.aload_n 0, 1) := by decide +kernel
theorem dJ0_coder_7d493_7 : decode cJ0_coder_7d493 7 = .ok (.getfield 15, 3) := by decide +kernel
theorem dJ0_coder_7d493_10 : decode cJ0_coder_7d493 10 = .ok (.goto 4, 3) := by decide +kernel
theorem dJ0_coder_7d493_13 : decode cJ0_coder_7d493 13 = .ok (.iconst 1, 1) := by decide +kernel
theorem dJ0_coder_7d493_14 : decode cJ0_coder_7d493 14 = .ok (.ireturn, 1) := by decide +kernel
def J0_coder_7d493 (o0 : Nat) (h : Hp) (Q : Int32 → Hp → Prop) : Prop := Q 0 h
set_option maxHeartbeats 4000000 in
set_option maxRecDepth 20000 in
theorem c_J0_coder_7d493 {G : Gx} {o0 : Nat} (ho0 : o0 < NS)  {h : Hp} {Q : Int32 → Hp → Prop} (hw : J0_coder_7d493 o0 h Q) : Ct yJ0_coder_7d493 cJ0_coder_7d493 1 (some .byte) 1 G [.ref (gSa G o0)] h (QI G Q) := by
  refine ct_go [(0, .ref (gSa G o0))] (plainFor_of_name (by decide)) rfl (Nat.le_of_ble_eq_true rfl) rfl ?_
  refine g_compact dJ0_coder_7d493_0 fj_J0_38 ?_
  refine g_if_eq 13 dJ0_coder_7d493_3 rfl (fun hc => absurd hc (by decide)) (fun _ => ?_)
  refine g_aload_n dJ0_coder_7d493_6 rfl rfl ?_
  refine g_strC dJ0_coder_7d493_7 ho0 fj_J0_15 ?_
  refine g_goto 14 dJ0_coder_7d493_10 rfl ?_
  exact g_zret dJ0_coder_7d493_14 rfl hw
theorem k_J0_coder_7d493 {G : Gx} {o0 : Nat} (ho0 : o0 < NS) {h : Hp} : Ct yJ0_coder_7d493 cJ0_coder_7d493 1 (some .byte) 1 G [.ref (gSa G o0)] h (QI G (fun r h1 => r = 0 ∧ h1 = h)) := c_J0_coder_7d493 ho0 ⟨rfl, rfl⟩
theorem dJ0_length_8abf5_0 : decode cJ0_length_8abf5 0 = .ok (.aload_n 0, 1) := by decide +kernel
theorem dJ0_length_8abf5_1 : decode cJ0_length_8abf5 1 = .ok (.getfield 9, 3) := by decide +kernel
theorem dJ0_length_8abf5_4 : decode cJ0_length_8abf5 4 = .ok (.arraylength, 1) := by decide +kernel
theorem dJ0_length_8abf5_5 : decode cJ0_length_8abf5 5 = .ok (.aload_n 0, 1) := by decide +kernel
theorem dJ0_length_8abf5_6 : decode cJ0_length_8abf5 6 = .ok (.invokevirtual 335, 3) := by decide +kernel
theorem dJ0_length_8abf5_9 : decode cJ0_length_8abf5 9 = .ok (.ishr, 1) := by decide +kernel
theorem dJ0_length_8abf5_10 : decode cJ0_length_8abf5 10 = .ok (.ireturn, 1) := by decide +kernel
theorem fj_J0_9 : Cond.fieldLink RJ0 9 "java/lang/String" "value" "[B" ∈ Wd := mW 2043 (by decide +kernel) rfl
theorem ml_J0_335 : Cond.methodLink RJ0 335 yJ0_coder_7d493 ∈ Wd := mW 483 (by decide +kernel) rfl
theorem mk_J0_coder_7d493 : MokV yJ0_coder_7d493 cJ0_coder_7d493 1 (some .byte) 0 := ⟨⟨mW 16 (by decide +kernel) rfl, mW 486 (by decide +kernel) rfl, ⟨by decide, by decide, by decide +kernel⟩, by decide⟩, mW 484 (by decide +kernel) rfl, mW 485 (by decide +kernel) rfl⟩
def J0_length_8abf5 (o0 : Nat) (h : Hp) (Q : Int32 → Hp → Prop) : Prop := Q ((Int32.ofNat (slen o0)) >>> (0 &&& 31)) h
set_option maxHeartbeats 4000000 in
set_option maxRecDepth 20000 in
theorem c_J0_length_8abf5 {G : Gx} {o0 : Nat} (ho0 : o0 < NS)  {h : Hp} {Q : Int32 → Hp → Prop} (hw : J0_length_8abf5 o0 h Q) : Ct yJ0_length_8abf5 cJ0_length_8abf5 1 (some .int) 2 G [.ref (gSa G o0)] h (QI G Q) := by
  refine ct_go [(0, .ref (gSa G o0))] (plainFor_of_name (by decide)) rfl (Nat.le_of_ble_eq_true rfl) rfl ?_
  refine g_aload_n dJ0_length_8abf5_0 rfl rfl ?_
  refine g_strV dJ0_length_8abf5_1 ho0 fj_J0_9 ?_
  refine g_strL dJ0_length_8abf5_4 ho0 rfl ?_
  refine g_aload_n dJ0_length_8abf5_5 rfl rfl ?_
  refine g_callTI [] dJ0_length_8abf5_6 ml_J0_335 mk_J0_coder_7d493 rfl rfl ho0 (Nat.le_of_ble_eq_true rfl) (Nat.le_of_ble_eq_true rfl) rfl (k_J0_coder_7d493 ho0) (fun r h9 hq => ?_)
  obtain ⟨rfl, rfl⟩ := hq
  refine g_ishr dJ0_length_8abf5_9 ?_
  exact g_iret dJ0_length_8abf5_10 hw
theorem dJ1_canEncode_9a6ad_0 : decode cJ1_canEncode_9a6ad 0 = .ok (.iload_n 0, 1) := by decide +kernel
theorem dJ1_canEncode_9a6ad_1 : decode cJ1_canEncode_9a6ad 1 = .ok (.ifCond .lt 14, 3) := by decide +kernel
theorem dJ1_canEncode_9a6ad_4 : decode cJ1_canEncode_9a6ad 4 = .ok (.iload_n 0, 1) := by decide +kernel
theorem dJ1_canEncode_9a6ad_5 : decode cJ1_canEncode_9a6ad 5 = .ok (.sipush 255, 3) := by decide +kernel
theorem dJ1_canEncode_9a6ad_8 : decode cJ1_canEncode_9a6ad 8 = .ok (.if_icmp .gt 7, 3) := by decide +kernel
theorem dJ1_canEncode_9a6ad_11 : decode cJ1_canEncode_9a6ad 11 = .ok (.iconst 1, 1) := by decide +kernel
theorem dJ1_canEncode_9a6ad_12 : decode cJ1_canEncode_9a6ad 12 = .ok (.goto 4, 3) := by decide +kernel
theorem dJ1_canEncode_9a6ad_15 : decode cJ1_canEncode_9a6ad 15 = .ok (.iconst 0, 1) := by decide +kernel
theorem dJ1_canEncode_9a6ad_16 : decode cJ1_canEncode_9a6ad 16 = .ok (.ireturn, 1) := by decide +kernel
def J1_canEncode_9a6ad (x0 : Int32) (h : Hp) (Q : Int32 → Hp → Prop) : Prop := (x0 < 0 → Q 0 h) ∧ (¬ x0 < 0 → (255 < x0 → Q 0 h) ∧ (¬ 255 < x0 → Q 1 h))
set_option maxHeartbeats 4000000 in
set_option maxRecDepth 20000 in
theorem c_J1_canEncode_9a6ad {G : Gx}  {x0 : Int32} {h : Hp} {Q : Int32 → Hp → Prop} (hw : J1_canEncode_9a6ad x0 h Q) : Ct yJ1_canEncode_9a6ad cJ1_canEncode_9a6ad 1 (some .boolean) 1 G [.int x0] h (QI G Q) := by
  refine ct_go [(0, .int x0)] (plainFor_of_name (by decide)) rfl (Nat.le_of_ble_eq_true rfl) rfl ?_
  refine g_iload_n dJ1_canEncode_9a6ad_0 rfl rfl ?_
  refine g_if_lt 15 dJ1_canEncode_9a6ad_1 rfl (fun hc => ?_) (fun hc => ?_)
  · have hw := hw.1 hc
    refine g_iconst (v := 0) dJ1_canEncode_9a6ad_15 (by decide) ?_
    exact g_zret dJ1_canEncode_9a6ad_16 rfl hw
  · have hw := hw.2 hc
    refine g_iload_n dJ1_canEncode_9a6ad_4 rfl rfl ?_
    refine g_sipush (v := 255) dJ1_canEncode_9a6ad_5 (by decide) ?_
    refine g_icmp_gt 15 dJ1_canEncode_9a6ad_8 rfl (fun hc => ?_) (fun hc => ?_)
    · have hw := hw.1 hc
      refine g_iconst (v := 0) dJ1_canEncode_9a6ad_15 (by decide) ?_
      exact g_zret dJ1_canEncode_9a6ad_16 rfl hw
    · have hw := hw.2 hc
      refine g_iconst (v := 1) dJ1_canEncode_9a6ad_11 (by decide) ?_
      refine g_goto 16 dJ1_canEncode_9a6ad_12 rfl ?_
      exact g_zret dJ1_canEncode_9a6ad_16 rfl hw
theorem dJ1_indexOfChar_4cfef_0 : decode cJ1_indexOfChar_4cfef 0 = .ok (.iload_n 1, 1) := by decide +kernel
theorem dJ1_indexOfChar_4cfef_1 : decode cJ1_indexOfChar_4cfef 1 = .ok (.i2b, 1) := by decide +kernel
theorem dJ1_indexOfChar_4cfef_2 : decode cJ1_indexOfChar_4cfef 2 = .ok (.istore 4, 2) := by decide +kernel
theorem dJ1_indexOfChar_4cfef_4 : decode cJ1_indexOfChar_4cfef 4 = .ok (.iload_n 2, 1) := by decide +kernel
theorem dJ1_indexOfChar_4cfef_5 : decode cJ1_indexOfChar_4cfef 5 = .ok (.istore 5, 2) := by decide +kernel
theorem dJ1_indexOfChar_4cfef_7 : decode cJ1_indexOfChar_4cfef 7 = .ok (.iload 5, 2) := by decide +kernel
theorem dJ1_indexOfChar_4cfef_9 : decode cJ1_indexOfChar_4cfef 9 = .ok (.iload_n 3, 1) := by decide +kernel
theorem dJ1_indexOfChar_4cfef_10 : decode cJ1_indexOfChar_4cfef 10 = .ok (.if_icmp .ge 21, 3) := by decide +kernel
theorem dJ1_indexOfChar_4cfef_13 : decode cJ1_indexOfChar_4cfef 13 = .ok (.aload_n 0, 1) := by decide +kernel
theorem dJ1_indexOfChar_4cfef_14 : decode cJ1_indexOfChar_4cfef 14 = .ok (.iload 5, 2) := by decide +kernel
theorem dJ1_indexOfChar_4cfef_16 : decode cJ1_indexOfChar_4cfef 16 = .ok (.baload, 1) := by decide +kernel
theorem dJ1_indexOfChar_4cfef_17 : decode cJ1_indexOfChar_4cfef 17 = .ok (.iload 4, 2) := by decide +kernel
theorem dJ1_indexOfChar_4cfef_19 : decode cJ1_indexOfChar_4cfef 19 = .ok (.if_icmp .ne 6, 3) := by decide +kernel
theorem dJ1_indexOfChar_4cfef_22 : decode cJ1_indexOfChar_4cfef 22 = .ok (.iload 5, 2) := by decide +kernel
theorem dJ1_indexOfChar_4cfef_24 : decode cJ1_indexOfChar_4cfef 24 = .ok (.ireturn, 1) := by decide +kernel
theorem dJ1_indexOfChar_4cfef_25 : decode cJ1_indexOfChar_4cfef 25 = .ok (.iinc 5 1, 3) := by decide +kernel
theorem dJ1_indexOfChar_4cfef_28 : decode cJ1_indexOfChar_4cfef 28 = .ok (.goto (-21), 3) := by decide +kernel
theorem dJ1_indexOfChar_4cfef_31 : decode cJ1_indexOfChar_4cfef 31 = .ok (.iconst (-1), 1) := by decide +kernel
theorem dJ1_indexOfChar_4cfef_32 : decode cJ1_indexOfChar_4cfef 32 = .ok (.ireturn, 1) := by decide +kernel
def J1_indexOfChar_4cfef_L7 (o0 : Nat) (x3 : Int32) (x4 : Int32) (Q : Int32 → Hp → Prop) : Nat → Int32 → Hp → Prop
  | 0, _, _ => False
  | n + 1, x5, h => (x3 ≤ x5 → Q (-1) h) ∧ (¬ x3 ≤ x5 → vp_in x5 (slen o0) ∧ (¬ (schr o0 (x5).toNatClampNeg) = x4 → ∀ v2 : Int32, v2 = (x5 + 1) → J1_indexOfChar_4cfef_L7 o0 x3 x4 Q n v2 h) ∧ ((schr o0 (x5).toNatClampNeg) = x4 → Q x5 h))
set_option maxHeartbeats 4000000 in
set_option maxRecDepth 20000 in
theorem gl_J1_indexOfChar_4cfef_L7 {G : Gx} {o0 : Nat} (ho0 : o0 < NS) {x3 : Int32} {x4 : Int32} {Q : Int32 → Hp → Prop} : ∀ (n : Nat) (x5 : Int32) (h : Hp), J1_indexOfChar_4cfef_L7 o0 x3 x4 Q n x5 h → Go cJ1_indexOfChar_4cfef 6 RJ1 (some .int) 1 G (QI G Q) 7 [(0, .ref (gSv G o0)), (3, .int x3), (4, .int x4), (5, .int x5)] [] h := by
  intro n
  induction n with
  | zero => intro _ h hw; exact False.elim hw
  | succ n ih =>
    intro x5 h hw
    refine g_iload dJ1_indexOfChar_4cfef_7 rfl ?_
    refine g_iload_n dJ1_indexOfChar_4cfef_9 rfl rfl ?_
    refine g_icmp_ge 31 dJ1_indexOfChar_4cfef_10 rfl (fun hc => ?_) (fun hc => ?_)
    · have hw := hw.1 hc
      refine g_iconst (v := (-1)) dJ1_indexOfChar_4cfef_31 (by decide) ?_
      exact g_iret dJ1_indexOfChar_4cfef_32 hw
    · have hw := hw.2 hc
      refine g_aload_n dJ1_indexOfChar_4cfef_13 rfl rfl ?_
      refine g_iload dJ1_indexOfChar_4cfef_14 rfl ?_
      refine g_strB dJ1_indexOfChar_4cfef_16 ho0 hw.1 ?_
      have hw := hw.2
      refine g_iload dJ1_indexOfChar_4cfef_17 rfl ?_
      refine g_icmp_ne 25 dJ1_indexOfChar_4cfef_19 rfl (fun hc => ?_) (fun hc => ?_)
      · have hw := hw.1 hc
        obtain ⟨v2, ev2⟩ : ∃ y : Int32, y = (x5 + 1) := ⟨_, rfl⟩
        have hw := hw v2 ev2
        refine g_iinc dJ1_indexOfChar_4cfef_25 rfl (by rw [ev2]; rfl) (by decide) (lv1 := [(0, .ref (gSv G o0)), (3, .int x3), (4, .int x4), (5, .int v2)]) rfl ?_
        refine g_goto 7 dJ1_indexOfChar_4cfef_28 rfl ?_
        exact ih _ _ hw
      · have hw := hw.2 hc
        refine g_iload dJ1_indexOfChar_4cfef_22 rfl ?_
        exact g_iret dJ1_indexOfChar_4cfef_24 hw
def J1_indexOfChar_4cfef (o0 : Nat) (x1 : Int32) (x2 : Int32) (x3 : Int32) (h : Hp) (Q : Int32 → Hp → Prop) : Prop := ∀ v1 : Int32, v1 = ((x1).toInt8.toInt32) → ∃ n3, J1_indexOfChar_4cfef_L7 o0 x3 v1 Q n3 x2 h
set_option maxHeartbeats 4000000 in
set_option maxRecDepth 20000 in
theorem c_J1_indexOfChar_4cfef {G : Gx} {o0 : Nat} (ho0 : o0 < NS) {x1 : Int32} {x2 : Int32} {x3 : Int32} {h : Hp} {Q : Int32 → Hp → Prop} (hw : J1_indexOfChar_4cfef o0 x1 x2 x3 h Q) : Ct yJ1_indexOfChar_4cfef cJ1_indexOfChar_4cfef 6 (some .int) 1 G [.ref (gSv G o0), .int x1, .int x2, .int x3] h (QI G Q) := by
  refine ct_go [(0, .ref (gSv G o0)), (1, .int x1), (2, .int x2), (3, .int x3)] (plainFor_of_name (by decide)) rfl (Nat.le_of_ble_eq_true rfl) rfl ?_
  refine g_iload_n dJ1_indexOfChar_4cfef_0 rfl rfl ?_
  refine g_i2b dJ1_indexOfChar_4cfef_1 ?_
  refine g_topi (fun v1 ev1 => ?_)
  have hw := hw v1 ev1
  refine g_istore dJ1_indexOfChar_4cfef_2 (by decide) (lv1 := [(0, .ref (gSv G o0)), (1, .int x1), (2, .int x2), (3, .int x3), (4, .int v1)]) rfl ?_
  refine g_iload_n dJ1_indexOfChar_4cfef_4 rfl rfl ?_
  refine g_istore dJ1_indexOfChar_4cfef_5 (by decide) (lv1 := [(0, .ref (gSv G o0)), (1, .int x1), (2, .int x2), (3, .int x3), (4, .int v1), (5, .int x2)]) rfl ?_
  obtain ⟨n3, hw⟩ := hw
  refine g_lv [0, 3, 4, 5] rfl ?_
  refine gl_J1_indexOfChar_4cfef_L7 ho0  _ _ _ hw
theorem dJ1_indexOf_4cfef_0 : decode cJ1_indexOf_4cfef 0 = .ok (.iload_n 1, 1) := by decide +kernel
theorem dJ1_indexOf_4cfef_1 : decode cJ1_indexOf_4cfef 1 = .ok (.invokestatic 88, 3) := by decide +kernel
theorem dJ1_indexOf_4cfef_4 : decode cJ1_indexOf_4cfef 4 = .ok (.ifCond .ne 5, 3) := by decide +kernel
theorem dJ1_indexOf_4cfef_7 : decode cJ1_indexOf_4cfef 7 = .ok (.iconst (-1), 1) := by decide +kernel
theorem dJ1_indexOf_4cfef_8 : decode cJ1_indexOf_4cfef 8 = .ok (.ireturn, 1) := by decide +kernel
theorem dJ1_indexOf_4cfef_9 : decode cJ1_indexOf_4cfef 9 = .ok (.iload_n 2, 1) := by decide +kernel
theorem dJ1_indexOf_4cfef_10 : decode cJ1_indexOf_4cfef 10 = .ok (.iconst 0, 1) := by decide +kernel
theorem dJ1_indexOf_4cfef_11 : decode cJ1_indexOf_4cfef 11 = .ok (.invokestatic 92, 3) := by decide +kernel
theorem dJ1_indexOf_4cfef_14 : decode cJ1_indexOf_4cfef 14 = .ok (.istore_n 2, 1) := by decide +kernel
theorem dJ1_indexOf_4cfef_15 : decode cJ1_indexOf_4cfef 15 = .ok (.iload_n 3, 1) := by decide +kernel
theorem dJ1_indexOf_4cfef_16 : decode cJ1_indexOf_4cfef 16 = .ok (.aload_n 0, 1) := by decide +kernel
theorem dJ1_indexOf_4cfef_17 : decode cJ1_indexOf_4cfef 17 = .ok (.arraylength, 1) := by decide +kernel
theorem dJ1_indexOf_4cfef_18 : decode cJ1_indexOf_4cfef 18 = .ok (.invokestatic 38, 3) := by decide +kernel
theorem dJ1_indexOf_4cfef_21 : decode cJ1_indexOf_4cfef 21 = .ok (.istore_n 3, 1) := by decide +kernel
theorem dJ1_indexOf_4cfef_22 : decode cJ1_indexOf_4cfef 22 = .ok (.iload_n 2, 1) := by decide +kernel
theorem dJ1_indexOf_4cfef_23 : decode cJ1_indexOf_4cfef 23 = .ok (.iload_n 3, 1) := by decide +kernel
theorem dJ1_indexOf_4cfef_24 : decode cJ1_indexOf_4cfef 24 = .ok (.if_icmp .lt 5, 3) := by decide +kernel
theorem dJ1_indexOf_4cfef_27 : decode cJ1_indexOf_4cfef 27 = .ok (.iconst (-1), 1) := by decide +kernel
theorem dJ1_indexOf_4cfef_28 : decode cJ1_indexOf_4cfef 28 = .ok (.ireturn, 1) := by decide +kernel
theorem dJ1_indexOf_4cfef_29 : decode cJ1_indexOf_4cfef 29 = .ok (.aload_n 0, 1) := by decide +kernel
theorem dJ1_indexOf_4cfef_30 : decode cJ1_indexOf_4cfef 30 = .ok (.iload_n 1, 1) := by decide +kernel
theorem dJ1_indexOf_4cfef_31 : decode cJ1_indexOf_4cfef 31 = .ok (.iload_n 2, 1) := by decide +kernel
theorem dJ1_indexOf_4cfef_32 : decode cJ1_indexOf_4cfef 32 = .ok (.iload_n 3, 1) := by decide +kernel
theorem dJ1_indexOf_4cfef_33 : decode cJ1_indexOf_4cfef 33 = .ok (.invokestatic 95, 3) := by decide +kernel
theorem dJ1_indexOf_4cfef_36 : decode cJ1_indexOf_4cfef 36 = .ok (.ireturn, 1) := by decide +kernel
theorem ml_J1_88 : Cond.methodLink RJ1 88 yJ1_canEncode_9a6ad ∈ Wd := mW 490 (by decide +kernel) rfl
theorem mk_J1_canEncode_9a6ad : MokS yJ1_canEncode_9a6ad cJ1_canEncode_9a6ad 1 (some .boolean) 1 := ⟨⟨mW 17 (by decide +kernel) rfl, mW 492 (by decide +kernel) rfl, ⟨by decide, by decide, by decide +kernel⟩, by decide⟩, mW 491 (by decide +kernel) rfl⟩
theorem ml_J1_92 : Cond.methodLink RJ1 92 yJ9_max_7cf53 ∈ Wd := mW 493 (by decide +kernel) rfl
theorem mk_J9_max_7cf53 : MokS yJ9_max_7cf53 cJ9_max_7cf53 2 (some .int) 2 := ⟨⟨mW 15 (by decide +kernel) rfl, mW 453 (by decide +kernel) rfl, ⟨by decide, by decide, by decide +kernel⟩, by decide⟩, mW 452 (by decide +kernel) rfl⟩
theorem ml_J1_38 : Cond.methodLink RJ1 38 yJ9_min_7cf53 ∈ Wd := mW 494 (by decide +kernel) rfl
theorem mk_J9_min_7cf53 : MokS yJ9_min_7cf53 cJ9_min_7cf53 2 (some .int) 2 := ⟨⟨mW 15 (by decide +kernel) rfl, mW 450 (by decide +kernel) rfl, ⟨by decide, by decide, by decide +kernel⟩, by decide⟩, mW 449 (by decide +kernel) rfl⟩
theorem ml_J1_95 : Cond.methodLink RJ1 95 yJ1_indexOfChar_4cfef ∈ Wd := mW 495 (by decide +kernel) rfl
theorem mk_J1_indexOfChar_4cfef : MokS yJ1_indexOfChar_4cfef cJ1_indexOfChar_4cfef 6 (some .int) 4 := ⟨⟨mW 17 (by decide +kernel) rfl, mW 497 (by decide +kernel) rfl, ⟨by decide, by decide, by decide +kernel⟩, by decide⟩, mW 496 (by decide +kernel) rfl⟩
def J1_indexOf_4cfef (o0 : Nat) (x1 : Int32) (x2 : Int32) (x3 : Int32) (h : Hp) (Q : Int32 → Hp → Prop) : Prop := J1_canEncode_9a6ad x1 h (fun r1 h2 => (¬ r1 = 0 → J9_max_7cf53 x2 0 h2 (fun r3 h4 => J9_min_7cf53 x3 (Int32.ofNat (slen o0)) h4 (fun r5 h6 => (r3 < r5 → J1_indexOfChar_4cfef o0 x1 r3 r5 h6 (fun r7 h8 => Q r7 h8)) ∧ (¬ r3 < r5 → Q (-1) h6)))) ∧ (r1 = 0 → Q (-1) h2))
set_option maxHeartbeats 4000000 in
set_option maxRecDepth 20000 in
theorem c_J1_indexOf_4cfef {G : Gx} {o0 : Nat} (ho0 : o0 < NS) {x1 : Int32} {x2 : Int32} {x3 : Int32} {h : Hp} {Q : Int32 → Hp → Prop} (hw : J1_indexOf_4cfef o0 x1 x2 x3 h Q) : Ct yJ1_indexOf_4cfef cJ1_indexOf_4cfef 4 (some .int) 2 G [.ref (gSv G o0), .int x1, .int x2, .int x3] h (QI G Q) := by
  refine ct_go [(0, .ref (gSv G o0)), (1, .int x1), (2, .int x2), (3, .int x3)] (plainFor_of_name (by decide)) rfl (Nat.le_of_ble_eq_true rfl) rfl ?_
  refine g_iload_n dJ1_indexOf_4cfef_0 rfl rfl ?_
  refine g_callSI [.int x1] dJ1_indexOf_4cfef_1 ml_J1_88 mk_J1_canEncode_9a6ad rfl (Nat.le_of_ble_eq_true rfl) (Nat.le_of_ble_eq_true rfl) rfl (c_J1_canEncode_9a6ad hw) (fun r1 h2 hw => ?_)
  refine g_if_ne 9 dJ1_indexOf_4cfef_4 rfl (fun hc => ?_) (fun hc => ?_)
  · have hw := hw.1 hc
    refine g_iload_n dJ1_indexOf_4cfef_9 rfl rfl ?_
    refine g_iconst (v := 0) dJ1_indexOf_4cfef_10 (by decide) ?_
    refine g_callSI [.int x2, .int 0] dJ1_indexOf_4cfef_11 ml_J1_92 mk_J9_max_7cf53 rfl (Nat.le_of_ble_eq_true rfl) (Nat.le_of_ble_eq_true rfl) rfl (c_J9_max_7cf53 hw) (fun r3 h4 hw => ?_)
    refine g_istore_n dJ1_indexOf_4cfef_14 rfl (by decide) (lv1 := [(0, .ref (gSv G o0)), (1, .int x1), (2, .int r3), (3, .int x3)]) rfl ?_
    refine g_iload_n dJ1_indexOf_4cfef_15 rfl rfl ?_
    refine g_aload_n dJ1_indexOf_4cfef_16 rfl rfl ?_
    refine g_strL dJ1_indexOf_4cfef_17 ho0 rfl ?_
    refine g_callSI [.int x3, .int (Int32.ofNat (slen o0))] dJ1_indexOf_4cfef_18 ml_J1_38 mk_J9_min_7cf53 rfl (Nat.le_of_ble_eq_true rfl) (Nat.le_of_ble_eq_true rfl) rfl (c_J9_min_7cf53 hw) (fun r5 h6 hw => ?_)
    refine g_istore_n dJ1_indexOf_4cfef_21 rfl (by decide) (lv1 := [(0, .ref (gSv G o0)), (1, .int x1), (2, .int r3), (3, .int r5)]) rfl ?_
    refine g_iload_n dJ1_indexOf_4cfef_22 rfl rfl ?_
    refine g_iload_n dJ1_indexOf_4cfef_23 rfl rfl ?_
    refine g_icmp_lt 29 dJ1_indexOf_4cfef_24 rfl (fun hc => ?_) (fun hc => ?_)
    · have hw := hw.1 hc
      refine g_aload_n dJ1_indexOf_4cfef_29 rfl rfl ?_
      refine g_iload_n dJ1_indexOf_4cfef_30 rfl rfl ?_
      refine g_iload_n dJ1_indexOf_4cfef_31 rfl rfl ?_
      refine g_iload_n dJ1_indexOf_4cfef_32 rfl rfl ?_
      refine g_callSI [.ref (gSv G o0), .int x1, .int r3, .int r5] dJ1_indexOf_4cfef_33 ml_J1_95 mk_J1_indexOfChar_4cfef rfl (Nat.le_of_ble_eq_true rfl) (Nat.le_of_ble_eq_true rfl) rfl (c_J1_indexOfChar_4cfef ho0 hw) (fun r7 h8 hw => ?_)
      exact g_iret dJ1_indexOf_4cfef_36 hw
    · have hw := hw.2 hc
      refine g_iconst (v := (-1)) dJ1_indexOf_4cfef_27 (by decide) ?_
      exact g_iret dJ1_indexOf_4cfef_28 hw
  · have hw := hw.2 hc
    refine g_iconst (v := (-1)) dJ1_indexOf_4cfef_7 (by decide) ?_
    exact g_iret dJ1_indexOf_4cfef_8 hw
theorem dJ0_indexOf_7cf53_0 : decode cJ0_indexOf_7cf53 0 = .ok (.aload_n 0, 1) := by decide +kernel
theorem dJ0_indexOf_7cf53_1 : decode cJ0_indexOf_7cf53 1 = .ok (.invokevirtual 492, 3) := by decide +kernel
theorem dJ0_indexOf_7cf53_4 : decode cJ0_indexOf_7cf53 4 = .ok (.ifCond .eq 19, 3) := by decide +kernel
theorem dJ0_indexOf_7cf53_7 : decode cJ0_indexOf_7cf53 7 = .ok (.aload_n 0, 1) := by decide +kernel
theorem dJ0_indexOf_7cf53_8 : decode cJ0_indexOf_7cf53 8 = .ok (.getfield 9, 3) := by decide +kernel
theorem dJ0_indexOf_7cf53_11 : decode cJ0_indexOf_7cf53 11 = .ok (.iload_n 1, 1) := by decide +kernel
theorem dJ0_indexOf_7cf53_12 : decode cJ0_indexOf_7cf53 12 = .ok (.iload_n 2, 1) := by decide +kernel
theorem dJ0_indexOf_7cf53_13 : decode cJ0_indexOf_7cf53 13 = .ok (.aload_n 0, 1) := by decide +kernel
theorem dJ0_indexOf_7cf53_14 : decode cJ0_indexOf_7cf53 14 = .ok (.invokevirtual 505, 3) := by decide +kernel
theorem dJ0_indexOf_7cf53_17 : decode cJ0_indexOf_7cf53 17 = .ok (.invokestatic 637, 3) := by decide +kernel
theorem dJ0_indexOf_7cf53_20 : decode cJ0_indexOf_7cf53 20 = .ok (.goto 16, 3) := by decide +kernel
theorem dJ0_indexOf_7cf53_23 : decode cJ0_indexOf_7cf53 23 = .ok (.aload_n 0, 1) := by decide +kernel
theorem dJ0_indexOf_7cf53_24 : decode cJ0_indexOf_7cf53 24 = .ok (.getfield 9, 3) := by decide +kernel
theorem dJ0_indexOf_7cf53_27 : decode cJ0_indexOf_7cf53 27 = .ok (.iload_n 1, 1) := by decide +kernel
theorem dJ0_indexOf_7cf53_28 : decode cJ0_indexOf_7cf53 28 = .ok (.iload_n 2, 1) := by decide +kernel
theorem dJ0_indexOf_7cf53_29 : decode cJ0_indexOf_7cf53 29 = .ok (.aload_n 0, 1) := by decide +kernel
theorem dJ0_indexOf_7cf53_30 : decode cJ0_indexOf_7cf53 30 = .ok (.invokevirtual 505, 3) := by decide +kernel
theorem dJ0_indexOf_7cf53_33 : decode cJ0_indexOf_7cf53 33 = .ok (.invokestatic 640, 3) := by decide +kernel
theorem dJ0_indexOf_7cf53_36 : decode cJ0_indexOf_7cf53 36 = .ok (.ireturn, 1) := by decide +kernel
theorem ml_J0_492 : Cond.methodLink RJ0 492 yJ0_isLatin1_aae02 ∈ Wd := mW 473 (by decide +kernel) rfl
theorem mk_J0_isLatin1_aae02 : MokV yJ0_isLatin1_aae02 cJ0_isLatin1_aae02 1 (some .boolean) 0 := ⟨⟨mW 16 (by decide +kernel) rfl, mW 476 (by decide +kernel) rfl, ⟨by decide, by decide, by decide +kernel⟩, by decide⟩, mW 474 (by decide +kernel) rfl, mW 475 (by decide +kernel) rfl⟩
theorem ml_J0_505 : Cond.methodLink RJ0 505 yJ0_length_8abf5 ∈ Wd := mW 479 (by decide +kernel) rfl
theorem mk_J0_length_8abf5 : MokV yJ0_length_8abf5 cJ0_length_8abf5 1 (some .int) 0 := ⟨⟨mW 16 (by decide +kernel) rfl, mW 482 (by decide +kernel) rfl, ⟨by decide, by decide, by decide +kernel⟩, by decide⟩, mW 480 (by decide +kernel) rfl, mW 481 (by decide +kernel) rfl⟩
theorem ml_J0_637 : Cond.methodLink RJ0 637 yJ1_indexOf_4cfef ∈ Wd := mW 487 (by decide +kernel) rfl
theorem mk_J1_indexOf_4cfef : MokS yJ1_indexOf_4cfef cJ1_indexOf_4cfef 4 (some .int) 4 := ⟨⟨mW 17 (by decide +kernel) rfl, mW 489 (by decide +kernel) rfl, ⟨by decide, by decide, by decide +kernel⟩, by decide⟩, mW 488 (by decide +kernel) rfl⟩
def J0_indexOf_7cf53 (o0 : Nat) (x1 : Int32) (x2 : Int32) (h : Hp) (Q : Int32 → Hp → Prop) : Prop := J0_length_8abf5 o0 h (fun r3 h4 => J1_indexOf_4cfef o0 x1 x2 r3 h4 (fun r5 h6 => Q r5 h6))
set_option maxHeartbeats 4000000 in
set_option maxRecDepth 20000 in
theorem c_J0_indexOf_7cf53 {G : Gx} {o0 : Nat} (ho0 : o0 < NS) {x1 : Int32} {x2 : Int32} {h : Hp} {Q : Int32 → Hp → Prop} (hw : J0_indexOf_7cf53 o0 x1 x2 h Q) : Ct yJ0_indexOf_7cf53 cJ0_indexOf_7cf53 3 (some .int) 6 G [.ref (gSa G o0), .int x1, .int x2] h (QI G Q) := by
  refine ct_go [(0, .ref (gSa G o0)), (1, .int x1), (2, .int x2)] (plainFor_of_name (by decide)) rfl (Nat.le_of_ble_eq_true rfl) rfl ?_
  refine g_aload_n dJ0_indexOf_7cf53_0 rfl rfl ?_
  refine g_callTI [] dJ0_indexOf_7cf53_1 ml_J0_492 mk_J0_isLatin1_aae02 rfl rfl ho0 (Nat.le_of_ble_eq_true rfl) (Nat.le_of_ble_eq_true rfl) rfl (k_J0_isLatin1_aae02 ho0) (fun r h9 hq => ?_)
  obtain ⟨rfl, rfl⟩ := hq
  refine g_if_eq 23 dJ0_indexOf_7cf53_4 rfl (fun hc => absurd hc (by decide)) (fun _ => ?_)
  refine g_aload_n dJ0_indexOf_7cf53_7 rfl rfl ?_
  refine g_strV dJ0_indexOf_7cf53_8 ho0 fj_J0_9 ?_
  refine g_iload_n dJ0_indexOf_7cf53_11 rfl rfl ?_
  refine g_iload_n dJ0_indexOf_7cf53_12 rfl rfl ?_
  refine g_aload_n dJ0_indexOf_7cf53_13 rfl rfl ?_
  refine g_callTI [] dJ0_indexOf_7cf53_14 ml_J0_505 mk_J0_length_8abf5 rfl rfl ho0 (Nat.le_of_ble_eq_true rfl) (Nat.le_of_ble_eq_true rfl) rfl (c_J0_length_8abf5 ho0 hw) (fun r3 h4 hw => ?_)
  refine g_callSI [.ref (gSv G o0), .int x1, .int x2, .int r3] dJ0_indexOf_7cf53_17 ml_J0_637 mk_J1_indexOf_4cfef rfl (Nat.le_of_ble_eq_true rfl) (Nat.le_of_ble_eq_true rfl) rfl (c_J1_indexOf_4cfef ho0 hw) (fun r5 h6 hw => ?_)
  refine g_goto 36 dJ0_indexOf_7cf53_20 rfl ?_
  exact g_iret dJ0_indexOf_7cf53_36 hw
theorem dJ0_indexOf_0f7a4_0 : decode cJ0_indexOf_0f7a4 0 = .ok (.aload_n 0, 1) := by decide +kernel
theorem dJ0_indexOf_0f7a4_1 : decode cJ0_indexOf_0f7a4 1 = .ok (.iload_n 1, 1) := by decide +kernel
theorem dJ0_indexOf_0f7a4_2 : decode cJ0_indexOf_0f7a4 2 = .ok (.iconst 0, 1) := by decide +kernel
theorem dJ0_indexOf_0f7a4_3 : decode cJ0_indexOf_0f7a4 3 = .ok (.invokevirtual 633, 3) := by decide +kernel
theorem dJ0_indexOf_0f7a4_6 : decode cJ0_indexOf_0f7a4 6 = .ok (.ireturn, 1) := by decide +kernel
theorem ml_J0_633 : Cond.methodLink RJ0 633 yJ0_indexOf_7cf53 ∈ Wd := mW 469 (by decide +kernel) rfl
theorem mk_J0_indexOf_7cf53 : MokV yJ0_indexOf_7cf53 cJ0_indexOf_7cf53 3 (some .int) 2 := ⟨⟨mW 16 (by decide +kernel) rfl, mW 472 (by decide +kernel) rfl, ⟨by decide, by decide, by decide +kernel⟩, by decide⟩, mW 470 (by decide +kernel) rfl, mW 471 (by decide +kernel) rfl⟩
def J0_indexOf_0f7a4 (o0 : Nat) (x1 : Int32) (h : Hp) (Q : Int32 → Hp → Prop) : Prop := J0_indexOf_7cf53 o0 x1 0 h (fun r1 h2 => Q r1 h2)
set_option maxHeartbeats 4000000 in
set_option maxRecDepth 20000 in
theorem c_J0_indexOf_0f7a4 {G : Gx} {o0 : Nat} (ho0 : o0 < NS) {x1 : Int32} {h : Hp} {Q : Int32 → Hp → Prop} (hw : J0_indexOf_0f7a4 o0 x1 h Q) : Ct yJ0_indexOf_0f7a4 cJ0_indexOf_0f7a4 2 (some .int) 7 G [.ref (gSa G o0), .int x1] h (QI G Q) := by
  refine ct_go [(0, .ref (gSa G o0)), (1, .int x1)] (plainFor_of_name (by decide)) rfl (Nat.le_of_ble_eq_true rfl) rfl ?_
  refine g_aload_n dJ0_indexOf_0f7a4_0 rfl rfl ?_
  refine g_iload_n dJ0_indexOf_0f7a4_1 rfl rfl ?_
  refine g_iconst (v := 0) dJ0_indexOf_0f7a4_2 (by decide) ?_
  refine g_callTI [.int x1, .int 0] dJ0_indexOf_0f7a4_3 ml_J0_633 mk_J0_indexOf_7cf53 rfl rfl ho0 (Nat.le_of_ble_eq_true rfl) (Nat.le_of_ble_eq_true rfl) rfl (c_J0_indexOf_7cf53 ho0 hw) (fun r1 h2 hw => ?_)
  exact g_iret dJ0_indexOf_0f7a4_6 hw
theorem dJ3_checkIndex_8e157_0 : decode cJ3_checkIndex_8e157 0 = .ok (.iload_n 0, 1) := by decide +kernel
theorem dJ3_checkIndex_8e157_1 : decode cJ3_checkIndex_8e157 1 = .ok (.ifCond .lt 8, 3) := by decide +kernel
theorem dJ3_checkIndex_8e157_4 : decode cJ3_checkIndex_8e157 4 = .ok (.iload_n 0, 1) := by decide +kernel
theorem dJ3_checkIndex_8e157_5 : decode cJ3_checkIndex_8e157 5 = .ok (.iload_n 1, 1) := by decide +kernel
theorem dJ3_checkIndex_8e157_6 : decode cJ3_checkIndex_8e157 6 = .ok (.if_icmp .lt 10, 3) := by decide +kernel
theorem dJ3_checkIndex_8e157_9 : decode cJ3_checkIndex_8e157 9 = .ok (.aload_n 2, 1) := by decide +kernel
theorem dJ3_checkIndex_8e157_10 : decode cJ3_checkIndex_8e157 10 = .ok (.iload_n 0, 1) := by decide +kernel
theorem dJ3_checkIndex_8e157_11 : decode cJ3_checkIndex_8e157 11 = .ok (.iload_n 1, 1) := by decide +kernel
theorem dJ3_checkIndex_8e157_12 : decode cJ3_checkIndex_8e157 12 = .ok (.invokestatic 95, 3) := by decide +kernel
theorem dJ3_checkIndex_8e157_15 : decode cJ3_checkIndex_8e157 15 = .ok (.athrow, 1) := by decide +kernel
theorem dJ3_checkIndex_8e157_16 : decode cJ3_checkIndex_8e157 16 = .ok (.iload_n 0, 1) := by decide +kernel
theorem dJ3_checkIndex_8e157_17 : decode cJ3_checkIndex_8e157 17 = .ok (.ireturn, 1) := by decide +kernel
def J3_checkIndex_8e157_n (x0 : Int32) (x1 : Int32) (h : Hp) (Q : Int32 → Hp → Prop) : Prop := ∀ J9 : Hp → Prop, J9 = (fun h1 => False) → (x0 < 0 → J9 h) ∧ (¬ x0 < 0 → (x0 < x1 → Q x0 h) ∧ (¬ x0 < x1 → J9 h))
set_option maxHeartbeats 4000000 in
set_option maxRecDepth 20000 in
theorem c_J3_checkIndex_8e157_n {G : Gx}  {x0 : Int32} {x1 : Int32} {h : Hp} {Q : Int32 → Hp → Prop} (hw : J3_checkIndex_8e157_n x0 x1 h Q) : Ct yJ3_checkIndex_8e157 cJ3_checkIndex_8e157 3 (some .int) 1 G [.int x0, .int x1, .null] h (QI G Q) := by
  refine ct_go [(0, .int x0), (1, .int x1), (2, .null)] (plainFor_of_name (by decide)) rfl (Nat.le_of_ble_eq_true rfl) rfl ?_
  refine g_iload_n dJ3_checkIndex_8e157_0 rfl rfl ?_
  refine jn_el hw (fun J9 eJ9 hw => ?_)
  have hJ9 : ∀ (h1 : Hp), J9 h1 → Go cJ3_checkIndex_8e157 3 RJ3 (some .int) 1 G (QI G Q) 9 [(0, .int x0), (1, .int x1), (2, .null)] [] h1 := by
    intro h1 hw
    subst eJ9
    exact False.elim hw
  refine g_if_lt 9 dJ3_checkIndex_8e157_1 rfl (fun hc => ?_) (fun hc => ?_)
  · have hw := hw.1 hc
    exact hJ9 _ hw
  · have hw := hw.2 hc
    refine g_iload_n dJ3_checkIndex_8e157_4 rfl rfl ?_
    refine g_iload_n dJ3_checkIndex_8e157_5 rfl rfl ?_
    refine g_icmp_lt 16 dJ3_checkIndex_8e157_6 rfl (fun hc => ?_) (fun hc => ?_)
    · have hw := hw.1 hc
      refine g_iload_n dJ3_checkIndex_8e157_16 rfl rfl ?_
      exact g_iret dJ3_checkIndex_8e157_17 hw
    · have hw := hw.2 hc
      exact hJ9 _ hw
def J3_checkIndex_8e157_r (x0 : Int32) (x1 : Int32) (h : Hp) (Q : Int32 → Hp → Prop) : Prop := ∀ J9 : Hp → Prop, J9 = (fun h1 => False) → (x0 < 0 → J9 h) ∧ (¬ x0 < 0 → (x0 < x1 → Q x0 h) ∧ (¬ x0 < x1 → J9 h))
set_option maxHeartbeats 4000000 in
set_option maxRecDepth 20000 in
theorem c_J3_checkIndex_8e157_r {G : Gx}  {x0 : Int32} {x1 : Int32} {o2 : Nat} {h : Hp} {Q : Int32 → Hp → Prop} (hw : J3_checkIndex_8e157_r x0 x1 h Q) : Ct yJ3_checkIndex_8e157 cJ3_checkIndex_8e157 3 (some .int) 1 G [.int x0, .int x1, .ref o2] h (QI G Q) := by
  refine ct_go [(0, .int x0), (1, .int x1), (2, .ref o2)] (plainFor_of_name (by decide)) rfl (Nat.le_of_ble_eq_true rfl) rfl ?_
  refine g_iload_n dJ3_checkIndex_8e157_0 rfl rfl ?_
  refine jn_el hw (fun J9 eJ9 hw => ?_)
  have hJ9 : ∀ (h1 : Hp), J9 h1 → Go cJ3_checkIndex_8e157 3 RJ3 (some .int) 1 G (QI G Q) 9 [(0, .int x0), (1, .int x1), (2, .ref o2)] [] h1 := by
    intro h1 hw
    subst eJ9
    exact False.elim hw
  refine g_if_lt 9 dJ3_checkIndex_8e157_1 rfl (fun hc => ?_) (fun hc => ?_)
  · have hw := hw.1 hc
    exact hJ9 _ hw
  · have hw := hw.2 hc
    refine g_iload_n dJ3_checkIndex_8e157_4 rfl rfl ?_
    refine g_iload_n dJ3_checkIndex_8e157_5 rfl rfl ?_
    refine g_icmp_lt 16 dJ3_checkIndex_8e157_6 rfl (fun hc => ?_) (fun hc => ?_)
    · have hw := hw.1 hc
      refine g_iload_n dJ3_checkIndex_8e157_16 rfl rfl ?_
      exact g_iret dJ3_checkIndex_8e157_17 hw
    · have hw := hw.2 hc
      exact hJ9 _ hw
theorem dJ0_checkIndex_df160_0 : decode cJ0_checkIndex_df160 0 = .ok (.iload_n 0, 1) := by decide +kernel
theorem dJ0_checkIndex_df160_1 : decode cJ0_checkIndex_df160 1 = .ok (.iload_n 1, 1) := by decide +kernel
theorem dJ0_checkIndex_df160_2 : decode cJ0_checkIndex_df160 2 = .ok (.getstatic 1053, 3) := by decide +kernel
theorem dJ0_checkIndex_df160_5 : decode cJ0_checkIndex_df160 5 = .ok (.invokestatic 1059, 3) := by decide +kernel
theorem dJ0_checkIndex_df160_8 : decode cJ0_checkIndex_df160 8 = .ok (.pop, 1) := by decide +kernel
theorem dJ0_checkIndex_df160_9 : decode cJ0_checkIndex_df160 9 = .ok (.return_, 1) := by decide +kernel
theorem fj_J0_1053 : Cond.fieldLink RJ0 1053 "jdk/internal/util/Preconditions" "SIOOBE_FORMATTER" "Ljava/util/function/BiFunction;" ∈ Wd := mW 516 (by decide +kernel) rfl
theorem ml_J0_1059 : Cond.methodLink RJ0 1059 yJ3_checkIndex_8e157 ∈ Wd := mW 567 (by decide +kernel) rfl
theorem mk_J3_checkIndex_8e157 : MokS yJ3_checkIndex_8e157 cJ3_checkIndex_8e157 3 (some .int) 3 := ⟨⟨mW 19 (by decide +kernel) rfl, mW 569 (by decide +kernel) rfl, ⟨by decide, by decide, by decide +kernel⟩, by decide⟩, mW 568 (by decide +kernel) rfl⟩
def J0_checkIndex_df160 (x0 : Int32) (x1 : Int32) (h : Hp) (Q : Hp → Prop) : Prop := (J3_checkIndex_8e157_n x0 x1 h (fun r2 h3 => Q h3)) ∧ (J3_checkIndex_8e157_r x0 x1 h (fun r4 h5 => Q h5))
set_option maxHeartbeats 4000000 in
set_option maxRecDepth 20000 in
theorem c_J0_checkIndex_df160 {G : Gx}  {x0 : Int32} {x1 : Int32} {h : Hp} {Q : Hp → Prop} (hw : J0_checkIndex_df160 x0 x1 h Q) : Ct yJ0_checkIndex_df160 cJ0_checkIndex_df160 2 none 2 G [.int x0, .int x1] h (QV G Q) := by
  refine ct_go [(0, .int x0), (1, .int x1)] (plainFor_of_name (by decide)) rfl (Nat.le_of_ble_eq_true rfl) rfl ?_
  refine g_iload_n dJ0_checkIndex_df160_0 rfl rfl ?_
  refine g_iload_n dJ0_checkIndex_df160_1 rfl rfl ?_
  refine g_getsV dJ0_checkIndex_df160_2 fj_J0_1053 ?_ (fun t1 => ?_)
  · have hw := hw.1
    refine g_callSI [.int x0, .int x1, .null] dJ0_checkIndex_df160_5 ml_J0_1059 mk_J3_checkIndex_8e157 rfl (Nat.le_of_ble_eq_true rfl) (Nat.le_of_ble_eq_true rfl) rfl (c_J3_checkIndex_8e157_n hw) (fun r2 h3 hw => ?_)
    refine g_pop dJ0_checkIndex_df160_8 rfl ?_
    exact g_vret dJ0_checkIndex_df160_9 hw
  · have hw := hw.2
    refine g_callSI [.int x0, .int x1, .ref t1] dJ0_checkIndex_df160_5 ml_J0_1059 mk_J3_checkIndex_8e157 rfl (Nat.le_of_ble_eq_true rfl) (Nat.le_of_ble_eq_true rfl) rfl (c_J3_checkIndex_8e157_r hw) (fun r4 h5 hw => ?_)
    refine g_pop dJ0_checkIndex_df160_8 rfl ?_
    exact g_vret dJ0_checkIndex_df160_9 hw
theorem dJ1_charAt_3b067_0 : decode cJ1_charAt_3b067 0 = .ok (.iload_n 1, 1) := by decide +kernel
theorem dJ1_charAt_3b067_1 : decode cJ1_charAt_3b067 1 = .ok (.aload_n 0, 1) := by decide +kernel
theorem dJ1_charAt_3b067_2 : decode cJ1_charAt_3b067 2 = .ok (.arraylength, 1) := by decide +kernel
theorem dJ1_charAt_3b067_3 : decode cJ1_charAt_3b067 3 = .ok (.invokestatic 9, 3) := by decide +kernel
theorem dJ1_charAt_3b067_6 : decode cJ1_charAt_3b067 6 = .ok (.aload_n 0, 1) := by decide +kernel
theorem dJ1_charAt_3b067_7 : decode cJ1_charAt_3b067 7 = .ok (.iload_n 1, 1) := by decide +kernel
theorem dJ1_charAt_3b067_8 : decode cJ1_charAt_3b067 8 = .ok (.baload, 1) := by decide +kernel
theorem dJ1_charAt_3b067_9 : decode cJ1_charAt_3b067 9 = .ok (.sipush 255, 3) := by decide +kernel
theorem dJ1_charAt_3b067_12 : decode cJ1_charAt_3b067 12 = .ok (.iand, 1) := by decide +kernel
theorem dJ1_charAt_3b067_13 : decode cJ1_charAt_3b067 13 = .ok (.i2c, 1) := by decide +kernel
theorem dJ1_charAt_3b067_14 : decode cJ1_charAt_3b067 14 = .ok (.ireturn, 1) := by decide +kernel
theorem ml_J1_9 : Cond.methodLink RJ1 9 yJ0_checkIndex_df160 ∈ Wd := mW 564 (by decide +kernel) rfl
theorem mk_J0_checkIndex_df160 : MokS yJ0_checkIndex_df160 cJ0_checkIndex_df160 2 none 2 := ⟨⟨mW 16 (by decide +kernel) rfl, mW 566 (by decide +kernel) rfl, ⟨by decide, by decide, by decide +kernel⟩, by decide⟩, mW 565 (by decide +kernel) rfl⟩
def J1_charAt_3b067 (o0 : Nat) (x1 : Int32) (h : Hp) (Q : Int32 → Hp → Prop) : Prop := J0_checkIndex_df160 x1 (Int32.ofNat (slen o0)) h (fun h1 => vp_in x1 (slen o0) ∧ Q (((((schr o0 (x1).toNatClampNeg) &&& 255)).toUInt32 % 65536).toInt32) h1)
set_option maxHeartbeats 4000000 in
set_option maxRecDepth 20000 in
theorem c_J1_charAt_3b067 {G : Gx} {o0 : Nat} (ho0 : o0 < NS) {x1 : Int32} {h : Hp} {Q : Int32 → Hp → Prop} (hw : J1_charAt_3b067 o0 x1 h Q) : Ct yJ1_charAt_3b067 cJ1_charAt_3b067 2 (some .char) 3 G [.ref (gSv G o0), .int x1] h (QI G Q) := by
  refine ct_go [(0, .ref (gSv G o0)), (1, .int x1)] (plainFor_of_name (by decide)) rfl (Nat.le_of_ble_eq_true rfl) rfl ?_
  refine g_iload_n dJ1_charAt_3b067_0 rfl rfl ?_
  refine g_aload_n dJ1_charAt_3b067_1 rfl rfl ?_
  refine g_strL dJ1_charAt_3b067_2 ho0 rfl ?_
  refine g_callSV [.int x1, .int (Int32.ofNat (slen o0))] dJ1_charAt_3b067_3 ml_J1_9 mk_J0_checkIndex_df160 rfl (Nat.le_of_ble_eq_true rfl) (Nat.le_of_ble_eq_true rfl) rfl (c_J0_checkIndex_df160 hw) (fun h1 hw => ?_)
  refine g_aload_n dJ1_charAt_3b067_6 rfl rfl ?_
  refine g_iload_n dJ1_charAt_3b067_7 rfl rfl ?_
  refine g_strB dJ1_charAt_3b067_8 ho0 hw.1 ?_
  have hw := hw.2
  refine g_sipush (v := 255) dJ1_charAt_3b067_9 (by decide) ?_
  refine g_iand dJ1_charAt_3b067_12 ?_
  refine g_i2c dJ1_charAt_3b067_13 ?_
  exact g_zret dJ1_charAt_3b067_14 (pk_nc _) hw
theorem dJ0_charAt_5068e_0 : decode cJ0_charAt_5068e 0 = .ok (.aload_n 0, 1) := by decide +kernel
theorem dJ0_charAt_5068e_1 : decode cJ0_charAt_5068e 1 = .ok (.invokevirtual 492, 3) := by decide +kernel
theorem dJ0_charAt_5068e_4 : decode cJ0_charAt_5068e 4 = .ok (.ifCond .eq 12, 3) := by decide +kernel
theorem dJ0_charAt_5068e_7 : decode cJ0_charAt_5068e 7 = .ok (.aload_n 0, 1) := by decide +kernel
theorem dJ0_charAt_5068e_8 : decode cJ0_charAt_5068e 8 = .ok (.getfield 9, 3) := by decide +kernel
theorem dJ0_charAt_5068e_11 : decode cJ0_charAt_5068e 11 = .ok (.iload_n 1, 1) := by decide +kernel
theorem dJ0_charAt_5068e_12 : decode cJ0_charAt_5068e 12 = .ok (.invokestatic 495, 3) := by decide +kernel
theorem dJ0_charAt_5068e_15 : decode cJ0_charAt_5068e 15 = .ok (.ireturn, 1) := by decide +kernel
theorem dJ0_charAt_5068e_16 : decode cJ0_charAt_5068e 16 = .ok (.aload_n 0, 1) := by decide +kernel
theorem dJ0_charAt_5068e_17 : decode cJ0_charAt_5068e 17 = .ok (.getfield 9, 3) := by decide +kernel
theorem dJ0_charAt_5068e_20 : decode cJ0_charAt_5068e 20 = .ok (.iload_n 1, 1) := by decide +kernel
theorem dJ0_charAt_5068e_21 : decode cJ0_charAt_5068e 21 = .ok (.invokestatic 498, 3) := by decide +kernel
theorem dJ0_charAt_5068e_24 : decode cJ0_charAt_5068e 24 = .ok (.ireturn, 1) := by decide +kernel
theorem ml_J0_495 : Cond.methodLink RJ0 495 yJ1_charAt_3b067 ∈ Wd := mW 561 (by decide +kernel) rfl
theorem mk_J1_charAt_3b067 : MokS yJ1_charAt_3b067 cJ1_charAt_3b067 2 (some .char) 2 := ⟨⟨mW 17 (by decide +kernel) rfl, mW 563 (by decide +kernel) rfl, ⟨by decide, by decide, by decide +kernel⟩, by decide⟩, mW 562 (by decide +kernel) rfl⟩
def J0_charAt_5068e (o0 : Nat) (x1 : Int32) (h : Hp) (Q : Int32 → Hp → Prop) : Prop := J1_charAt_3b067 o0 x1 h (fun r3 h4 => narrow .char (.int r3) = .int r3 ∧ Q r3 h4)
set_option maxHeartbeats 4000000 in
set_option maxRecDepth 20000 in
theorem c_J0_charAt_5068e {G : Gx} {o0 : Nat} (ho0 : o0 < NS) {x1 : Int32} {h : Hp} {Q : Int32 → Hp → Prop} (hw : J0_charAt_5068e o0 x1 h Q) : Ct yJ0_charAt_5068e cJ0_charAt_5068e 2 (some .char) 5 G [.ref (gSa G o0), .int x1] h (QI G Q) := by
  refine ct_go [(0, .ref (gSa G o0)), (1, .int x1)] (plainFor_of_name (by decide)) rfl (Nat.le_of_ble_eq_true rfl) rfl ?_
  refine g_aload_n dJ0_charAt_5068e_0 rfl rfl ?_
  refine g_callTI [] dJ0_charAt_5068e_1 ml_J0_492 mk_J0_isLatin1_aae02 rfl rfl ho0 (Nat.le_of_ble_eq_true rfl) (Nat.le_of_ble_eq_true rfl) rfl (k_J0_isLatin1_aae02 ho0) (fun r h9 hq => ?_)
  obtain ⟨rfl, rfl⟩ := hq
  refine g_if_eq 16 dJ0_charAt_5068e_4 rfl (fun hc => absurd hc (by decide)) (fun _ => ?_)
  refine g_aload_n dJ0_charAt_5068e_7 rfl rfl ?_
  refine g_strV dJ0_charAt_5068e_8 ho0 fj_J0_9 ?_
  refine g_iload_n dJ0_charAt_5068e_11 rfl rfl ?_
  refine g_callSI [.ref (gSv G o0), .int x1] dJ0_charAt_5068e_12 ml_J0_495 mk_J1_charAt_3b067 rfl (Nat.le_of_ble_eq_true rfl) (Nat.le_of_ble_eq_true rfl) rfl (c_J1_charAt_3b067 ho0 hw) (fun r3 h4 hw => ?_)
  exact g_zret dJ0_charAt_5068e_15 hw.1 hw.2
theorem dJ7_fill_53178_0 : decode cJ7_fill_53178 0 = .ok (.iconst 0, 1) := by decide +kernel
theorem dJ7_fill_53178_1 : decode cJ7_fill_53178 1 = .ok (.istore_n 2, 1) := by decide +kernel
theorem dJ7_fill_53178_2 : decode cJ7_fill_53178 2 = .ok (.aload_n 0, 1) := by decide +kernel
theorem dJ7_fill_53178_3 : decode cJ7_fill_53178 3 = .ok (.arraylength, 1) := by decide +kernel
theorem dJ7_fill_53178_4 : decode cJ7_fill_53178 4 = .ok (.istore_n 3, 1) := by decide +kernel
theorem dJ7_fill_53178_5 : decode cJ7_fill_53178 5 = .ok (.iload_n 2, 1) := by decide +kernel
theorem dJ7_fill_53178_6 : decode cJ7_fill_53178 6 = .ok (.iload_n 3, 1) := by decide +kernel
theorem dJ7_fill_53178_7 : decode cJ7_fill_53178 7 = .ok (.if_icmp .ge 13, 3) := by decide +kernel
theorem dJ7_fill_53178_10 : decode cJ7_fill_53178 10 = .ok (.aload_n 0, 1) := by decide +kernel
theorem dJ7_fill_53178_11 : decode cJ7_fill_53178 11 = .ok (.iload_n 2, 1) := by decide +kernel
theorem dJ7_fill_53178_12 : decode cJ7_fill_53178 12 = .ok (.iload_n 1, 1) := by decide +kernel
theorem dJ7_fill_53178_13 : decode cJ7_fill_53178 13 = .ok (.iastore, 1) := by decide +kernel
theorem dJ7_fill_53178_14 : decode cJ7_fill_53178 14 = .ok (.iinc 2 1, 3) := by decide +kernel
theorem dJ7_fill_53178_17 : decode cJ7_fill_53178 17 = .ok (.goto (-12), 3) := by decide +kernel
theorem dJ7_fill_53178_20 : decode cJ7_fill_53178 20 = .ok (.return_, 1) := by decide +kernel
def J7_fill_53178_L5 (o0 : Nat) (x1 : Int32) (x3 : Int32) (Q : Hp → Prop) : Nat → Int32 → Hp → Prop
  | 0, _, _ => False
  | n + 1, x2, h => (x3 ≤ x2 → Q h) ∧ (¬ x3 ≤ x2 → vp_in x2 (alen o0) ∧ ∀ h2 : Hp, h2 = sI h o0 (x2).toNatClampNeg x1 → ∀ v3 : Int32, v3 = (x2 + 1) → J7_fill_53178_L5 o0 x1 x3 Q n v3 h2)
set_option maxHeartbeats 4000000 in
set_option maxRecDepth 20000 in
theorem gl_J7_fill_53178_L5 {G : Gx} {o0 : Nat} (ho0 : isA o0 0) {x1 : Int32} {x3 : Int32} {Q : Hp → Prop} : ∀ (n : Nat) (x2 : Int32) (h : Hp), J7_fill_53178_L5 o0 x1 x3 Q n x2 h → Go cJ7_fill_53178 4 RJ7 none 1 G (QV G Q) 5 [(0, .ref (gAd G o0)), (1, .int x1), (2, .int x2), (3, .int x3)] [] h := by
  intro n
  induction n with
  | zero => intro _ h hw; exact False.elim hw
  | succ n ih =>
    intro x2 h hw
    refine g_iload_n dJ7_fill_53178_5 rfl rfl ?_
    refine g_iload_n dJ7_fill_53178_6 rfl rfl ?_
    refine g_icmp_ge 20 dJ7_fill_53178_7 rfl (fun hc => ?_) (fun hc => ?_)
    · have hw := hw.1 hc
      exact g_vret dJ7_fill_53178_20 hw
    · have hw := hw.2 hc
      refine g_aload_n dJ7_fill_53178_10 rfl rfl ?_
      refine g_iload_n dJ7_fill_53178_11 rfl rfl ?_
      refine g_iload_n dJ7_fill_53178_12 rfl rfl ?_
      refine g_iast dJ7_fill_53178_13 ho0 hw.1 ?_
      have hw := hw.2
      refine g_heap (fun h2 eh2 => ?_)
      have hw := hw h2 eh2
      obtain ⟨v3, ev3⟩ : ∃ y : Int32, y = (x2 + 1) := ⟨_, rfl⟩
      have hw := hw v3 ev3
      refine g_iinc dJ7_fill_53178_14 rfl (by rw [ev3]; rfl) (by decide) (lv1 := [(0, .ref (gAd G o0)), (1, .int x1), (2, .int v3), (3, .int x3)]) rfl ?_
      refine g_goto 5 dJ7_fill_53178_17 rfl ?_
      exact ih _ _ hw
def J7_fill_53178 (o0 : Nat) (x1 : Int32) (h : Hp) (Q : Hp → Prop) : Prop := ∀ v1 : Int32, v1 = (Int32.ofNat (alen o0)) → ∃ n4, J7_fill_53178_L5 o0 x1 v1 Q n4 0 h
set_option maxHeartbeats 4000000 in
set_option maxRecDepth 20000 in
theorem c_J7_fill_53178 {G : Gx} {o0 : Nat} (ho0 : isA o0 0) {x1 : Int32} {h : Hp} {Q : Hp → Prop} (hw : J7_fill_53178 o0 x1 h Q) : Ct yJ7_fill_53178 cJ7_fill_53178 4 none 1 G [.ref (gAd G o0), .int x1] h (QV G Q) := by
  refine ct_go [(0, .ref (gAd G o0)), (1, .int x1)] (plainFor_of_name (by decide)) rfl (Nat.le_of_ble_eq_true rfl) rfl ?_
  refine g_iconst (v := 0) dJ7_fill_53178_0 (by decide) ?_
  refine g_istore_n dJ7_fill_53178_1 rfl (by decide) (lv1 := [(0, .ref (gAd G o0)), (1, .int x1), (2, .int 0)]) rfl ?_
  refine g_aload_n dJ7_fill_53178_2 rfl rfl ?_
  refine g_alen dJ7_fill_53178_3 ho0 (by decide) rfl ?_
  refine g_topi (fun v1 ev1 => ?_)
  have hw := hw v1 ev1
  refine g_istore_n dJ7_fill_53178_4 rfl (by decide) (lv1 := [(0, .ref (gAd G o0)), (1, .int x1), (2, .int 0), (3, .int v1)]) rfl ?_
  obtain ⟨n4, hw⟩ := hw
  refine gl_J7_fill_53178_L5 ho0  _ _ _ hw
theorem dX2_hasPlace_0 : decode cX2_hasPlace 0 = .ok (.iload_n 1, 1) := by decide +kernel
theorem dX2_hasPlace_1 : decode cX2_hasPlace 1 = .ok (.ifCond .lt 21, 3) := by decide +kernel
theorem dX2_hasPlace_4 : decode cX2_hasPlace 4 = .ok (.iload_n 1, 1) := by decide +kernel
theorem dX2_hasPlace_5 : decode cX2_hasPlace 5 = .ok (.aload_n 0, 1) := by decide +kernel
theorem dX2_hasPlace_6 : decode cX2_hasPlace 6 = .ok (.getfield 9, 3) := by decide +kernel
theorem dX2_hasPlace_9 : decode cX2_hasPlace 9 = .ok (.if_icmp .ge 13, 3) := by decide +kernel
theorem dX2_hasPlace_12 : decode cX2_hasPlace 12 = .ok (.iload_n 1, 1) := by decide +kernel
theorem dX2_hasPlace_13 : decode cX2_hasPlace 13 = .ok (.bipush 8, 2) := by decide +kernel
theorem dX2_hasPlace_15 : decode cX2_hasPlace 15 = .ok (.if_icmp .ge 7, 3) := by decide +kernel
theorem dX2_hasPlace_18 : decode cX2_hasPlace 18 = .ok (.iconst 1, 1) := by decide +kernel
theorem dX2_hasPlace_19 : decode cX2_hasPlace 19 = .ok (.goto 4, 3) := by decide +kernel
theorem dX2_hasPlace_22 : decode cX2_hasPlace 22 = .ok (.iconst 0, 1) := by decide +kernel
theorem dX2_hasPlace_23 : decode cX2_hasPlace 23 = .ok (.ireturn, 1) := by decide +kernel
theorem fl_X2_9 : FLk RX2 9 2 0 := ⟨_, rfl, by decide, mW 141 (by decide +kernel) rfl⟩
def Land_hasPlace (o0 : Nat) (x1 : Int32) (h : Hp) (Q : Int32 → Hp → Prop) : Prop := (x1 < 0 → Q 0 h) ∧ (¬ x1 < 0 → ((gI h o0 0) ≤ x1 → Q 0 h) ∧ (¬ (gI h o0 0) ≤ x1 → (8 ≤ x1 → Q 0 h) ∧ (¬ 8 ≤ x1 → Q 1 h)))
set_option maxHeartbeats 4000000 in
set_option maxRecDepth 20000 in
theorem c_Land_hasPlace {G : Gx} {o0 : Nat} (ho0 : SH o0 = .inl 2) {x1 : Int32} {h : Hp} {Q : Int32 → Hp → Prop} (hw : Land_hasPlace o0 x1 h Q) : Ct yX2_hasPlace cX2_hasPlace 2 (some .boolean) 1 G [.ref (gAd G o0), .int x1] h (QI G Q) := by
  refine ct_go [(0, .ref (gAd G o0)), (1, .int x1)] (plainFor_of_name (by decide)) rfl (Nat.le_of_ble_eq_true rfl) rfl ?_
  refine g_iload_n dX2_hasPlace_0 rfl rfl ?_
  refine g_if_lt 22 dX2_hasPlace_1 rfl (fun hc => ?_) (fun hc => ?_)
  · have hw := hw.1 hc
    refine g_iconst (v := 0) dX2_hasPlace_22 (by decide) ?_
    exact g_zret dX2_hasPlace_23 rfl hw
  · have hw := hw.2 hc
    refine g_iload_n dX2_hasPlace_4 rfl rfl ?_
    refine g_aload_n dX2_hasPlace_5 rfl rfl ?_
    refine g_getI dX2_hasPlace_6 fl_X2_9 ho0 rfl ?_
    refine g_icmp_ge 22 dX2_hasPlace_9 rfl (fun hc => ?_) (fun hc => ?_)
    · have hw := hw.1 hc
      refine g_iconst (v := 0) dX2_hasPlace_22 (by decide) ?_
      exact g_zret dX2_hasPlace_23 rfl hw
    · have hw := hw.2 hc
      refine g_iload_n dX2_hasPlace_12 rfl rfl ?_
      refine g_bipush (v := 8) dX2_hasPlace_13 (by decide) ?_
      refine g_icmp_ge 22 dX2_hasPlace_15 rfl (fun hc => ?_) (fun hc => ?_)
      · have hw := hw.1 hc
        refine g_iconst (v := 0) dX2_hasPlace_22 (by decide) ?_
        exact g_zret dX2_hasPlace_23 rfl hw
      · have hw := hw.2 hc
        refine g_iconst (v := 1) dX2_hasPlace_18 (by decide) ?_
        refine g_goto 23 dX2_hasPlace_19 rfl ?_
        exact g_zret dX2_hasPlace_23 rfl hw
theorem dJ9_min_f86c9_0 : decode cJ9_min_f86c9 0 = .ok (.lload_n 0, 1) := by decide +kernel
theorem dJ9_min_f86c9_1 : decode cJ9_min_f86c9 1 = .ok (.lload_n 2, 1) := by decide +kernel
theorem dJ9_min_f86c9_2 : decode cJ9_min_f86c9 2 = .ok (.lcmp, 1) := by decide +kernel
theorem dJ9_min_f86c9_3 : decode cJ9_min_f86c9 3 = .ok (.ifCond .gt 7, 3) := by decide +kernel
theorem dJ9_min_f86c9_6 : decode cJ9_min_f86c9 6 = .ok (.lload_n 0, 1) := by decide +kernel
theorem dJ9_min_f86c9_7 : decode cJ9_min_f86c9 7 = .ok (.goto 4, 3) := by decide +kernel
theorem dJ9_min_f86c9_10 : decode cJ9_min_f86c9 10 = .ok (.lload_n 2, 1) := by decide +kernel
theorem dJ9_min_f86c9_11 : decode cJ9_min_f86c9 11 = .ok (.lreturn, 1) := by decide +kernel
def J9_min_f86c9 (x0 : Int64) (x2 : Int64) (h : Hp) (Q : Int64 → Hp → Prop) : Prop := (x2 < x0 → Q x2 h) ∧ (¬ x2 < x0 → Q x0 h)
set_option maxHeartbeats 4000000 in
set_option maxRecDepth 20000 in
theorem c_J9_min_f86c9 {G : Gx}  {x0 : Int64} {x2 : Int64} {h : Hp} {Q : Int64 → Hp → Prop} (hw : J9_min_f86c9 x0 x2 h Q) : Ct yJ9_min_f86c9 cJ9_min_f86c9 4 (some .long) 1 G [.long x0, .long x2] h (QJ G Q) := by
  refine ct_go [(0, .long x0), (2, .long x2)] (by decide +kernel) rfl (Nat.le_of_ble_eq_true rfl) rfl ?_
  refine g_lload_n dJ9_min_f86c9_0 rfl rfl ?_
  refine g_lload_n dJ9_min_f86c9_1 rfl rfl ?_
  refine g_lc_gt 10 dJ9_min_f86c9_2 dJ9_min_f86c9_3 rfl (fun hc => ?_) (fun hc => ?_)
  · have hw := hw.1 hc
    refine g_lload_n dJ9_min_f86c9_10 rfl rfl ?_
    exact g_lret dJ9_min_f86c9_11 hw
  · have hw := hw.2 hc
    refine g_lload_n dJ9_min_f86c9_6 rfl rfl ?_
    refine g_goto 11 dJ9_min_f86c9_7 rfl ?_
    exact g_lret dJ9_min_f86c9_11 hw
theorem dJ9_max_f86c9_0 : decode cJ9_max_f86c9 0 = .ok (.lload_n 0, 1) := by decide +kernel
theorem dJ9_max_f86c9_1 : decode cJ9_max_f86c9 1 = .ok (.lload_n 2, 1) := by decide +kernel
theorem dJ9_max_f86c9_2 : decode cJ9_max_f86c9 2 = .ok (.lcmp, 1) := by decide +kernel
theorem dJ9_max_f86c9_3 : decode cJ9_max_f86c9 3 = .ok (.ifCond .lt 7, 3) := by decide +kernel
theorem dJ9_max_f86c9_6 : decode cJ9_max_f86c9 6 = .ok (.lload_n 0, 1) := by decide +kernel
theorem dJ9_max_f86c9_7 : decode cJ9_max_f86c9 7 = .ok (.goto 4, 3) := by decide +kernel
theorem dJ9_max_f86c9_10 : decode cJ9_max_f86c9 10 = .ok (.lload_n 2, 1) := by decide +kernel
theorem dJ9_max_f86c9_11 : decode cJ9_max_f86c9 11 = .ok (.lreturn, 1) := by decide +kernel
def J9_max_f86c9 (x0 : Int64) (x2 : Int64) (h : Hp) (Q : Int64 → Hp → Prop) : Prop := (x0 < x2 → Q x2 h) ∧ (¬ x0 < x2 → Q x0 h)
set_option maxHeartbeats 4000000 in
set_option maxRecDepth 20000 in
theorem c_J9_max_f86c9 {G : Gx}  {x0 : Int64} {x2 : Int64} {h : Hp} {Q : Int64 → Hp → Prop} (hw : J9_max_f86c9 x0 x2 h Q) : Ct yJ9_max_f86c9 cJ9_max_f86c9 4 (some .long) 1 G [.long x0, .long x2] h (QJ G Q) := by
  refine ct_go [(0, .long x0), (2, .long x2)] (by decide +kernel) rfl (Nat.le_of_ble_eq_true rfl) rfl ?_
  refine g_lload_n dJ9_max_f86c9_0 rfl rfl ?_
  refine g_lload_n dJ9_max_f86c9_1 rfl rfl ?_
  refine g_lc_lt 10 dJ9_max_f86c9_2 dJ9_max_f86c9_3 rfl (fun hc => ?_) (fun hc => ?_)
  · have hw := hw.1 hc
    refine g_lload_n dJ9_max_f86c9_10 rfl rfl ?_
    exact g_lret dJ9_max_f86c9_11 hw
  · have hw := hw.2 hc
    refine g_lload_n dJ9_max_f86c9_6 rfl rfl ?_
    refine g_goto 11 dJ9_max_f86c9_7 rfl ?_
    exact g_lret dJ9_max_f86c9_11 hw
theorem dX2_owner_0 : decode cX2_owner 0 = .ok (.aload_n 0, 1) := by decide +kernel
theorem dX2_owner_1 : decode cX2_owner 1 = .ok (.getfield 15, 3) := by decide +kernel
theorem dX2_owner_4 : decode cX2_owner 4 = .ok (.iload_n 1, 1) := by decide +kernel
theorem dX2_owner_5 : decode cX2_owner 5 = .ok (.ishr, 1) := by decide +kernel
theorem dX2_owner_6 : decode cX2_owner 6 = .ok (.iconst 1, 1) := by decide +kernel
theorem dX2_owner_7 : decode cX2_owner 7 = .ok (.iand, 1) := by decide +kernel
theorem dX2_owner_8 : decode cX2_owner 8 = .ok (.ireturn, 1) := by decide +kernel
theorem fl_X2_15 : FLk RX2 15 2 1 := ⟨_, rfl, by decide, mW 146 (by decide +kernel) rfl⟩
def Land_owner (o0 : Nat) (x1 : Int32) (h : Hp) (Q : Int32 → Hp → Prop) : Prop := Q (((gI h o0 1) >>> (x1 &&& 31)) &&& 1) h
set_option maxHeartbeats 4000000 in
set_option maxRecDepth 20000 in
theorem c_Land_owner {G : Gx} {o0 : Nat} (ho0 : SH o0 = .inl 2) {x1 : Int32} {h : Hp} {Q : Int32 → Hp → Prop} (hw : Land_owner o0 x1 h Q) : Ct yX2_owner cX2_owner 2 (some .int) 1 G [.ref (gAd G o0), .int x1] h (QI G Q) := by
  refine ct_go [(0, .ref (gAd G o0)), (1, .int x1)] (plainFor_of_name (by decide)) rfl (Nat.le_of_ble_eq_true rfl) rfl ?_
  refine g_aload_n dX2_owner_0 rfl rfl ?_
  refine g_getI dX2_owner_1 fl_X2_15 ho0 rfl ?_
  refine g_iload_n dX2_owner_4 rfl rfl ?_
  refine g_ishr dX2_owner_5 ?_
  refine g_iconst (v := 1) dX2_owner_6 (by decide) ?_
  refine g_iand dX2_owner_7 ?_
  exact g_iret dX2_owner_8 hw
theorem dX11_isWeather_0 : decode cX11_isWeather 0 = .ok (.iload_n 0, 1) := by decide +kernel
theorem dX11_isWeather_1 : decode cX11_isWeather 1 = .ok (.ifCond .lt 13, 3) := by decide +kernel
theorem dX11_isWeather_4 : decode cX11_isWeather 4 = .ok (.iload_n 0, 1) := by decide +kernel
theorem dX11_isWeather_5 : decode cX11_isWeather 5 = .ok (.bipush 10, 2) := by decide +kernel
theorem dX11_isWeather_7 : decode cX11_isWeather 7 = .ok (.if_icmp .ge 7, 3) := by decide +kernel
theorem dX11_isWeather_10 : decode cX11_isWeather 10 = .ok (.iconst 1, 1) := by decide +kernel
theorem dX11_isWeather_11 : decode cX11_isWeather 11 = .ok (.goto 4, 3) := by decide +kernel
theorem dX11_isWeather_14 : decode cX11_isWeather 14 = .ok (.iconst 0, 1) := by decide +kernel
theorem dX11_isWeather_15 : decode cX11_isWeather 15 = .ok (.ireturn, 1) := by decide +kernel
def C_isWeather (x0 : Int32) (h : Hp) (Q : Int32 → Hp → Prop) : Prop := (x0 < 0 → Q 0 h) ∧ (¬ x0 < 0 → (10 ≤ x0 → Q 0 h) ∧ (¬ 10 ≤ x0 → Q 1 h))
set_option maxHeartbeats 4000000 in
set_option maxRecDepth 20000 in
theorem c_C_isWeather {G : Gx}  {x0 : Int32} {h : Hp} {Q : Int32 → Hp → Prop} (hw : C_isWeather x0 h Q) : Ct yX11_isWeather cX11_isWeather 1 (some .boolean) 1 G [.int x0] h (QI G Q) := by
  refine ct_go [(0, .int x0)] (plainFor_of_name (by decide)) rfl (Nat.le_of_ble_eq_true rfl) rfl ?_
  refine g_iload_n dX11_isWeather_0 rfl rfl ?_
  refine g_if_lt 14 dX11_isWeather_1 rfl (fun hc => ?_) (fun hc => ?_)
  · have hw := hw.1 hc
    refine g_iconst (v := 0) dX11_isWeather_14 (by decide) ?_
    exact g_zret dX11_isWeather_15 rfl hw
  · have hw := hw.2 hc
    refine g_iload_n dX11_isWeather_4 rfl rfl ?_
    refine g_bipush (v := 10) dX11_isWeather_5 (by decide) ?_
    refine g_icmp_ge 14 dX11_isWeather_7 rfl (fun hc => ?_) (fun hc => ?_)
    · have hw := hw.1 hc
      refine g_iconst (v := 0) dX11_isWeather_14 (by decide) ?_
      exact g_zret dX11_isWeather_15 rfl hw
    · have hw := hw.2 hc
      refine g_iconst (v := 1) dX11_isWeather_10 (by decide) ?_
      refine g_goto 15 dX11_isWeather_11 rfl ?_
      exact g_zret dX11_isWeather_15 rfl hw
theorem dX2_openRoads_0 : decode cX2_openRoads 0 = .ok (.iload_n 1, 1) := by decide +kernel
theorem dX2_openRoads_1 : decode cX2_openRoads 1 = .ok (.invokestatic 46, 3) := by decide +kernel
theorem dX2_openRoads_4 : decode cX2_openRoads 4 = .ok (.ifCond .eq 12, 3) := by decide +kernel
theorem dX2_openRoads_7 : decode cX2_openRoads 7 = .ok (.aload_n 0, 1) := by decide +kernel
theorem dX2_openRoads_8 : decode cX2_openRoads 8 = .ok (.getfield 34, 3) := by decide +kernel
theorem dX2_openRoads_11 : decode cX2_openRoads 11 = .ok (.iload_n 1, 1) := by decide +kernel
theorem dX2_openRoads_12 : decode cX2_openRoads 12 = .ok (.iaload, 1) := by decide +kernel
theorem dX2_openRoads_13 : decode cX2_openRoads 13 = .ok (.goto 4, 3) := by decide +kernel
theorem dX2_openRoads_16 : decode cX2_openRoads 16 = .ok (.iconst 0, 1) := by decide +kernel
theorem dX2_openRoads_17 : decode cX2_openRoads 17 = .ok (.ireturn, 1) := by decide +kernel
theorem mk_X11_isWeather : MokS yX11_isWeather cX11_isWeather 1 (some .boolean) 1 := ⟨⟨mW 1 (by decide +kernel) rfl, mW 778 (by decide +kernel) rfl, ⟨by decide, by decide, by decide +kernel⟩, by decide⟩, mW 777 (by decide +kernel) rfl⟩
theorem fl_X2_34 : FLk RX2 34 2 7 := ⟨_, rfl, by decide, mW 165 (by decide +kernel) rfl⟩
def Land_openRoads (o0 : Nat) (x1 : Int32) (h : Hp) (Q : Int32 → Hp → Prop) : Prop := C_isWeather x1 h (fun r1 h2 => (r1 = 0 → Q 0 h2) ∧ (¬ r1 = 0 → vp_in x1 (alen (rf o0 7)) ∧ Q (gI h2 (rf o0 7) (x1).toNatClampNeg) h2))
set_option maxHeartbeats 4000000 in
set_option maxRecDepth 20000 in
theorem c_Land_openRoads {G : Gx} {o0 : Nat} (ho0 : SH o0 = .inl 2) {x1 : Int32} {h : Hp} {Q : Int32 → Hp → Prop} (hw : Land_openRoads o0 x1 h Q) : Ct yX2_openRoads cX2_openRoads 2 (some .int) 2 G [.ref (gAd G o0), .int x1] h (QI G Q) := by
  refine ct_go [(0, .ref (gAd G o0)), (1, .int x1)] (plainFor_of_name (by decide)) rfl (Nat.le_of_ble_eq_true rfl) rfl ?_
  refine g_iload_n dX2_openRoads_0 rfl rfl ?_
  refine g_callWe [.int x1] rfl dX2_openRoads_1 mk_X11_isWeather rfl (Nat.le_of_ble_eq_true rfl) (Nat.le_of_ble_eq_true rfl) rfl (c_C_isWeather hw) (fun r1 h2 hw => ?_)
  refine g_if_eq 16 dX2_openRoads_4 rfl (fun hc => ?_) (fun hc => ?_)
  · have hw := hw.1 hc
    refine g_iconst (v := 0) dX2_openRoads_16 (by decide) ?_
    exact g_iret dX2_openRoads_17 hw
  · have hw := hw.2 hc
    refine g_aload_n dX2_openRoads_7 rfl rfl ?_
    refine g_getA dX2_openRoads_8 fl_X2_34 ho0 rfl ?_
    refine g_iload_n dX2_openRoads_11 rfl rfl ?_
    refine g_iald dX2_openRoads_12 (rf_a ho0 (k := 7) rfl) hw.1 ?_
    have hw := hw.2
    refine g_goto 17 dX2_openRoads_13 rfl ?_
    exact g_iret dX2_openRoads_17 hw
theorem dX2_openFrom_0 : decode cX2_openFrom 0 = .ok (.aload_n 0, 1) := by decide +kernel
theorem dX2_openFrom_1 : decode cX2_openFrom 1 = .ok (.iload_n 2, 1) := by decide +kernel
theorem dX2_openFrom_2 : decode cX2_openFrom 2 = .ok (.invokevirtual 50, 3) := by decide +kernel
theorem dX2_openFrom_5 : decode cX2_openFrom 5 = .ok (.ifCond .eq 18, 3) := by decide +kernel
theorem dX2_openFrom_8 : decode cX2_openFrom 8 = .ok (.aload_n 0, 1) := by decide +kernel
theorem dX2_openFrom_9 : decode cX2_openFrom 9 = .ok (.getfield 31, 3) := by decide +kernel
theorem dX2_openFrom_12 : decode cX2_openFrom 12 = .ok (.iload_n 2, 1) := by decide +kernel
theorem dX2_openFrom_13 : decode cX2_openFrom 13 = .ok (.iaload, 1) := by decide +kernel
theorem dX2_openFrom_14 : decode cX2_openFrom 14 = .ok (.aload_n 0, 1) := by decide +kernel
theorem dX2_openFrom_15 : decode cX2_openFrom 15 = .ok (.iload_n 1, 1) := by decide +kernel
theorem dX2_openFrom_16 : decode cX2_openFrom 16 = .ok (.invokevirtual 53, 3) := by decide +kernel
theorem dX2_openFrom_19 : decode cX2_openFrom 19 = .ok (.iand, 1) := by decide +kernel
theorem dX2_openFrom_20 : decode cX2_openFrom 20 = .ok (.goto 4, 3) := by decide +kernel
theorem dX2_openFrom_23 : decode cX2_openFrom 23 = .ok (.iconst 0, 1) := by decide +kernel
theorem dX2_openFrom_24 : decode cX2_openFrom 24 = .ok (.ireturn, 1) := by decide +kernel
theorem ml_X2_50 : Cond.methodLink RX2 50 yX2_hasPlace ∈ Wd := mW 771 (by decide +kernel) rfl
theorem mk_X2_hasPlace : MokV yX2_hasPlace cX2_hasPlace 2 (some .boolean) 1 := ⟨⟨mW 5 (by decide +kernel) rfl, mW 701 (by decide +kernel) rfl, ⟨by decide, by decide, by decide +kernel⟩, by decide⟩, mW 699 (by decide +kernel) rfl, mW 700 (by decide +kernel) rfl⟩
theorem fl_X2_31 : FLk RX2 31 2 6 := ⟨_, rfl, by decide, mW 163 (by decide +kernel) rfl⟩
theorem ml_X2_53 : Cond.methodLink RX2 53 yX2_openRoads ∈ Wd := mW 772 (by decide +kernel) rfl
theorem mk_X2_openRoads : MokV yX2_openRoads cX2_openRoads 2 (some .int) 1 := ⟨⟨mW 5 (by decide +kernel) rfl, mW 775 (by decide +kernel) rfl, ⟨by decide, by decide, by decide +kernel⟩, by decide⟩, mW 773 (by decide +kernel) rfl, mW 774 (by decide +kernel) rfl⟩
def Land_openFrom (o0 : Nat) (x1 : Int32) (x2 : Int32) (h : Hp) (Q : Int32 → Hp → Prop) : Prop := Land_hasPlace o0 x2 h (fun r1 h2 => (r1 = 0 → Q 0 h2) ∧ (¬ r1 = 0 → vp_in x2 (alen (rf o0 6)) ∧ Land_openRoads o0 x1 h2 (fun r3 h4 => Q ((gI h2 (rf o0 6) (x2).toNatClampNeg) &&& r3) h4)))
set_option maxHeartbeats 4000000 in
set_option maxRecDepth 20000 in
theorem c_Land_openFrom {G : Gx} {o0 : Nat} (ho0 : SH o0 = .inl 2) {x1 : Int32} {x2 : Int32} {h : Hp} {Q : Int32 → Hp → Prop} (hw : Land_openFrom o0 x1 x2 h Q) : Ct yX2_openFrom cX2_openFrom 3 (some .int) 3 G [.ref (gAd G o0), .int x1, .int x2] h (QI G Q) := by
  refine ct_go [(0, .ref (gAd G o0)), (1, .int x1), (2, .int x2)] (plainFor_of_name (by decide)) rfl (Nat.le_of_ble_eq_true rfl) rfl ?_
  refine g_aload_n dX2_openFrom_0 rfl rfl ?_
  refine g_iload_n dX2_openFrom_1 rfl rfl ?_
  refine g_callVI [.int x2] (ci := 2) dX2_openFrom_2 ml_X2_50 mk_X2_hasPlace rfl rfl ho0 (Nat.le_of_ble_eq_true rfl) (Nat.le_of_ble_eq_true rfl) rfl (c_Land_hasPlace ho0 hw) (fun r1 h2 hw => ?_)
  refine g_if_eq 23 dX2_openFrom_5 rfl (fun hc => ?_) (fun hc => ?_)
  · have hw := hw.1 hc
    refine g_iconst (v := 0) dX2_openFrom_23 (by decide) ?_
    exact g_iret dX2_openFrom_24 hw
  · have hw := hw.2 hc
    refine g_aload_n dX2_openFrom_8 rfl rfl ?_
    refine g_getA dX2_openFrom_9 fl_X2_31 ho0 rfl ?_
    refine g_iload_n dX2_openFrom_12 rfl rfl ?_
    refine g_iald dX2_openFrom_13 (rf_a ho0 (k := 6) rfl) hw.1 ?_
    have hw := hw.2
    refine g_aload_n dX2_openFrom_14 rfl rfl ?_
    refine g_iload_n dX2_openFrom_15 rfl rfl ?_
    refine g_callVI [.int x1] (ci := 2) dX2_openFrom_16 ml_X2_53 mk_X2_openRoads rfl rfl ho0 (Nat.le_of_ble_eq_true rfl) (Nat.le_of_ble_eq_true rfl) rfl (c_Land_openRoads ho0 hw) (fun r3 h4 hw => ?_)
    refine g_iand dX2_openFrom_19 ?_
    refine g_goto 24 dX2_openFrom_20 rfl ?_
    exact g_iret dX2_openFrom_24 hw
theorem dJ6_bitCount_0f7a4_0 : decode cJ6_bitCount_0f7a4 0 = .ok (.iload_n 0, 1) := by decide +kernel
theorem dJ6_bitCount_0f7a4_1 : decode cJ6_bitCount_0f7a4 1 = .ok (.iload_n 0, 1) := by decide +kernel
theorem dJ6_bitCount_0f7a4_2 : decode cJ6_bitCount_0f7a4 2 = .ok (.iconst 1, 1) := by decide +kernel
theorem dJ6_bitCount_0f7a4_3 : decode cJ6_bitCount_0f7a4 3 = .ok (.iushr, 1) := by decide +kernel
theorem dJ6_bitCount_0f7a4_4 : decode cJ6_bitCount_0f7a4 4 = .ok (.ldc_w 265, 3) := by decide +kernel
theorem dJ6_bitCount_0f7a4_7 : decode cJ6_bitCount_0f7a4 7 = .ok (.iand, 1) := by decide +kernel
theorem dJ6_bitCount_0f7a4_8 : decode cJ6_bitCount_0f7a4 8 = .ok (.isub, 1) := by decide +kernel
theorem dJ6_bitCount_0f7a4_9 : decode cJ6_bitCount_0f7a4 9 = .ok (.istore_n 0, 1) := by decide +kernel
theorem dJ6_bitCount_0f7a4_10 : decode cJ6_bitCount_0f7a4 10 = .ok (.iload_n 0, 1) := by decide +kernel
theorem dJ6_bitCount_0f7a4_11 : decode cJ6_bitCount_0f7a4 11 = .ok (.ldc_w 266, 3) := by decide +kernel
theorem dJ6_bitCount_0f7a4_14 : decode cJ6_bitCount_0f7a4 14 = .ok (.iand, 1) := by decide +kernel
theorem dJ6_bitCount_0f7a4_15 : decode cJ6_bitCount_0f7a4 15 = .ok (.iload_n 0, 1) := by decide +kernel
theorem dJ6_bitCount_0f7a4_16 : decode cJ6_bitCount_0f7a4 16 = .ok (.iconst 2, 1) := by decide +kernel
theorem dJ6_bitCount_0f7a4_17 : decode cJ6_bitCount_0f7a4 17 = .ok (.iushr, 1) := by decide +kernel
theorem dJ6_bitCount_0f7a4_18 : decode cJ6_bitCount_0f7a4 18 = .ok (.ldc_w 266, 3) := by decide +kernel
theorem dJ6_bitCount_0f7a4_21 : decode cJ6_bitCount_0f7a4 21 = .ok (.iand, 1) := by decide +kernel
theorem dJ6_bitCount_0f7a4_22 : decode cJ6_bitCount_0f7a4 22 = .ok (.iadd, 1) := by decide +kernel
theorem dJ6_bitCount_0f7a4_23 : decode cJ6_bitCount_0f7a4 23 = .ok (.istore_n 0, 1) := by decide +kernel
theorem dJ6_bitCount_0f7a4_24 : decode cJ6_bitCount_0f7a4 24 = .ok (.iload_n 0, 1) := by decide +kernel
theorem dJ6_bitCount_0f7a4_25 : decode cJ6_bitCount_0f7a4 25 = .ok (.iload_n 0, 1) := by decide +kernel
theorem dJ6_bitCount_0f7a4_26 : decode cJ6_bitCount_0f7a4 26 = .ok (.iconst 4, 1) := by decide +kernel
theorem dJ6_bitCount_0f7a4_27 : decode cJ6_bitCount_0f7a4 27 = .ok (.iushr, 1) := by decide +kernel
theorem dJ6_bitCount_0f7a4_28 : decode cJ6_bitCount_0f7a4 28 = .ok (.iadd, 1) := by decide +kernel
theorem dJ6_bitCount_0f7a4_29 : decode cJ6_bitCount_0f7a4 29 = .ok (.ldc_w 267, 3) := by decide +kernel
theorem dJ6_bitCount_0f7a4_32 : decode cJ6_bitCount_0f7a4 32 = .ok (.iand, 1) := by decide +kernel
theorem dJ6_bitCount_0f7a4_33 : decode cJ6_bitCount_0f7a4 33 = .ok (.istore_n 0, 1) := by decide +kernel
theorem dJ6_bitCount_0f7a4_34 : decode cJ6_bitCount_0f7a4 34 = .ok (.iload_n 0, 1) := by decide +kernel
theorem dJ6_bitCount_0f7a4_35 : decode cJ6_bitCount_0f7a4 35 = .ok (.iload_n 0, 1) := by decide +kernel
theorem dJ6_bitCount_0f7a4_36 : decode cJ6_bitCount_0f7a4 36 = .ok (.bipush 8, 2) := by decide +kernel
theorem dJ6_bitCount_0f7a4_38 : decode cJ6_bitCount_0f7a4 38 = .ok (.iushr, 1) := by decide +kernel
theorem dJ6_bitCount_0f7a4_39 : decode cJ6_bitCount_0f7a4 39 = .ok (.iadd, 1) := by decide +kernel
theorem dJ6_bitCount_0f7a4_40 : decode cJ6_bitCount_0f7a4 40 = .ok (.istore_n 0, 1) := by decide +kernel
theorem dJ6_bitCount_0f7a4_41 : decode cJ6_bitCount_0f7a4 41 = .ok (.iload_n 0, 1) := by decide +kernel
theorem dJ6_bitCount_0f7a4_42 : decode cJ6_bitCount_0f7a4 42 = .ok (.iload_n 0, 1) := by decide +kernel
theorem dJ6_bitCount_0f7a4_43 : decode cJ6_bitCount_0f7a4 43 = .ok (.bipush 16, 2) := by decide +kernel
theorem dJ6_bitCount_0f7a4_45 : decode cJ6_bitCount_0f7a4 45 = .ok (.iushr, 1) := by decide +kernel
theorem dJ6_bitCount_0f7a4_46 : decode cJ6_bitCount_0f7a4 46 = .ok (.iadd, 1) := by decide +kernel
theorem dJ6_bitCount_0f7a4_47 : decode cJ6_bitCount_0f7a4 47 = .ok (.istore_n 0, 1) := by decide +kernel
theorem dJ6_bitCount_0f7a4_48 : decode cJ6_bitCount_0f7a4 48 = .ok (.iload_n 0, 1) := by decide +kernel
theorem dJ6_bitCount_0f7a4_49 : decode cJ6_bitCount_0f7a4 49 = .ok (.bipush 63, 2) := by decide +kernel
theorem dJ6_bitCount_0f7a4_51 : decode cJ6_bitCount_0f7a4 51 = .ok (.iand, 1) := by decide +kernel
theorem dJ6_bitCount_0f7a4_52 : decode cJ6_bitCount_0f7a4 52 = .ok (.ireturn, 1) := by decide +kernel
theorem kc_J6_265 : Cond.constant RJ6 265 (1431655765) ∈ Wd := mW 782 (by decide +kernel) rfl
theorem kc_J6_266 : Cond.constant RJ6 266 (858993459) ∈ Wd := mW 783 (by decide +kernel) rfl
theorem kc_J6_267 : Cond.constant RJ6 267 (252645135) ∈ Wd := mW 784 (by decide +kernel) rfl
def J6_bitCount_0f7a4 (x0 : Int32) (h : Hp) (Q : Int32 → Hp → Prop) : Prop := ∀ v1 : Int32, v1 = (x0 - ((((x0).toUInt32 >>> ((1).toUInt32 &&& Int32.toUInt32 31)).toInt32) &&& 1431655765)) → ∀ v2 : Int32, v2 = ((v1 &&& 858993459) + ((((v1).toUInt32 >>> ((2).toUInt32 &&& Int32.toUInt32 31)).toInt32) &&& 858993459)) → ∀ v3 : Int32, v3 = ((v2 + (((v2).toUInt32 >>> ((4).toUInt32 &&& Int32.toUInt32 31)).toInt32)) &&& 252645135) → ∀ v4 : Int32, v4 = (v3 + (((v3).toUInt32 >>> ((8).toUInt32 &&& Int32.toUInt32 31)).toInt32)) → ∀ v5 : Int32, v5 = (v4 + (((v4).toUInt32 >>> ((16).toUInt32 &&& Int32.toUInt32 31)).toInt32)) → Q (v5 &&& 63) h
set_option maxHeartbeats 4000000 in
set_option maxRecDepth 20000 in
theorem c_J6_bitCount_0f7a4 {G : Gx}  {x0 : Int32} {h : Hp} {Q : Int32 → Hp → Prop} (hw : J6_bitCount_0f7a4 x0 h Q) : Ct yJ6_bitCount_0f7a4 cJ6_bitCount_0f7a4 1 (some .int) 1 G [.int x0] h (QI G Q) := by
  refine ct_go [(0, .int x0)] (plainFor_of_name (by decide)) rfl (Nat.le_of_ble_eq_true rfl) rfl ?_
  refine g_iload_n dJ6_bitCount_0f7a4_0 rfl rfl ?_
  refine g_iload_n dJ6_bitCount_0f7a4_1 rfl rfl ?_
  refine g_iconst (v := 1) dJ6_bitCount_0f7a4_2 (by decide) ?_
  refine g_iushr dJ6_bitCount_0f7a4_3 ?_
  refine g_ldcw dJ6_bitCount_0f7a4_4 kc_J6_265 ?_
  refine g_iand dJ6_bitCount_0f7a4_7 ?_
  refine g_isub dJ6_bitCount_0f7a4_8 ?_
  refine g_topi (fun v1 ev1 => ?_)
  have hw := hw v1 ev1
  refine g_istore_n dJ6_bitCount_0f7a4_9 rfl (by decide) (lv1 := [(0, .int v1)]) rfl ?_
  refine g_iload_n dJ6_bitCount_0f7a4_10 rfl rfl ?_
  refine g_ldcw dJ6_bitCount_0f7a4_11 kc_J6_266 ?_
  refine g_iand dJ6_bitCount_0f7a4_14 ?_
  refine g_iload_n dJ6_bitCount_0f7a4_15 rfl rfl ?_
  refine g_iconst (v := 2) dJ6_bitCount_0f7a4_16 (by decide) ?_
  refine g_iushr dJ6_bitCount_0f7a4_17 ?_
  refine g_ldcw dJ6_bitCount_0f7a4_18 kc_J6_266 ?_
  refine g_iand dJ6_bitCount_0f7a4_21 ?_
  refine g_iadd dJ6_bitCount_0f7a4_22 ?_
  refine g_topi (fun v2 ev2 => ?_)
  have hw := hw v2 ev2
  refine g_istore_n dJ6_bitCount_0f7a4_23 rfl (by decide) (lv1 := [(0, .int v2)]) rfl ?_
  refine g_iload_n dJ6_bitCount_0f7a4_24 rfl rfl ?_
  refine g_iload_n dJ6_bitCount_0f7a4_25 rfl rfl ?_
  refine g_iconst (v := 4) dJ6_bitCount_0f7a4_26 (by decide) ?_
  refine g_iushr dJ6_bitCount_0f7a4_27 ?_
  refine g_iadd dJ6_bitCount_0f7a4_28 ?_
  refine g_ldcw dJ6_bitCount_0f7a4_29 kc_J6_267 ?_
  refine g_iand dJ6_bitCount_0f7a4_32 ?_
  refine g_topi (fun v3 ev3 => ?_)
  have hw := hw v3 ev3
  refine g_istore_n dJ6_bitCount_0f7a4_33 rfl (by decide) (lv1 := [(0, .int v3)]) rfl ?_
  refine g_iload_n dJ6_bitCount_0f7a4_34 rfl rfl ?_
  refine g_iload_n dJ6_bitCount_0f7a4_35 rfl rfl ?_
  refine g_bipush (v := 8) dJ6_bitCount_0f7a4_36 (by decide) ?_
  refine g_iushr dJ6_bitCount_0f7a4_38 ?_
  refine g_iadd dJ6_bitCount_0f7a4_39 ?_
  refine g_topi (fun v4 ev4 => ?_)
  have hw := hw v4 ev4
  refine g_istore_n dJ6_bitCount_0f7a4_40 rfl (by decide) (lv1 := [(0, .int v4)]) rfl ?_
  refine g_iload_n dJ6_bitCount_0f7a4_41 rfl rfl ?_
  refine g_iload_n dJ6_bitCount_0f7a4_42 rfl rfl ?_
  refine g_bipush (v := 16) dJ6_bitCount_0f7a4_43 (by decide) ?_
  refine g_iushr dJ6_bitCount_0f7a4_45 ?_
  refine g_iadd dJ6_bitCount_0f7a4_46 ?_
  refine g_topi (fun v5 ev5 => ?_)
  have hw := hw v5 ev5
  refine g_istore_n dJ6_bitCount_0f7a4_47 rfl (by decide) (lv1 := [(0, .int v5)]) rfl ?_
  refine g_iload_n dJ6_bitCount_0f7a4_48 rfl rfl ?_
  refine g_bipush (v := 63) dJ6_bitCount_0f7a4_49 (by decide) ?_
  refine g_iand dJ6_bitCount_0f7a4_51 ?_
  exact g_iret dJ6_bitCount_0f7a4_52 hw
theorem dX2_hasRoad_0 : decode cX2_hasRoad 0 = .ok (.iload_n 1, 1) := by decide +kernel
theorem dX2_hasRoad_1 : decode cX2_hasRoad 1 = .ok (.ifCond .lt 21, 3) := by decide +kernel
theorem dX2_hasRoad_4 : decode cX2_hasRoad 4 = .ok (.iload_n 1, 1) := by decide +kernel
theorem dX2_hasRoad_5 : decode cX2_hasRoad 5 = .ok (.aload_n 0, 1) := by decide +kernel
theorem dX2_hasRoad_6 : decode cX2_hasRoad 6 = .ok (.getfield 18, 3) := by decide +kernel
theorem dX2_hasRoad_9 : decode cX2_hasRoad 9 = .ok (.if_icmp .ge 13, 3) := by decide +kernel
theorem dX2_hasRoad_12 : decode cX2_hasRoad 12 = .ok (.iload_n 1, 1) := by decide +kernel
theorem dX2_hasRoad_13 : decode cX2_hasRoad 13 = .ok (.bipush 16, 2) := by decide +kernel
theorem dX2_hasRoad_15 : decode cX2_hasRoad 15 = .ok (.if_icmp .ge 7, 3) := by decide +kernel
theorem dX2_hasRoad_18 : decode cX2_hasRoad 18 = .ok (.iconst 1, 1) := by decide +kernel
theorem dX2_hasRoad_19 : decode cX2_hasRoad 19 = .ok (.goto 4, 3) := by decide +kernel
theorem dX2_hasRoad_22 : decode cX2_hasRoad 22 = .ok (.iconst 0, 1) := by decide +kernel
theorem dX2_hasRoad_23 : decode cX2_hasRoad 23 = .ok (.ireturn, 1) := by decide +kernel
theorem fl_X2_18 : FLk RX2 18 2 2 := ⟨_, rfl, by decide, mW 149 (by decide +kernel) rfl⟩
def Land_hasRoad (o0 : Nat) (x1 : Int32) (h : Hp) (Q : Int32 → Hp → Prop) : Prop := (x1 < 0 → Q 0 h) ∧ (¬ x1 < 0 → ((gI h o0 2) ≤ x1 → Q 0 h) ∧ (¬ (gI h o0 2) ≤ x1 → (16 ≤ x1 → Q 0 h) ∧ (¬ 16 ≤ x1 → Q 1 h)))
set_option maxHeartbeats 4000000 in
set_option maxRecDepth 20000 in
theorem c_Land_hasRoad {G : Gx} {o0 : Nat} (ho0 : SH o0 = .inl 2) {x1 : Int32} {h : Hp} {Q : Int32 → Hp → Prop} (hw : Land_hasRoad o0 x1 h Q) : Ct yX2_hasRoad cX2_hasRoad 2 (some .boolean) 1 G [.ref (gAd G o0), .int x1] h (QI G Q) := by
  refine ct_go [(0, .ref (gAd G o0)), (1, .int x1)] (plainFor_of_name (by decide)) rfl (Nat.le_of_ble_eq_true rfl) rfl ?_
  refine g_iload_n dX2_hasRoad_0 rfl rfl ?_
  refine g_if_lt 22 dX2_hasRoad_1 rfl (fun hc => ?_) (fun hc => ?_)
  · have hw := hw.1 hc
    refine g_iconst (v := 0) dX2_hasRoad_22 (by decide) ?_
    exact g_zret dX2_hasRoad_23 rfl hw
  · have hw := hw.2 hc
    refine g_iload_n dX2_hasRoad_4 rfl rfl ?_
    refine g_aload_n dX2_hasRoad_5 rfl rfl ?_
    refine g_getI dX2_hasRoad_6 fl_X2_18 ho0 rfl ?_
    refine g_icmp_ge 22 dX2_hasRoad_9 rfl (fun hc => ?_) (fun hc => ?_)
    · have hw := hw.1 hc
      refine g_iconst (v := 0) dX2_hasRoad_22 (by decide) ?_
      exact g_zret dX2_hasRoad_23 rfl hw
    · have hw := hw.2 hc
      refine g_iload_n dX2_hasRoad_12 rfl rfl ?_
      refine g_bipush (v := 16) dX2_hasRoad_13 (by decide) ?_
      refine g_icmp_ge 22 dX2_hasRoad_15 rfl (fun hc => ?_) (fun hc => ?_)
      · have hw := hw.1 hc
        refine g_iconst (v := 0) dX2_hasRoad_22 (by decide) ?_
        exact g_zret dX2_hasRoad_23 rfl hw
      · have hw := hw.2 hc
        refine g_iconst (v := 1) dX2_hasRoad_18 (by decide) ?_
        refine g_goto 23 dX2_hasRoad_19 rfl ?_
        exact g_zret dX2_hasRoad_23 rfl hw
theorem dX2_isOpen_0 : decode cX2_isOpen 0 = .ok (.aload_n 0, 1) := by decide +kernel
theorem dX2_isOpen_1 : decode cX2_isOpen 1 = .ok (.iload_n 2, 1) := by decide +kernel
theorem dX2_isOpen_2 : decode cX2_isOpen 2 = .ok (.invokevirtual 57, 3) := by decide +kernel
theorem dX2_isOpen_5 : decode cX2_isOpen 5 = .ok (.ifCond .eq 20, 3) := by decide +kernel
theorem dX2_isOpen_8 : decode cX2_isOpen 8 = .ok (.aload_n 0, 1) := by decide +kernel
theorem dX2_isOpen_9 : decode cX2_isOpen 9 = .ok (.iload_n 1, 1) := by decide +kernel
theorem dX2_isOpen_10 : decode cX2_isOpen 10 = .ok (.invokevirtual 53, 3) := by decide +kernel
theorem dX2_isOpen_13 : decode cX2_isOpen 13 = .ok (.iload_n 2, 1) := by decide +kernel
theorem dX2_isOpen_14 : decode cX2_isOpen 14 = .ok (.ishr, 1) := by decide +kernel
theorem dX2_isOpen_15 : decode cX2_isOpen 15 = .ok (.iconst 1, 1) := by decide +kernel
theorem dX2_isOpen_16 : decode cX2_isOpen 16 = .ok (.iand, 1) := by decide +kernel
theorem dX2_isOpen_17 : decode cX2_isOpen 17 = .ok (.iconst 1, 1) := by decide +kernel
theorem dX2_isOpen_18 : decode cX2_isOpen 18 = .ok (.if_icmp .ne 7, 3) := by decide +kernel
theorem dX2_isOpen_21 : decode cX2_isOpen 21 = .ok (.iconst 1, 1) := by decide +kernel
theorem dX2_isOpen_22 : decode cX2_isOpen 22 = .ok (.goto 4, 3) := by decide +kernel
theorem dX2_isOpen_25 : decode cX2_isOpen 25 = .ok (.iconst 0, 1) := by decide +kernel
theorem dX2_isOpen_26 : decode cX2_isOpen 26 = .ok (.ireturn, 1) := by decide +kernel
theorem ml_X2_57 : Cond.methodLink RX2 57 yX2_hasRoad ∈ Wd := mW 794 (by decide +kernel) rfl
theorem mk_X2_hasRoad : MokV yX2_hasRoad cX2_hasRoad 2 (some .boolean) 1 := ⟨⟨mW 5 (by decide +kernel) rfl, mW 797 (by decide +kernel) rfl, ⟨by decide, by decide, by decide +kernel⟩, by decide⟩, mW 795 (by decide +kernel) rfl, mW 796 (by decide +kernel) rfl⟩
def Land_isOpen (o0 : Nat) (x1 : Int32) (x2 : Int32) (h : Hp) (Q : Int32 → Hp → Prop) : Prop := Land_hasRoad o0 x2 h (fun r1 h2 => (r1 = 0 → Q 0 h2) ∧ (¬ r1 = 0 → Land_openRoads o0 x1 h2 (fun r3 h4 => (¬ ((r3 >>> (x2 &&& 31)) &&& 1) = 1 → Q 0 h4) ∧ (((r3 >>> (x2 &&& 31)) &&& 1) = 1 → Q 1 h4))))
set_option maxHeartbeats 4000000 in
set_option maxRecDepth 20000 in
theorem c_Land_isOpen {G : Gx} {o0 : Nat} (ho0 : SH o0 = .inl 2) {x1 : Int32} {x2 : Int32} {h : Hp} {Q : Int32 → Hp → Prop} (hw : Land_isOpen o0 x1 x2 h Q) : Ct yX2_isOpen cX2_isOpen 3 (some .boolean) 3 G [.ref (gAd G o0), .int x1, .int x2] h (QI G Q) := by
  refine ct_go [(0, .ref (gAd G o0)), (1, .int x1), (2, .int x2)] (plainFor_of_name (by decide)) rfl (Nat.le_of_ble_eq_true rfl) rfl ?_
  refine g_aload_n dX2_isOpen_0 rfl rfl ?_
  refine g_iload_n dX2_isOpen_1 rfl rfl ?_
  refine g_callVI [.int x2] (ci := 2) dX2_isOpen_2 ml_X2_57 mk_X2_hasRoad rfl rfl ho0 (Nat.le_of_ble_eq_true rfl) (Nat.le_of_ble_eq_true rfl) rfl (c_Land_hasRoad ho0 hw) (fun r1 h2 hw => ?_)
  refine g_if_eq 25 dX2_isOpen_5 rfl (fun hc => ?_) (fun hc => ?_)
  · have hw := hw.1 hc
    refine g_iconst (v := 0) dX2_isOpen_25 (by decide) ?_
    exact g_zret dX2_isOpen_26 rfl hw
  · have hw := hw.2 hc
    refine g_aload_n dX2_isOpen_8 rfl rfl ?_
    refine g_iload_n dX2_isOpen_9 rfl rfl ?_
    refine g_callVI [.int x1] (ci := 2) dX2_isOpen_10 ml_X2_53 mk_X2_openRoads rfl rfl ho0 (Nat.le_of_ble_eq_true rfl) (Nat.le_of_ble_eq_true rfl) rfl (c_Land_openRoads ho0 hw) (fun r3 h4 hw => ?_)
    refine g_iload_n dX2_isOpen_13 rfl rfl ?_
    refine g_ishr dX2_isOpen_14 ?_
    refine g_iconst (v := 1) dX2_isOpen_15 (by decide) ?_
    refine g_iand dX2_isOpen_16 ?_
    refine g_iconst (v := 1) dX2_isOpen_17 (by decide) ?_
    refine g_icmp_ne 25 dX2_isOpen_18 rfl (fun hc => ?_) (fun hc => ?_)
    · have hw := hw.1 hc
      refine g_iconst (v := 0) dX2_isOpen_25 (by decide) ?_
      exact g_zret dX2_isOpen_26 rfl hw
    · have hw := hw.2 hc
      refine g_iconst (v := 1) dX2_isOpen_21 (by decide) ?_
      refine g_goto 26 dX2_isOpen_22 rfl ?_
      exact g_zret dX2_isOpen_26 rfl hw
theorem dX2_waysFrom_0 : decode cX2_waysFrom 0 = .ok (.aload_n 0, 1) := by decide +kernel
theorem dX2_waysFrom_1 : decode cX2_waysFrom 1 = .ok (.iload_n 1, 1) := by decide +kernel
theorem dX2_waysFrom_2 : decode cX2_waysFrom 2 = .ok (.iload_n 2, 1) := by decide +kernel
theorem dX2_waysFrom_3 : decode cX2_waysFrom 3 = .ok (.invokevirtual 60, 3) := by decide +kernel
theorem dX2_waysFrom_6 : decode cX2_waysFrom 6 = .ok (.istore_n 3, 1) := by decide +kernel
theorem dX2_waysFrom_7 : decode cX2_waysFrom 7 = .ok (.iload_n 3, 1) := by decide +kernel
theorem dX2_waysFrom_8 : decode cX2_waysFrom 8 = .ok (.ifCond .ne 8, 3) := by decide +kernel
theorem dX2_waysFrom_11 : decode cX2_waysFrom 11 = .ok (.ldc 64, 2) := by decide +kernel
theorem dX2_waysFrom_13 : decode cX2_waysFrom 13 = .ok (.goto 4, 3) := by decide +kernel
theorem dX2_waysFrom_16 : decode cX2_waysFrom 16 = .ok (.iload_n 3, 1) := by decide +kernel
theorem dX2_waysFrom_17 : decode cX2_waysFrom 17 = .ok (.ireturn, 1) := by decide +kernel
theorem ml_X2_60 : Cond.methodLink RX2 60 yX2_openFrom ∈ Wd := mW 802 (by decide +kernel) rfl
theorem mk_X2_openFrom : MokV yX2_openFrom cX2_openFrom 3 (some .int) 2 := ⟨⟨mW 5 (by decide +kernel) rfl, mW 770 (by decide +kernel) rfl, ⟨by decide, by decide, by decide +kernel⟩, by decide⟩, mW 768 (by decide +kernel) rfl, mW 769 (by decide +kernel) rfl⟩
theorem kc_X2_64 : Cond.constant RX2 64 (65536) ∈ Wd := mW 803 (by decide +kernel) rfl
def Land_waysFrom (o0 : Nat) (x1 : Int32) (x2 : Int32) (h : Hp) (Q : Int32 → Hp → Prop) : Prop := Land_openFrom o0 x1 x2 h (fun r1 h2 => (¬ r1 = 0 → Q r1 h2) ∧ (r1 = 0 → Q 65536 h2))
set_option maxHeartbeats 4000000 in
set_option maxRecDepth 20000 in
theorem c_Land_waysFrom {G : Gx} {o0 : Nat} (ho0 : SH o0 = .inl 2) {x1 : Int32} {x2 : Int32} {h : Hp} {Q : Int32 → Hp → Prop} (hw : Land_waysFrom o0 x1 x2 h Q) : Ct yX2_waysFrom cX2_waysFrom 4 (some .int) 4 G [.ref (gAd G o0), .int x1, .int x2] h (QI G Q) := by
  refine ct_go [(0, .ref (gAd G o0)), (1, .int x1), (2, .int x2)] (plainFor_of_name (by decide)) rfl (Nat.le_of_ble_eq_true rfl) rfl ?_
  refine g_aload_n dX2_waysFrom_0 rfl rfl ?_
  refine g_iload_n dX2_waysFrom_1 rfl rfl ?_
  refine g_iload_n dX2_waysFrom_2 rfl rfl ?_
  refine g_callVI [.int x1, .int x2] (ci := 2) dX2_waysFrom_3 ml_X2_60 mk_X2_openFrom rfl rfl ho0 (Nat.le_of_ble_eq_true rfl) (Nat.le_of_ble_eq_true rfl) rfl (c_Land_openFrom ho0 hw) (fun r1 h2 hw => ?_)
  refine g_istore_n dX2_waysFrom_6 rfl (by decide) (lv1 := [(0, .ref (gAd G o0)), (1, .int x1), (2, .int x2), (3, .int r1)]) rfl ?_
  refine g_iload_n dX2_waysFrom_7 rfl rfl ?_
  refine g_if_ne 16 dX2_waysFrom_8 rfl (fun hc => ?_) (fun hc => ?_)
  · have hw := hw.1 hc
    refine g_iload_n dX2_waysFrom_16 rfl rfl ?_
    exact g_iret dX2_waysFrom_17 hw
  · have hw := hw.2 hc
    refine g_ldc dX2_waysFrom_11 kc_X2_64 ?_
    refine g_goto 17 dX2_waysFrom_13 rfl ?_
    exact g_iret dX2_waysFrom_17 hw
theorem dJ6_numberOfTrailingZeros_0f7a4_0 : decode cJ6_numberOfTrailingZeros_0f7a4 0 = .ok (.iload_n 0, 1) := by decide +kernel
theorem dJ6_numberOfTrailingZeros_0f7a4_1 : decode cJ6_numberOfTrailingZeros_0f7a4 1 = .ok (.iconst (-1), 1) := by decide +kernel
theorem dJ6_numberOfTrailingZeros_0f7a4_2 : decode cJ6_numberOfTrailingZeros_0f7a4 2 = .ok (.ixor, 1) := by decide +kernel
theorem dJ6_numberOfTrailingZeros_0f7a4_3 : decode cJ6_numberOfTrailingZeros_0f7a4 3 = .ok (.iload_n 0, 1) := by decide +kernel
theorem dJ6_numberOfTrailingZeros_0f7a4_4 : decode cJ6_numberOfTrailingZeros_0f7a4 4 = .ok (.iconst 1, 1) := by decide +kernel
theorem dJ6_numberOfTrailingZeros_0f7a4_5 : decode cJ6_numberOfTrailingZeros_0f7a4 5 = .ok (.isub, 1) := by decide +kernel
theorem dJ6_numberOfTrailingZeros_0f7a4_6 : decode cJ6_numberOfTrailingZeros_0f7a4 6 = .ok (.iand, 1) := by decide +kernel
theorem dJ6_numberOfTrailingZeros_0f7a4_7 : decode cJ6_numberOfTrailingZeros_0f7a4 7 = .ok (.istore_n 0, 1) := by decide +kernel
theorem dJ6_numberOfTrailingZeros_0f7a4_8 : decode cJ6_numberOfTrailingZeros_0f7a4 8 = .ok (.iload_n 0, 1) := by decide +kernel
theorem dJ6_numberOfTrailingZeros_0f7a4_9 : decode cJ6_numberOfTrailingZeros_0f7a4 9 = .ok (.ifCond .gt 8, 3) := by decide +kernel
theorem dJ6_numberOfTrailingZeros_0f7a4_12 : decode cJ6_numberOfTrailingZeros_0f7a4 12 = .ok (.iload_n 0, 1) := by decide +kernel
theorem dJ6_numberOfTrailingZeros_0f7a4_13 : decode cJ6_numberOfTrailingZeros_0f7a4 13 = .ok (.bipush 32, 2) := by decide +kernel
theorem dJ6_numberOfTrailingZeros_0f7a4_15 : decode cJ6_numberOfTrailingZeros_0f7a4 15 = .ok (.iand, 1) := by decide +kernel
theorem dJ6_numberOfTrailingZeros_0f7a4_16 : decode cJ6_numberOfTrailingZeros_0f7a4 16 = .ok (.ireturn, 1) := by decide +kernel
theorem dJ6_numberOfTrailingZeros_0f7a4_17 : decode cJ6_numberOfTrailingZeros_0f7a4 17 = .ok (.iconst 1, 1) := by decide +kernel
theorem dJ6_numberOfTrailingZeros_0f7a4_18 : decode cJ6_numberOfTrailingZeros_0f7a4 18 = .ok (.istore_n 1, 1) := by decide +kernel
theorem dJ6_numberOfTrailingZeros_0f7a4_19 : decode cJ6_numberOfTrailingZeros_0f7a4 19 = .ok (.iload_n 0, 1) := by decide +kernel
theorem dJ6_numberOfTrailingZeros_0f7a4_20 : decode cJ6_numberOfTrailingZeros_0f7a4 20 = .ok (.ldc_w 264, 3) := by decide +kernel
theorem dJ6_numberOfTrailingZeros_0f7a4_23 : decode cJ6_numberOfTrailingZeros_0f7a4 23 = .ok (.if_icmp .le 11, 3) := by decide +kernel
theorem dJ6_numberOfTrailingZeros_0f7a4_26 : decode cJ6_numberOfTrailingZeros_0f7a4 26 = .ok (.iinc 1 16, 3) := by decide +kernel
theorem dJ6_numberOfTrailingZeros_0f7a4_29 : decode cJ6_numberOfTrailingZeros_0f7a4 29 = .ok (.iload_n 0, 1) := by decide +kernel
theorem dJ6_numberOfTrailingZeros_0f7a4_30 : decode cJ6_numberOfTrailingZeros_0f7a4 30 = .ok (.bipush 16, 2) := by decide +kernel
theorem dJ6_numberOfTrailingZeros_0f7a4_32 : decode cJ6_numberOfTrailingZeros_0f7a4 32 = .ok (.iushr, 1) := by decide +kernel
theorem dJ6_numberOfTrailingZeros_0f7a4_33 : decode cJ6_numberOfTrailingZeros_0f7a4 33 = .ok (.istore_n 0, 1) := by decide +kernel
theorem dJ6_numberOfTrailingZeros_0f7a4_34 : decode cJ6_numberOfTrailingZeros_0f7a4 34 = .ok (.iload_n 0, 1) := by decide +kernel
theorem dJ6_numberOfTrailingZeros_0f7a4_35 : decode cJ6_numberOfTrailingZeros_0f7a4 35 = .ok (.sipush 256, 3) := by decide +kernel
theorem dJ6_numberOfTrailingZeros_0f7a4_38 : decode cJ6_numberOfTrailingZeros_0f7a4 38 = .ok (.if_icmp .le 11, 3) := by decide +kernel
theorem dJ6_numberOfTrailingZeros_0f7a4_41 : decode cJ6_numberOfTrailingZeros_0f7a4 41 = .ok (.iinc 1 8, 3) := by decide +kernel
theorem dJ6_numberOfTrailingZeros_0f7a4_44 : decode cJ6_numberOfTrailingZeros_0f7a4 44 = .ok (.iload_n 0, 1) := by decide +kernel
theorem dJ6_numberOfTrailingZeros_0f7a4_45 : decode cJ6_numberOfTrailingZeros_0f7a4 45 = .ok (.bipush 8, 2) := by decide +kernel
theorem dJ6_numberOfTrailingZeros_0f7a4_47 : decode cJ6_numberOfTrailingZeros_0f7a4 47 = .ok (.iushr, 1) := by decide +kernel
theorem dJ6_numberOfTrailingZeros_0f7a4_48 : decode cJ6_numberOfTrailingZeros_0f7a4 48 = .ok (.istore_n 0, 1) := by decide +kernel
theorem dJ6_numberOfTrailingZeros_0f7a4_49 : decode cJ6_numberOfTrailingZeros_0f7a4 49 = .ok (.iload_n 0, 1) := by decide +kernel
theorem dJ6_numberOfTrailingZeros_0f7a4_50 : decode cJ6_numberOfTrailingZeros_0f7a4 50 = .ok (.bipush 16, 2) := by decide +kernel
theorem dJ6_numberOfTrailingZeros_0f7a4_52 : decode cJ6_numberOfTrailingZeros_0f7a4 52 = .ok (.if_icmp .le 10, 3) := by decide +kernel
theorem dJ6_numberOfTrailingZeros_0f7a4_55 : decode cJ6_numberOfTrailingZeros_0f7a4 55 = .ok (.iinc 1 4, 3) := by decide +kernel
theorem dJ6_numberOfTrailingZeros_0f7a4_58 : decode cJ6_numberOfTrailingZeros_0f7a4 58 = .ok (.iload_n 0, 1) := by decide +kernel
theorem dJ6_numberOfTrailingZeros_0f7a4_59 : decode cJ6_numberOfTrailingZeros_0f7a4 59 = .ok (.iconst 4, 1) := by decide +kernel
theorem dJ6_numberOfTrailingZeros_0f7a4_60 : decode cJ6_numberOfTrailingZeros_0f7a4 60 = .ok (.iushr, 1) := by decide +kernel
theorem dJ6_numberOfTrailingZeros_0f7a4_61 : decode cJ6_numberOfTrailingZeros_0f7a4 61 = .ok (.istore_n 0, 1) := by decide +kernel
theorem dJ6_numberOfTrailingZeros_0f7a4_62 : decode cJ6_numberOfTrailingZeros_0f7a4 62 = .ok (.iload_n 0, 1) := by decide +kernel
theorem dJ6_numberOfTrailingZeros_0f7a4_63 : decode cJ6_numberOfTrailingZeros_0f7a4 63 = .ok (.iconst 4, 1) := by decide +kernel
theorem dJ6_numberOfTrailingZeros_0f7a4_64 : decode cJ6_numberOfTrailingZeros_0f7a4 64 = .ok (.if_icmp .le 10, 3) := by decide +kernel
theorem dJ6_numberOfTrailingZeros_0f7a4_67 : decode cJ6_numberOfTrailingZeros_0f7a4 67 = .ok (.iinc 1 2, 3) := by decide +kernel
theorem dJ6_numberOfTrailingZeros_0f7a4_70 : decode cJ6_numberOfTrailingZeros_0f7a4 70 = .ok (.iload_n 0, 1) := by decide +kernel
theorem dJ6_numberOfTrailingZeros_0f7a4_71 : decode cJ6_numberOfTrailingZeros_0f7a4 71 = .ok (.iconst 2, 1) := by decide +kernel
theorem dJ6_numberOfTrailingZeros_0f7a4_72 : decode cJ6_numberOfTrailingZeros_0f7a4 72 = .ok (.iushr, 1) := by decide +kernel
theorem dJ6_numberOfTrailingZeros_0f7a4_73 : decode cJ6_numberOfTrailingZeros_0f7a4 73 = .ok (.istore_n 0, 1) := by decide +kernel
theorem dJ6_numberOfTrailingZeros_0f7a4_74 : decode cJ6_numberOfTrailingZeros_0f7a4 74 = .ok (.iload_n 1, 1) := by decide +kernel
theorem dJ6_numberOfTrailingZeros_0f7a4_75 : decode cJ6_numberOfTrailingZeros_0f7a4 75 = .ok (.iload_n 0, 1) := by decide +kernel
theorem dJ6_numberOfTrailingZeros_0f7a4_76 : decode cJ6_numberOfTrailingZeros_0f7a4 76 = .ok (.iconst 1, 1) := by decide +kernel
theorem dJ6_numberOfTrailingZeros_0f7a4_77 : decode cJ6_numberOfTrailingZeros_0f7a4 77 = .ok (.iushr, 1) := by decide +kernel
theorem dJ6_numberOfTrailingZeros_0f7a4_78 : decode cJ6_numberOfTrailingZeros_0f7a4 78 = .ok (.iadd, 1) := by decide +kernel
theorem dJ6_numberOfTrailingZeros_0f7a4_79 : decode cJ6_numberOfTrailingZeros_0f7a4 79 = .ok (.ireturn, 1) := by decide +kernel
theorem kc_J6_264 : Cond.constant RJ6 264 (65536) ∈ Wd := mW 807 (by decide +kernel) rfl
def J6_numberOfTrailingZeros_0f7a4 (x0 : Int32) (h : Hp) (Q : Int32 → Hp → Prop) : Prop := ∀ v1 : Int32, v1 = ((x0 ^^^ (-1)) &&& (x0 - 1)) → (0 < v1 → ∀ J34 : Int32 → Int32 → Hp → Prop, J34 = (fun x0_2 x1_3 h4 => ∀ J49 : Int32 → Int32 → Hp → Prop, J49 = (fun x0_5 x1_6 h7 => ∀ J62 : Int32 → Int32 → Hp → Prop, J62 = (fun x0_8 x1_9 h10 => ∀ J74 : Int32 → Int32 → Hp → Prop, J74 = (fun x0_11 x1_12 h13 => Q (x1_12 + (((x0_11).toUInt32 >>> ((1).toUInt32 &&& Int32.toUInt32 31)).toInt32)) h13) → (x0_8 ≤ 4 → J74 x0_8 x1_9 h10) ∧ (¬ x0_8 ≤ 4 → ∀ v14 : Int32, v14 = (x1_9 + 2) → ∀ v15 : Int32, v15 = (((x0_8).toUInt32 >>> ((2).toUInt32 &&& Int32.toUInt32 31)).toInt32) → J74 v15 v14 h10)) → (x0_5 ≤ 16 → J62 x0_5 x1_6 h7) ∧ (¬ x0_5 ≤ 16 → ∀ v16 : Int32, v16 = (x1_6 + 4) → ∀ v17 : Int32, v17 = (((x0_5).toUInt32 >>> ((4).toUInt32 &&& Int32.toUInt32 31)).toInt32) → J62 v17 v16 h7)) → (x0_2 ≤ 256 → J49 x0_2 x1_3 h4) ∧ (¬ x0_2 ≤ 256 → ∀ v18 : Int32, v18 = (x1_3 + 8) → ∀ v19 : Int32, v19 = (((x0_2).toUInt32 >>> ((8).toUInt32 &&& Int32.toUInt32 31)).toInt32) → J49 v19 v18 h4)) → (v1 ≤ 65536 → J34 v1 1 h) ∧ (¬ v1 ≤ 65536 → ∀ v20 : Int32, v20 = (1 + 16) → ∀ v21 : Int32, v21 = (((v1).toUInt32 >>> ((16).toUInt32 &&& Int32.toUInt32 31)).toInt32) → J34 v21 v20 h)) ∧ (¬ 0 < v1 → Q (v1 &&& 32) h)
set_option maxHeartbeats 4000000 in
set_option maxRecDepth 20000 in
theorem c_J6_numberOfTrailingZeros_0f7a4 {G : Gx}  {x0 : Int32} {h : Hp} {Q : Int32 → Hp → Prop} (hw : J6_numberOfTrailingZeros_0f7a4 x0 h Q) : Ct yJ6_numberOfTrailingZeros_0f7a4 cJ6_numberOfTrailingZeros_0f7a4 2 (some .int) 1 G [.int x0] h (QI G Q) := by
  refine ct_go [(0, .int x0)] (plainFor_of_name (by decide)) rfl (Nat.le_of_ble_eq_true rfl) rfl ?_
  refine g_iload_n dJ6_numberOfTrailingZeros_0f7a4_0 rfl rfl ?_
  refine g_iconst (v := (-1)) dJ6_numberOfTrailingZeros_0f7a4_1 (by decide) ?_
  refine g_ixor dJ6_numberOfTrailingZeros_0f7a4_2 ?_
  refine g_iload_n dJ6_numberOfTrailingZeros_0f7a4_3 rfl rfl ?_
  refine g_iconst (v := 1) dJ6_numberOfTrailingZeros_0f7a4_4 (by decide) ?_
  refine g_isub dJ6_numberOfTrailingZeros_0f7a4_5 ?_
  refine g_iand dJ6_numberOfTrailingZeros_0f7a4_6 ?_
  refine g_topi (fun v1 ev1 => ?_)
  have hw := hw v1 ev1
  refine g_istore_n dJ6_numberOfTrailingZeros_0f7a4_7 rfl (by decide) (lv1 := [(0, .int v1)]) rfl ?_
  refine g_iload_n dJ6_numberOfTrailingZeros_0f7a4_8 rfl rfl ?_
  refine g_if_gt 17 dJ6_numberOfTrailingZeros_0f7a4_9 rfl (fun hc => ?_) (fun hc => ?_)
  · have hw := hw.1 hc
    refine g_iconst (v := 1) dJ6_numberOfTrailingZeros_0f7a4_17 (by decide) ?_
    refine g_istore_n dJ6_numberOfTrailingZeros_0f7a4_18 rfl (by decide) (lv1 := [(0, .int v1), (1, .int 1)]) rfl ?_
    refine g_iload_n dJ6_numberOfTrailingZeros_0f7a4_19 rfl rfl ?_
    refine g_ldcw dJ6_numberOfTrailingZeros_0f7a4_20 kc_J6_264 ?_
    refine jn_el hw (fun J34 eJ34 hw => ?_)
    have hJ34 : ∀ (x0_2 : Int32) (x1_3 : Int32) (h4 : Hp), J34 x0_2 x1_3 h4 → Go cJ6_numberOfTrailingZeros_0f7a4 2 RJ6 (some .int) 1 G (QI G Q) 34 [(0, .int x0_2), (1, .int x1_3)] [] h4 := by
      intro x0_2 x1_3 h4 hw
      subst eJ34
      refine g_iload_n dJ6_numberOfTrailingZeros_0f7a4_34 rfl rfl ?_
      refine g_sipush (v := 256) dJ6_numberOfTrailingZeros_0f7a4_35 (by decide) ?_
      refine jn_el hw (fun J49 eJ49 hw => ?_)
      have hJ49 : ∀ (x0_5 : Int32) (x1_6 : Int32) (h7 : Hp), J49 x0_5 x1_6 h7 → Go cJ6_numberOfTrailingZeros_0f7a4 2 RJ6 (some .int) 1 G (QI G Q) 49 [(0, .int x0_5), (1, .int x1_6)] [] h7 := by
        intro x0_5 x1_6 h7 hw
        subst eJ49
        refine g_iload_n dJ6_numberOfTrailingZeros_0f7a4_49 rfl rfl ?_
        refine g_bipush (v := 16) dJ6_numberOfTrailingZeros_0f7a4_50 (by decide) ?_
        refine jn_el hw (fun J62 eJ62 hw => ?_)
        have hJ62 : ∀ (x0_8 : Int32) (x1_9 : Int32) (h10 : Hp), J62 x0_8 x1_9 h10 → Go cJ6_numberOfTrailingZeros_0f7a4 2 RJ6 (some .int) 1 G (QI G Q) 62 [(0, .int x0_8), (1, .int x1_9)] [] h10 := by
          intro x0_8 x1_9 h10 hw
          subst eJ62
          refine g_iload_n dJ6_numberOfTrailingZeros_0f7a4_62 rfl rfl ?_
          refine g_iconst (v := 4) dJ6_numberOfTrailingZeros_0f7a4_63 (by decide) ?_
          refine jn_el hw (fun J74 eJ74 hw => ?_)
          have hJ74 : ∀ (x0_11 : Int32) (x1_12 : Int32) (h13 : Hp), J74 x0_11 x1_12 h13 → Go cJ6_numberOfTrailingZeros_0f7a4 2 RJ6 (some .int) 1 G (QI G Q) 74 [(0, .int x0_11), (1, .int x1_12)] [] h13 := by
            intro x0_11 x1_12 h13 hw
            subst eJ74
            refine g_iload_n dJ6_numberOfTrailingZeros_0f7a4_74 rfl rfl ?_
            refine g_iload_n dJ6_numberOfTrailingZeros_0f7a4_75 rfl rfl ?_
            refine g_iconst (v := 1) dJ6_numberOfTrailingZeros_0f7a4_76 (by decide) ?_
            refine g_iushr dJ6_numberOfTrailingZeros_0f7a4_77 ?_
            refine g_iadd dJ6_numberOfTrailingZeros_0f7a4_78 ?_
            exact g_iret dJ6_numberOfTrailingZeros_0f7a4_79 hw
          refine g_icmp_le 74 dJ6_numberOfTrailingZeros_0f7a4_64 rfl (fun hc => ?_) (fun hc => ?_)
          · have hw := hw.1 hc
            exact hJ74 _ _ _ hw
          · have hw := hw.2 hc
            obtain ⟨v14, ev14⟩ : ∃ y : Int32, y = (x1_9 + 2) := ⟨_, rfl⟩
            have hw := hw v14 ev14
            refine g_iinc dJ6_numberOfTrailingZeros_0f7a4_67 rfl (by rw [ev14]; rfl) (by decide) (lv1 := [(0, .int x0_8), (1, .int v14)]) rfl ?_
            refine g_iload_n dJ6_numberOfTrailingZeros_0f7a4_70 rfl rfl ?_
            refine g_iconst (v := 2) dJ6_numberOfTrailingZeros_0f7a4_71 (by decide) ?_
            refine g_iushr dJ6_numberOfTrailingZeros_0f7a4_72 ?_
            refine g_topi (fun v15 ev15 => ?_)
            have hw := hw v15 ev15
            refine g_istore_n dJ6_numberOfTrailingZeros_0f7a4_73 rfl (by decide) (lv1 := [(0, .int v15), (1, .int v14)]) rfl ?_
            exact hJ74 _ _ _ hw
        refine g_icmp_le 62 dJ6_numberOfTrailingZeros_0f7a4_52 rfl (fun hc => ?_) (fun hc => ?_)
        · have hw := hw.1 hc
          exact hJ62 _ _ _ hw
        · have hw := hw.2 hc
          obtain ⟨v16, ev16⟩ : ∃ y : Int32, y = (x1_6 + 4) := ⟨_, rfl⟩
          have hw := hw v16 ev16
          refine g_iinc dJ6_numberOfTrailingZeros_0f7a4_55 rfl (by rw [ev16]; rfl) (by decide) (lv1 := [(0, .int x0_5), (1, .int v16)]) rfl ?_
          refine g_iload_n dJ6_numberOfTrailingZeros_0f7a4_58 rfl rfl ?_
          refine g_iconst (v := 4) dJ6_numberOfTrailingZeros_0f7a4_59 (by decide) ?_
          refine g_iushr dJ6_numberOfTrailingZeros_0f7a4_60 ?_
          refine g_topi (fun v17 ev17 => ?_)
          have hw := hw v17 ev17
          refine g_istore_n dJ6_numberOfTrailingZeros_0f7a4_61 rfl (by decide) (lv1 := [(0, .int v17), (1, .int v16)]) rfl ?_
          exact hJ62 _ _ _ hw
      refine g_icmp_le 49 dJ6_numberOfTrailingZeros_0f7a4_38 rfl (fun hc => ?_) (fun hc => ?_)
      · have hw := hw.1 hc
        exact hJ49 _ _ _ hw
      · have hw := hw.2 hc
        obtain ⟨v18, ev18⟩ : ∃ y : Int32, y = (x1_3 + 8) := ⟨_, rfl⟩
        have hw := hw v18 ev18
        refine g_iinc dJ6_numberOfTrailingZeros_0f7a4_41 rfl (by rw [ev18]; rfl) (by decide) (lv1 := [(0, .int x0_2), (1, .int v18)]) rfl ?_
        refine g_iload_n dJ6_numberOfTrailingZeros_0f7a4_44 rfl rfl ?_
        refine g_bipush (v := 8) dJ6_numberOfTrailingZeros_0f7a4_45 (by decide) ?_
        refine g_iushr dJ6_numberOfTrailingZeros_0f7a4_47 ?_
        refine g_topi (fun v19 ev19 => ?_)
        have hw := hw v19 ev19
        refine g_istore_n dJ6_numberOfTrailingZeros_0f7a4_48 rfl (by decide) (lv1 := [(0, .int v19), (1, .int v18)]) rfl ?_
        exact hJ49 _ _ _ hw
    refine g_icmp_le 34 dJ6_numberOfTrailingZeros_0f7a4_23 rfl (fun hc => ?_) (fun hc => ?_)
    · have hw := hw.1 hc
      exact hJ34 _ _ _ hw
    · have hw := hw.2 hc
      obtain ⟨v20, ev20⟩ : ∃ y : Int32, y = (1 + 16) := ⟨_, rfl⟩
      have hw := hw v20 ev20
      refine g_iinc dJ6_numberOfTrailingZeros_0f7a4_26 rfl (by rw [ev20]; rfl) (by decide) (lv1 := [(0, .int v1), (1, .int v20)]) rfl ?_
      refine g_iload_n dJ6_numberOfTrailingZeros_0f7a4_29 rfl rfl ?_
      refine g_bipush (v := 16) dJ6_numberOfTrailingZeros_0f7a4_30 (by decide) ?_
      refine g_iushr dJ6_numberOfTrailingZeros_0f7a4_32 ?_
      refine g_topi (fun v21 ev21 => ?_)
      have hw := hw v21 ev21
      refine g_istore_n dJ6_numberOfTrailingZeros_0f7a4_33 rfl (by decide) (lv1 := [(0, .int v21), (1, .int v20)]) rfl ?_
      exact hJ34 _ _ _ hw
  · have hw := hw.2 hc
    refine g_iload_n dJ6_numberOfTrailingZeros_0f7a4_12 rfl rfl ?_
    refine g_bipush (v := 32) dJ6_numberOfTrailingZeros_0f7a4_13 (by decide) ?_
    refine g_iand dJ6_numberOfTrailingZeros_0f7a4_15 ?_
    exact g_iret dJ6_numberOfTrailingZeros_0f7a4_16 hw
theorem dX2_payOf_0 : decode cX2_payOf 0 = .ok (.aload_n 0, 1) := by decide +kernel
theorem dX2_payOf_1 : decode cX2_payOf 1 = .ok (.iload_n 2, 1) := by decide +kernel
theorem dX2_payOf_2 : decode cX2_payOf 2 = .ok (.invokevirtual 57, 3) := by decide +kernel
theorem dX2_payOf_5 : decode cX2_payOf 5 = .ok (.ifCond .eq 24, 3) := by decide +kernel
theorem dX2_payOf_8 : decode cX2_payOf 8 = .ok (.iload_n 1, 1) := by decide +kernel
theorem dX2_payOf_9 : decode cX2_payOf 9 = .ok (.invokestatic 46, 3) := by decide +kernel
theorem dX2_payOf_12 : decode cX2_payOf 12 = .ok (.ifCond .eq 17, 3) := by decide +kernel
theorem dX2_payOf_15 : decode cX2_payOf 15 = .ok (.aload_n 0, 1) := by decide +kernel
theorem dX2_payOf_16 : decode cX2_payOf 16 = .ok (.getfield 37, 3) := by decide +kernel
theorem dX2_payOf_19 : decode cX2_payOf 19 = .ok (.iload_n 1, 1) := by decide +kernel
theorem dX2_payOf_20 : decode cX2_payOf 20 = .ok (.bipush 16, 2) := by decide +kernel
theorem dX2_payOf_22 : decode cX2_payOf 22 = .ok (.imul, 1) := by decide +kernel
theorem dX2_payOf_23 : decode cX2_payOf 23 = .ok (.iload_n 2, 1) := by decide +kernel
theorem dX2_payOf_24 : decode cX2_payOf 24 = .ok (.iadd, 1) := by decide +kernel
theorem dX2_payOf_25 : decode cX2_payOf 25 = .ok (.iaload, 1) := by decide +kernel
theorem dX2_payOf_26 : decode cX2_payOf 26 = .ok (.goto 4, 3) := by decide +kernel
theorem dX2_payOf_29 : decode cX2_payOf 29 = .ok (.iconst 0, 1) := by decide +kernel
theorem dX2_payOf_30 : decode cX2_payOf 30 = .ok (.ireturn, 1) := by decide +kernel
theorem fl_X2_37 : FLk RX2 37 2 8 := ⟨_, rfl, by decide, mW 167 (by decide +kernel) rfl⟩
def Land_payOf (o0 : Nat) (x1 : Int32) (x2 : Int32) (h : Hp) (Q : Int32 → Hp → Prop) : Prop := Land_hasRoad o0 x2 h (fun r1 h2 => (r1 = 0 → Q 0 h2) ∧ (¬ r1 = 0 → C_isWeather x1 h2 (fun r3 h4 => (r3 = 0 → Q 0 h4) ∧ (¬ r3 = 0 → vp_in ((x1 * 16) + x2) (alen (rf o0 8)) ∧ Q (gI h4 (rf o0 8) (((x1 * 16) + x2)).toNatClampNeg) h4))))
set_option maxHeartbeats 4000000 in
set_option maxRecDepth 20000 in
theorem c_Land_payOf {G : Gx} {o0 : Nat} (ho0 : SH o0 = .inl 2) {x1 : Int32} {x2 : Int32} {h : Hp} {Q : Int32 → Hp → Prop} (hw : Land_payOf o0 x1 x2 h Q) : Ct yX2_payOf cX2_payOf 3 (some .int) 2 G [.ref (gAd G o0), .int x1, .int x2] h (QI G Q) := by
  refine ct_go [(0, .ref (gAd G o0)), (1, .int x1), (2, .int x2)] (plainFor_of_name (by decide)) rfl (Nat.le_of_ble_eq_true rfl) rfl ?_
  refine g_aload_n dX2_payOf_0 rfl rfl ?_
  refine g_iload_n dX2_payOf_1 rfl rfl ?_
  refine g_callVI [.int x2] (ci := 2) dX2_payOf_2 ml_X2_57 mk_X2_hasRoad rfl rfl ho0 (Nat.le_of_ble_eq_true rfl) (Nat.le_of_ble_eq_true rfl) rfl (c_Land_hasRoad ho0 hw) (fun r1 h2 hw => ?_)
  refine g_if_eq 29 dX2_payOf_5 rfl (fun hc => ?_) (fun hc => ?_)
  · have hw := hw.1 hc
    refine g_iconst (v := 0) dX2_payOf_29 (by decide) ?_
    exact g_iret dX2_payOf_30 hw
  · have hw := hw.2 hc
    refine g_iload_n dX2_payOf_8 rfl rfl ?_
    refine g_callWe [.int x1] rfl dX2_payOf_9 mk_X11_isWeather rfl (Nat.le_of_ble_eq_true rfl) (Nat.le_of_ble_eq_true rfl) rfl (c_C_isWeather hw) (fun r3 h4 hw => ?_)
    refine g_if_eq 29 dX2_payOf_12 rfl (fun hc => ?_) (fun hc => ?_)
    · have hw := hw.1 hc
      refine g_iconst (v := 0) dX2_payOf_29 (by decide) ?_
      exact g_iret dX2_payOf_30 hw
    · have hw := hw.2 hc
      refine g_aload_n dX2_payOf_15 rfl rfl ?_
      refine g_getA dX2_payOf_16 fl_X2_37 ho0 rfl ?_
      refine g_iload_n dX2_payOf_19 rfl rfl ?_
      refine g_bipush (v := 16) dX2_payOf_20 (by decide) ?_
      refine g_imul dX2_payOf_22 ?_
      refine g_iload_n dX2_payOf_23 rfl rfl ?_
      refine g_iadd dX2_payOf_24 ?_
      refine g_iald dX2_payOf_25 (rf_a ho0 (k := 8) rfl) hw.1 ?_
      have hw := hw.2
      refine g_goto 30 dX2_payOf_26 rfl ?_
      exact g_iret dX2_payOf_30 hw
theorem dX2_target_0 : decode cX2_target 0 = .ok (.aload_n 0, 1) := by decide +kernel
theorem dX2_target_1 : decode cX2_target 1 = .ok (.iload_n 2, 1) := by decide +kernel
theorem dX2_target_2 : decode cX2_target 2 = .ok (.invokevirtual 57, 3) := by decide +kernel
theorem dX2_target_5 : decode cX2_target 5 = .ok (.ifCond .eq 12, 3) := by decide +kernel
theorem dX2_target_8 : decode cX2_target 8 = .ok (.aload_n 0, 1) := by decide +kernel
theorem dX2_target_9 : decode cX2_target 9 = .ok (.getfield 28, 3) := by decide +kernel
theorem dX2_target_12 : decode cX2_target 12 = .ok (.iload_n 2, 1) := by decide +kernel
theorem dX2_target_13 : decode cX2_target 13 = .ok (.iaload, 1) := by decide +kernel
theorem dX2_target_14 : decode cX2_target 14 = .ok (.goto 4, 3) := by decide +kernel
theorem dX2_target_17 : decode cX2_target 17 = .ok (.iload_n 1, 1) := by decide +kernel
theorem dX2_target_18 : decode cX2_target 18 = .ok (.ireturn, 1) := by decide +kernel
theorem fl_X2_28 : FLk RX2 28 2 5 := ⟨_, rfl, by decide, mW 160 (by decide +kernel) rfl⟩
def Land_target (o0 : Nat) (x1 : Int32) (x2 : Int32) (h : Hp) (Q : Int32 → Hp → Prop) : Prop := Land_hasRoad o0 x2 h (fun r1 h2 => (r1 = 0 → Q x1 h2) ∧ (¬ r1 = 0 → vp_in x2 (alen (rf o0 5)) ∧ Q (gI h2 (rf o0 5) (x2).toNatClampNeg) h2))
set_option maxHeartbeats 4000000 in
set_option maxRecDepth 20000 in
theorem c_Land_target {G : Gx} {o0 : Nat} (ho0 : SH o0 = .inl 2) {x1 : Int32} {x2 : Int32} {h : Hp} {Q : Int32 → Hp → Prop} (hw : Land_target o0 x1 x2 h Q) : Ct yX2_target cX2_target 3 (some .int) 2 G [.ref (gAd G o0), .int x1, .int x2] h (QI G Q) := by
  refine ct_go [(0, .ref (gAd G o0)), (1, .int x1), (2, .int x2)] (plainFor_of_name (by decide)) rfl (Nat.le_of_ble_eq_true rfl) rfl ?_
  refine g_aload_n dX2_target_0 rfl rfl ?_
  refine g_iload_n dX2_target_1 rfl rfl ?_
  refine g_callVI [.int x2] (ci := 2) dX2_target_2 ml_X2_57 mk_X2_hasRoad rfl rfl ho0 (Nat.le_of_ble_eq_true rfl) (Nat.le_of_ble_eq_true rfl) rfl (c_Land_hasRoad ho0 hw) (fun r1 h2 hw => ?_)
  refine g_if_eq 17 dX2_target_5 rfl (fun hc => ?_) (fun hc => ?_)
  · have hw := hw.1 hc
    refine g_iload_n dX2_target_17 rfl rfl ?_
    exact g_iret dX2_target_18 hw
  · have hw := hw.2 hc
    refine g_aload_n dX2_target_8 rfl rfl ?_
    refine g_getA dX2_target_9 fl_X2_28 ho0 rfl ?_
    refine g_iload_n dX2_target_12 rfl rfl ?_
    refine g_iald dX2_target_13 (rf_a ho0 (k := 5) rfl) hw.1 ?_
    have hw := hw.2
    refine g_goto 18 dX2_target_14 rfl ?_
    exact g_iret dX2_target_18 hw
theorem dX11_isEither_0 : decode cX11_isEither 0 = .ok (.iload_n 0, 1) := by decide +kernel
theorem dX11_isEither_1 : decode cX11_isEither 1 = .ok (.ifCond .eq 8, 3) := by decide +kernel
theorem dX11_isEither_4 : decode cX11_isEither 4 = .ok (.iload_n 0, 1) := by decide +kernel
theorem dX11_isEither_5 : decode cX11_isEither 5 = .ok (.iconst 1, 1) := by decide +kernel
theorem dX11_isEither_6 : decode cX11_isEither 6 = .ok (.if_icmp .ne 7, 3) := by decide +kernel
theorem dX11_isEither_9 : decode cX11_isEither 9 = .ok (.iconst 1, 1) := by decide +kernel
theorem dX11_isEither_10 : decode cX11_isEither 10 = .ok (.goto 4, 3) := by decide +kernel
theorem dX11_isEither_13 : decode cX11_isEither 13 = .ok (.iconst 0, 1) := by decide +kernel
theorem dX11_isEither_14 : decode cX11_isEither 14 = .ok (.ireturn, 1) := by decide +kernel
def C_isEither (x0 : Int32) (h : Hp) (Q : Int32 → Hp → Prop) : Prop := ∀ J9 : Hp → Prop, J9 = (fun h1 => Q 1 h1) → (x0 = 0 → J9 h) ∧ (¬ x0 = 0 → (¬ x0 = 1 → Q 0 h) ∧ (x0 = 1 → J9 h))
set_option maxHeartbeats 4000000 in
set_option maxRecDepth 20000 in
theorem c_C_isEither {G : Gx}  {x0 : Int32} {h : Hp} {Q : Int32 → Hp → Prop} (hw : C_isEither x0 h Q) : Ct yX11_isEither cX11_isEither 1 (some .boolean) 1 G [.int x0] h (QI G Q) := by
  refine ct_go [(0, .int x0)] (plainFor_of_name (by decide)) rfl (Nat.le_of_ble_eq_true rfl) rfl ?_
  refine g_iload_n dX11_isEither_0 rfl rfl ?_
  refine jn_el hw (fun J9 eJ9 hw => ?_)
  have hJ9 : ∀ (h1 : Hp), J9 h1 → Go cX11_isEither 1 RX11 (some .boolean) 1 G (QI G Q) 9 [] [] h1 := by
    intro h1 hw
    subst eJ9
    refine g_iconst (v := 1) dX11_isEither_9 (by decide) ?_
    refine g_goto 14 dX11_isEither_10 rfl ?_
    exact g_zret dX11_isEither_14 rfl hw
  refine g_if_eq 9 dX11_isEither_1 rfl (fun hc => ?_) (fun hc => ?_)
  · have hw := hw.1 hc
    refine g_lv [] rfl ?_
    exact hJ9 _ hw
  · have hw := hw.2 hc
    refine g_iload_n dX11_isEither_4 rfl rfl ?_
    refine g_iconst (v := 1) dX11_isEither_5 (by decide) ?_
    refine g_icmp_ne 13 dX11_isEither_6 rfl (fun hc => ?_) (fun hc => ?_)
    · have hw := hw.1 hc
      refine g_iconst (v := 0) dX11_isEither_13 (by decide) ?_
      exact g_zret dX11_isEither_14 rfl hw
    · have hw := hw.2 hc
      refine g_lv [] rfl ?_
      exact hJ9 _ hw
theorem dX11_isPlayer_0 : decode cX11_isPlayer 0 = .ok (.iload_n 0, 1) := by decide +kernel
theorem dX11_isPlayer_1 : decode cX11_isPlayer 1 = .ok (.invokestatic 262, 3) := by decide +kernel
theorem dX11_isPlayer_4 : decode cX11_isPlayer 4 = .ok (.ireturn, 1) := by decide +kernel
theorem ml_X11_262 : Cond.methodLink RX11 262 yX11_isEither ∈ Wd := mW 886 (by decide +kernel) rfl
theorem mk_X11_isEither : MokS yX11_isEither cX11_isEither 1 (some .boolean) 1 := ⟨⟨mW 1 (by decide +kernel) rfl, mW 888 (by decide +kernel) rfl, ⟨by decide, by decide, by decide +kernel⟩, by decide⟩, mW 887 (by decide +kernel) rfl⟩
def C_isPlayer (x0 : Int32) (h : Hp) (Q : Int32 → Hp → Prop) : Prop := C_isEither x0 h (fun r1 h2 => isB r1 ∧ Q r1 h2)
set_option maxHeartbeats 4000000 in
set_option maxRecDepth 20000 in
theorem c_C_isPlayer {G : Gx}  {x0 : Int32} {h : Hp} {Q : Int32 → Hp → Prop} (hw : C_isPlayer x0 h Q) : Ct yX11_isPlayer cX11_isPlayer 1 (some .boolean) 2 G [.int x0] h (QI G Q) := by
  refine ct_go [(0, .int x0)] (plainFor_of_name (by decide)) rfl (Nat.le_of_ble_eq_true rfl) rfl ?_
  refine g_iload_n dX11_isPlayer_0 rfl rfl ?_
  refine g_callSI [.int x0] dX11_isPlayer_1 ml_X11_262 mk_X11_isEither rfl (Nat.le_of_ble_eq_true rfl) (Nat.le_of_ble_eq_true rfl) rfl (c_C_isEither hw) (fun r1 h2 hw => ?_)
  exact g_zret dX11_isPlayer_4 (isB_n hw.1) hw.2
theorem dJ6_lowestOneBit_0f7a4_0 : decode cJ6_lowestOneBit_0f7a4 0 = .ok (.iload_n 0, 1) := by decide +kernel
theorem dJ6_lowestOneBit_0f7a4_1 : decode cJ6_lowestOneBit_0f7a4 1 = .ok (.iload_n 0, 1) := by decide +kernel
theorem dJ6_lowestOneBit_0f7a4_2 : decode cJ6_lowestOneBit_0f7a4 2 = .ok (.ineg, 1) := by decide +kernel
theorem dJ6_lowestOneBit_0f7a4_3 : decode cJ6_lowestOneBit_0f7a4 3 = .ok (.iand, 1) := by decide +kernel
theorem dJ6_lowestOneBit_0f7a4_4 : decode cJ6_lowestOneBit_0f7a4 4 = .ok (.ireturn, 1) := by decide +kernel
def J6_lowestOneBit_0f7a4 (x0 : Int32) (h : Hp) (Q : Int32 → Hp → Prop) : Prop := Q (x0 &&& (-x0)) h
set_option maxHeartbeats 4000000 in
set_option maxRecDepth 20000 in
theorem c_J6_lowestOneBit_0f7a4 {G : Gx}  {x0 : Int32} {h : Hp} {Q : Int32 → Hp → Prop} (hw : J6_lowestOneBit_0f7a4 x0 h Q) : Ct yJ6_lowestOneBit_0f7a4 cJ6_lowestOneBit_0f7a4 1 (some .int) 1 G [.int x0] h (QI G Q) := by
  refine ct_go [(0, .int x0)] (plainFor_of_name (by decide)) rfl (Nat.le_of_ble_eq_true rfl) rfl ?_
  refine g_iload_n dJ6_lowestOneBit_0f7a4_0 rfl rfl ?_
  refine g_iload_n dJ6_lowestOneBit_0f7a4_1 rfl rfl ?_
  refine g_ineg dJ6_lowestOneBit_0f7a4_2 ?_
  refine g_iand dJ6_lowestOneBit_0f7a4_3 ?_
  exact g_iret dJ6_lowestOneBit_0f7a4_4 hw
theorem dJ9_abs_067f4_0 : decode cJ9_abs_067f4 0 = .ok (.lload_n 0, 1) := by decide +kernel
theorem dJ9_abs_067f4_1 : decode cJ9_abs_067f4 1 = .ok (.lconst 0, 1) := by decide +kernel
theorem dJ9_abs_067f4_2 : decode cJ9_abs_067f4 2 = .ok (.lcmp, 1) := by decide +kernel
theorem dJ9_abs_067f4_3 : decode cJ9_abs_067f4 3 = .ok (.ifCond .ge 8, 3) := by decide +kernel
theorem dJ9_abs_067f4_6 : decode cJ9_abs_067f4 6 = .ok (.lload_n 0, 1) := by decide +kernel
theorem dJ9_abs_067f4_7 : decode cJ9_abs_067f4 7 = .ok (.lneg, 1) := by decide +kernel
theorem dJ9_abs_067f4_8 : decode cJ9_abs_067f4 8 = .ok (.goto 4, 3) := by decide +kernel
theorem dJ9_abs_067f4_11 : decode cJ9_abs_067f4 11 = .ok (.lload_n 0, 1) := by decide +kernel
theorem dJ9_abs_067f4_12 : decode cJ9_abs_067f4 12 = .ok (.lreturn, 1) := by decide +kernel
def J9_abs_067f4 (x0 : Int64) (h : Hp) (Q : Int64 → Hp → Prop) : Prop := ((0 : Int64) ≤ x0 → Q x0 h) ∧ (¬ (0 : Int64) ≤ x0 → Q (-x0) h)
set_option maxHeartbeats 4000000 in
set_option maxRecDepth 20000 in
theorem c_J9_abs_067f4 {G : Gx}  {x0 : Int64} {h : Hp} {Q : Int64 → Hp → Prop} (hw : J9_abs_067f4 x0 h Q) : Ct yJ9_abs_067f4 cJ9_abs_067f4 2 (some .long) 1 G [.long x0] h (QJ G Q) := by
  refine ct_go [(0, .long x0)] (by decide +kernel) rfl (Nat.le_of_ble_eq_true rfl) rfl ?_
  refine g_lload_n dJ9_abs_067f4_0 rfl rfl ?_
  refine g_lconst (v := (0 : Int64)) dJ9_abs_067f4_1 (by decide) ?_
  refine g_lc_ge 11 dJ9_abs_067f4_2 dJ9_abs_067f4_3 rfl (fun hc => ?_) (fun hc => ?_)
  · have hw := hw.1 hc
    refine g_lload_n dJ9_abs_067f4_11 rfl rfl ?_
    exact g_lret dJ9_abs_067f4_12 hw
  · have hw := hw.2 hc
    refine g_lload_n dJ9_abs_067f4_6 rfl rfl ?_
    refine g_lneg dJ9_abs_067f4_7 ?_
    refine g_goto 12 dJ9_abs_067f4_8 rfl ?_
    exact g_lret dJ9_abs_067f4_12 hw
theorem dJ6_signum_0f7a4_0 : decode cJ6_signum_0f7a4 0 = .ok (.iload_n 0, 1) := by decide +kernel
theorem dJ6_signum_0f7a4_1 : decode cJ6_signum_0f7a4 1 = .ok (.bipush 31, 2) := by decide +kernel
theorem dJ6_signum_0f7a4_3 : decode cJ6_signum_0f7a4 3 = .ok (.ishr, 1) := by decide +kernel
theorem dJ6_signum_0f7a4_4 : decode cJ6_signum_0f7a4 4 = .ok (.iload_n 0, 1) := by decide +kernel
theorem dJ6_signum_0f7a4_5 : decode cJ6_signum_0f7a4 5 = .ok (.ineg, 1) := by decide +kernel
theorem dJ6_signum_0f7a4_6 : decode cJ6_signum_0f7a4 6 = .ok (.bipush 31, 2) := by decide +kernel
theorem dJ6_signum_0f7a4_8 : decode cJ6_signum_0f7a4 8 = .ok (.iushr, 1) := by decide +kernel
theorem dJ6_signum_0f7a4_9 : decode cJ6_signum_0f7a4 9 = .ok (.ior, 1) := by decide +kernel
theorem dJ6_signum_0f7a4_10 : decode cJ6_signum_0f7a4 10 = .ok (.ireturn, 1) := by decide +kernel
def J6_signum_0f7a4 (x0 : Int32) (h : Hp) (Q : Int32 → Hp → Prop) : Prop := Q ((x0 >>> (31 &&& 31)) ||| ((((-x0)).toUInt32 >>> ((31).toUInt32 &&& Int32.toUInt32 31)).toInt32)) h
set_option maxHeartbeats 4000000 in
set_option maxRecDepth 20000 in
theorem c_J6_signum_0f7a4 {G : Gx}  {x0 : Int32} {h : Hp} {Q : Int32 → Hp → Prop} (hw : J6_signum_0f7a4 x0 h Q) : Ct yJ6_signum_0f7a4 cJ6_signum_0f7a4 1 (some .int) 1 G [.int x0] h (QI G Q) := by
  refine ct_go [(0, .int x0)] (plainFor_of_name (by decide)) rfl (Nat.le_of_ble_eq_true rfl) rfl ?_
  refine g_iload_n dJ6_signum_0f7a4_0 rfl rfl ?_
  refine g_bipush (v := 31) dJ6_signum_0f7a4_1 (by decide) ?_
  refine g_ishr dJ6_signum_0f7a4_3 ?_
  refine g_iload_n dJ6_signum_0f7a4_4 rfl rfl ?_
  refine g_ineg dJ6_signum_0f7a4_5 ?_
  refine g_bipush (v := 31) dJ6_signum_0f7a4_6 (by decide) ?_
  refine g_iushr dJ6_signum_0f7a4_8 ?_
  refine g_ior dJ6_signum_0f7a4_9 ?_
  exact g_iret dJ6_signum_0f7a4_10 hw
theorem dX2_leastPaid_0 : decode cX2_leastPaid 0 = .ok (.iconst 0, 1) := by decide +kernel
theorem dX2_leastPaid_1 : decode cX2_leastPaid 1 = .ok (.istore_n 2, 1) := by decide +kernel
theorem dX2_leastPaid_2 : decode cX2_leastPaid 2 = .ok (.iconst 0, 1) := by decide +kernel
theorem dX2_leastPaid_3 : decode cX2_leastPaid 3 = .ok (.istore_n 3, 1) := by decide +kernel
theorem dX2_leastPaid_4 : decode cX2_leastPaid 4 = .ok (.iload_n 3, 1) := by decide +kernel
theorem dX2_leastPaid_5 : decode cX2_leastPaid 5 = .ok (.bipush 16, 2) := by decide +kernel
theorem dX2_leastPaid_7 : decode cX2_leastPaid 7 = .ok (.if_icmp .ge 33, 3) := by decide +kernel
theorem dX2_leastPaid_10 : decode cX2_leastPaid 10 = .ok (.aload_n 0, 1) := by decide +kernel
theorem dX2_leastPaid_11 : decode cX2_leastPaid 11 = .ok (.iload_n 1, 1) := by decide +kernel
theorem dX2_leastPaid_12 : decode cX2_leastPaid 12 = .ok (.iload_n 3, 1) := by decide +kernel
theorem dX2_leastPaid_13 : decode cX2_leastPaid 13 = .ok (.invokevirtual 65, 3) := by decide +kernel
theorem dX2_leastPaid_16 : decode cX2_leastPaid 16 = .ok (.ifCond .eq 16, 3) := by decide +kernel
theorem dX2_leastPaid_19 : decode cX2_leastPaid 19 = .ok (.iload_n 2, 1) := by decide +kernel
theorem dX2_leastPaid_20 : decode cX2_leastPaid 20 = .ok (.aload_n 0, 1) := by decide +kernel
theorem dX2_leastPaid_21 : decode cX2_leastPaid 21 = .ok (.iload_n 1, 1) := by decide +kernel
theorem dX2_leastPaid_22 : decode cX2_leastPaid 22 = .ok (.iload_n 3, 1) := by decide +kernel
theorem dX2_leastPaid_23 : decode cX2_leastPaid 23 = .ok (.invokevirtual 69, 3) := by decide +kernel
theorem dX2_leastPaid_26 : decode cX2_leastPaid 26 = .ok (.invokestatic 72, 3) := by decide +kernel
theorem dX2_leastPaid_29 : decode cX2_leastPaid 29 = .ok (.goto 4, 3) := by decide +kernel
theorem dX2_leastPaid_32 : decode cX2_leastPaid 32 = .ok (.iload_n 2, 1) := by decide +kernel
theorem dX2_leastPaid_33 : decode cX2_leastPaid 33 = .ok (.istore_n 2, 1) := by decide +kernel
theorem dX2_leastPaid_34 : decode cX2_leastPaid 34 = .ok (.iinc 3 1, 3) := by decide +kernel
theorem dX2_leastPaid_37 : decode cX2_leastPaid 37 = .ok (.goto (-33), 3) := by decide +kernel
theorem dX2_leastPaid_40 : decode cX2_leastPaid 40 = .ok (.iload_n 2, 1) := by decide +kernel
theorem dX2_leastPaid_41 : decode cX2_leastPaid 41 = .ok (.ireturn, 1) := by decide +kernel
theorem ml_X2_65 : Cond.methodLink RX2 65 yX2_isOpen ∈ Wd := mW 1224 (by decide +kernel) rfl
theorem mk_X2_isOpen : MokV yX2_isOpen cX2_isOpen 3 (some .boolean) 2 := ⟨⟨mW 5 (by decide +kernel) rfl, mW 793 (by decide +kernel) rfl, ⟨by decide, by decide, by decide +kernel⟩, by decide⟩, mW 791 (by decide +kernel) rfl, mW 792 (by decide +kernel) rfl⟩
theorem ml_X2_69 : Cond.methodLink RX2 69 yX2_payOf ∈ Wd := mW 1225 (by decide +kernel) rfl
theorem mk_X2_payOf : MokV yX2_payOf cX2_payOf 3 (some .int) 2 := ⟨⟨mW 5 (by decide +kernel) rfl, mW 821 (by decide +kernel) rfl, ⟨by decide, by decide, by decide +kernel⟩, by decide⟩, mW 819 (by decide +kernel) rfl, mW 820 (by decide +kernel) rfl⟩
theorem ml_X2_72 : Cond.methodLink RX2 72 yJ9_min_7cf53 ∈ Wd := mW 1226 (by decide +kernel) rfl
def Land_leastPaid_L4 (o0 : Nat) (x1 : Int32) (Q : Int32 → Hp → Prop) : Nat → Int32 → Int32 → Hp → Prop
  | 0, _, _, _ => False
  | n + 1, x2, x3, h => (16 ≤ x3 → Q x2 h) ∧ (¬ 16 ≤ x3 → Land_isOpen o0 x1 x3 h (fun r1 h2 => ∀ J33 : Int32 → Hp → Prop, J33 = (fun s3 h4 => ∀ v5 : Int32, v5 = (x3 + 1) → Land_leastPaid_L4 o0 x1 Q n s3 v5 h4) → (r1 = 0 → J33 x2 h2) ∧ (¬ r1 = 0 → Land_payOf o0 x1 x3 h2 (fun r6 h7 => J9_min_7cf53 x2 r6 h7 (fun r8 h9 => J33 r8 h9)))))
set_option maxHeartbeats 4000000 in
set_option maxRecDepth 20000 in
theorem gl_Land_leastPaid_L4 {G : Gx} {o0 : Nat} (ho0 : SH o0 = .inl 2) {x1 : Int32} {Q : Int32 → Hp → Prop} : ∀ (n : Nat) (x2 : Int32) (x3 : Int32) (h : Hp), Land_leastPaid_L4 o0 x1 Q n x2 x3 h → Go cX2_leastPaid 4 RX2 (some .int) 4 G (QI G Q) 4 [(0, .ref (gAd G o0)), (1, .int x1), (2, .int x2), (3, .int x3)] [] h := by
  intro n
  induction n with
  | zero => intro _ _ h hw; exact False.elim hw
  | succ n ih =>
    intro x2 x3 h hw
    refine g_iload_n dX2_leastPaid_4 rfl rfl ?_
    refine g_bipush (v := 16) dX2_leastPaid_5 (by decide) ?_
    refine g_icmp_ge 40 dX2_leastPaid_7 rfl (fun hc => ?_) (fun hc => ?_)
    · have hw := hw.1 hc
      refine g_iload_n dX2_leastPaid_40 rfl rfl ?_
      exact g_iret dX2_leastPaid_41 hw
    · have hw := hw.2 hc
      refine g_aload_n dX2_leastPaid_10 rfl rfl ?_
      refine g_iload_n dX2_leastPaid_11 rfl rfl ?_
      refine g_iload_n dX2_leastPaid_12 rfl rfl ?_
      refine g_callVI [.int x1, .int x3] (ci := 2) dX2_leastPaid_13 ml_X2_65 mk_X2_isOpen rfl rfl ho0 (Nat.le_of_ble_eq_true rfl) (Nat.le_of_ble_eq_true rfl) rfl (c_Land_isOpen ho0 hw) (fun r1 h2 hw => ?_)
      refine jn_el hw (fun J33 eJ33 hw => ?_)
      have hJ33 : ∀ (s3 : Int32) (h4 : Hp), J33 s3 h4 → Go cX2_leastPaid 4 RX2 (some .int) 4 G (QI G Q) 33 [(0, .ref (gAd G o0)), (1, .int x1), (3, .int x3)] [.int s3] h4 := by
        intro s3 h4 hw
        subst eJ33
        refine g_istore_n dX2_leastPaid_33 rfl (by decide) (lv1 := [(0, .ref (gAd G o0)), (1, .int x1), (2, .int s3), (3, .int x3)]) rfl ?_
        obtain ⟨v5, ev5⟩ : ∃ y : Int32, y = (x3 + 1) := ⟨_, rfl⟩
        have hw := hw v5 ev5
        refine g_iinc dX2_leastPaid_34 rfl (by rw [ev5]; rfl) (by decide) (lv1 := [(0, .ref (gAd G o0)), (1, .int x1), (2, .int s3), (3, .int v5)]) rfl ?_
        refine g_goto 4 dX2_leastPaid_37 rfl ?_
        exact ih _ _ _ hw
      refine g_if_eq 32 dX2_leastPaid_16 rfl (fun hc => ?_) (fun hc => ?_)
      · have hw := hw.1 hc
        refine g_iload_n dX2_leastPaid_32 rfl rfl ?_
        refine g_lv [0, 1, 3] rfl ?_
        exact hJ33 _ _ hw
      · have hw := hw.2 hc
        refine g_iload_n dX2_leastPaid_19 rfl rfl ?_
        refine g_aload_n dX2_leastPaid_20 rfl rfl ?_
        refine g_iload_n dX2_leastPaid_21 rfl rfl ?_
        refine g_iload_n dX2_leastPaid_22 rfl rfl ?_
        refine g_callVI [.int x1, .int x3] (ci := 2) dX2_leastPaid_23 ml_X2_69 mk_X2_payOf rfl rfl ho0 (Nat.le_of_ble_eq_true rfl) (Nat.le_of_ble_eq_true rfl) rfl (c_Land_payOf ho0 hw) (fun r6 h7 hw => ?_)
        refine g_callSI [.int x2, .int r6] dX2_leastPaid_26 ml_X2_72 mk_J9_min_7cf53 rfl (Nat.le_of_ble_eq_true rfl) (Nat.le_of_ble_eq_true rfl) rfl (c_J9_min_7cf53 hw) (fun r8 h9 hw => ?_)
        refine g_goto 33 dX2_leastPaid_29 rfl ?_
        refine g_lv [0, 1, 3] rfl ?_
        exact hJ33 _ _ hw
def Land_leastPaid (o0 : Nat) (x1 : Int32) (h : Hp) (Q : Int32 → Hp → Prop) : Prop := ∃ n10, Land_leastPaid_L4 o0 x1 Q n10 0 0 h
set_option maxHeartbeats 4000000 in
set_option maxRecDepth 20000 in
theorem c_Land_leastPaid {G : Gx} {o0 : Nat} (ho0 : SH o0 = .inl 2) {x1 : Int32} {h : Hp} {Q : Int32 → Hp → Prop} (hw : Land_leastPaid o0 x1 h Q) : Ct yX2_leastPaid cX2_leastPaid 4 (some .int) 4 G [.ref (gAd G o0), .int x1] h (QI G Q) := by
  refine ct_go [(0, .ref (gAd G o0)), (1, .int x1)] (plainFor_of_name (by decide)) rfl (Nat.le_of_ble_eq_true rfl) rfl ?_
  refine g_iconst (v := 0) dX2_leastPaid_0 (by decide) ?_
  refine g_istore_n dX2_leastPaid_1 rfl (by decide) (lv1 := [(0, .ref (gAd G o0)), (1, .int x1), (2, .int 0)]) rfl ?_
  refine g_iconst (v := 0) dX2_leastPaid_2 (by decide) ?_
  refine g_istore_n dX2_leastPaid_3 rfl (by decide) (lv1 := [(0, .ref (gAd G o0)), (1, .int x1), (2, .int 0), (3, .int 0)]) rfl ?_
  obtain ⟨n10, hw⟩ := hw
  refine gl_Land_leastPaid_L4 ho0  _ _ _ _ hw
theorem dX2_mostPaid_0 : decode cX2_mostPaid 0 = .ok (.iconst 0, 1) := by decide +kernel
theorem dX2_mostPaid_1 : decode cX2_mostPaid 1 = .ok (.istore_n 2, 1) := by decide +kernel
theorem dX2_mostPaid_2 : decode cX2_mostPaid 2 = .ok (.iconst 0, 1) := by decide +kernel
theorem dX2_mostPaid_3 : decode cX2_mostPaid 3 = .ok (.istore_n 3, 1) := by decide +kernel
theorem dX2_mostPaid_4 : decode cX2_mostPaid 4 = .ok (.iload_n 3, 1) := by decide +kernel
theorem dX2_mostPaid_5 : decode cX2_mostPaid 5 = .ok (.bipush 16, 2) := by decide +kernel
theorem dX2_mostPaid_7 : decode cX2_mostPaid 7 = .ok (.if_icmp .ge 33, 3) := by decide +kernel
theorem dX2_mostPaid_10 : decode cX2_mostPaid 10 = .ok (.aload_n 0, 1) := by decide +kernel
theorem dX2_mostPaid_11 : decode cX2_mostPaid 11 = .ok (.iload_n 1, 1) := by decide +kernel
theorem dX2_mostPaid_12 : decode cX2_mostPaid 12 = .ok (.iload_n 3, 1) := by decide +kernel
theorem dX2_mostPaid_13 : decode cX2_mostPaid 13 = .ok (.invokevirtual 65, 3) := by decide +kernel
theorem dX2_mostPaid_16 : decode cX2_mostPaid 16 = .ok (.ifCond .eq 16, 3) := by decide +kernel
theorem dX2_mostPaid_19 : decode cX2_mostPaid 19 = .ok (.iload_n 2, 1) := by decide +kernel
theorem dX2_mostPaid_20 : decode cX2_mostPaid 20 = .ok (.aload_n 0, 1) := by decide +kernel
theorem dX2_mostPaid_21 : decode cX2_mostPaid 21 = .ok (.iload_n 1, 1) := by decide +kernel
theorem dX2_mostPaid_22 : decode cX2_mostPaid 22 = .ok (.iload_n 3, 1) := by decide +kernel
theorem dX2_mostPaid_23 : decode cX2_mostPaid 23 = .ok (.invokevirtual 69, 3) := by decide +kernel
theorem dX2_mostPaid_26 : decode cX2_mostPaid 26 = .ok (.invokestatic 77, 3) := by decide +kernel
theorem dX2_mostPaid_29 : decode cX2_mostPaid 29 = .ok (.goto 4, 3) := by decide +kernel
theorem dX2_mostPaid_32 : decode cX2_mostPaid 32 = .ok (.iload_n 2, 1) := by decide +kernel
theorem dX2_mostPaid_33 : decode cX2_mostPaid 33 = .ok (.istore_n 2, 1) := by decide +kernel
theorem dX2_mostPaid_34 : decode cX2_mostPaid 34 = .ok (.iinc 3 1, 3) := by decide +kernel
theorem dX2_mostPaid_37 : decode cX2_mostPaid 37 = .ok (.goto (-33), 3) := by decide +kernel
theorem dX2_mostPaid_40 : decode cX2_mostPaid 40 = .ok (.iload_n 2, 1) := by decide +kernel
theorem dX2_mostPaid_41 : decode cX2_mostPaid 41 = .ok (.ireturn, 1) := by decide +kernel
theorem ml_X2_77 : Cond.methodLink RX2 77 yJ9_max_7cf53 ∈ Wd := mW 1231 (by decide +kernel) rfl
def Land_mostPaid_L4 (o0 : Nat) (x1 : Int32) (Q : Int32 → Hp → Prop) : Nat → Int32 → Int32 → Hp → Prop
  | 0, _, _, _ => False
  | n + 1, x2, x3, h => (16 ≤ x3 → Q x2 h) ∧ (¬ 16 ≤ x3 → Land_isOpen o0 x1 x3 h (fun r1 h2 => ∀ J33 : Int32 → Hp → Prop, J33 = (fun s3 h4 => ∀ v5 : Int32, v5 = (x3 + 1) → Land_mostPaid_L4 o0 x1 Q n s3 v5 h4) → (r1 = 0 → J33 x2 h2) ∧ (¬ r1 = 0 → Land_payOf o0 x1 x3 h2 (fun r6 h7 => J9_max_7cf53 x2 r6 h7 (fun r8 h9 => J33 r8 h9)))))
set_option maxHeartbeats 4000000 in
set_option maxRecDepth 20000 in
theorem gl_Land_mostPaid_L4 {G : Gx} {o0 : Nat} (ho0 : SH o0 = .inl 2) {x1 : Int32} {Q : Int32 → Hp → Prop} : ∀ (n : Nat) (x2 : Int32) (x3 : Int32) (h : Hp), Land_mostPaid_L4 o0 x1 Q n x2 x3 h → Go cX2_mostPaid 4 RX2 (some .int) 4 G (QI G Q) 4 [(0, .ref (gAd G o0)), (1, .int x1), (2, .int x2), (3, .int x3)] [] h := by
  intro n
  induction n with
  | zero => intro _ _ h hw; exact False.elim hw
  | succ n ih =>
    intro x2 x3 h hw
    refine g_iload_n dX2_mostPaid_4 rfl rfl ?_
    refine g_bipush (v := 16) dX2_mostPaid_5 (by decide) ?_
    refine g_icmp_ge 40 dX2_mostPaid_7 rfl (fun hc => ?_) (fun hc => ?_)
    · have hw := hw.1 hc
      refine g_iload_n dX2_mostPaid_40 rfl rfl ?_
      exact g_iret dX2_mostPaid_41 hw
    · have hw := hw.2 hc
      refine g_aload_n dX2_mostPaid_10 rfl rfl ?_
      refine g_iload_n dX2_mostPaid_11 rfl rfl ?_
      refine g_iload_n dX2_mostPaid_12 rfl rfl ?_
      refine g_callVI [.int x1, .int x3] (ci := 2) dX2_mostPaid_13 ml_X2_65 mk_X2_isOpen rfl rfl ho0 (Nat.le_of_ble_eq_true rfl) (Nat.le_of_ble_eq_true rfl) rfl (c_Land_isOpen ho0 hw) (fun r1 h2 hw => ?_)
      refine jn_el hw (fun J33 eJ33 hw => ?_)
      have hJ33 : ∀ (s3 : Int32) (h4 : Hp), J33 s3 h4 → Go cX2_mostPaid 4 RX2 (some .int) 4 G (QI G Q) 33 [(0, .ref (gAd G o0)), (1, .int x1), (3, .int x3)] [.int s3] h4 := by
        intro s3 h4 hw
        subst eJ33
        refine g_istore_n dX2_mostPaid_33 rfl (by decide) (lv1 := [(0, .ref (gAd G o0)), (1, .int x1), (2, .int s3), (3, .int x3)]) rfl ?_
        obtain ⟨v5, ev5⟩ : ∃ y : Int32, y = (x3 + 1) := ⟨_, rfl⟩
        have hw := hw v5 ev5
        refine g_iinc dX2_mostPaid_34 rfl (by rw [ev5]; rfl) (by decide) (lv1 := [(0, .ref (gAd G o0)), (1, .int x1), (2, .int s3), (3, .int v5)]) rfl ?_
        refine g_goto 4 dX2_mostPaid_37 rfl ?_
        exact ih _ _ _ hw
      refine g_if_eq 32 dX2_mostPaid_16 rfl (fun hc => ?_) (fun hc => ?_)
      · have hw := hw.1 hc
        refine g_iload_n dX2_mostPaid_32 rfl rfl ?_
        refine g_lv [0, 1, 3] rfl ?_
        exact hJ33 _ _ hw
      · have hw := hw.2 hc
        refine g_iload_n dX2_mostPaid_19 rfl rfl ?_
        refine g_aload_n dX2_mostPaid_20 rfl rfl ?_
        refine g_iload_n dX2_mostPaid_21 rfl rfl ?_
        refine g_iload_n dX2_mostPaid_22 rfl rfl ?_
        refine g_callVI [.int x1, .int x3] (ci := 2) dX2_mostPaid_23 ml_X2_69 mk_X2_payOf rfl rfl ho0 (Nat.le_of_ble_eq_true rfl) (Nat.le_of_ble_eq_true rfl) rfl (c_Land_payOf ho0 hw) (fun r6 h7 hw => ?_)
        refine g_callSI [.int x2, .int r6] dX2_mostPaid_26 ml_X2_77 mk_J9_max_7cf53 rfl (Nat.le_of_ble_eq_true rfl) (Nat.le_of_ble_eq_true rfl) rfl (c_J9_max_7cf53 hw) (fun r8 h9 hw => ?_)
        refine g_goto 33 dX2_mostPaid_29 rfl ?_
        refine g_lv [0, 1, 3] rfl ?_
        exact hJ33 _ _ hw
def Land_mostPaid (o0 : Nat) (x1 : Int32) (h : Hp) (Q : Int32 → Hp → Prop) : Prop := ∃ n10, Land_mostPaid_L4 o0 x1 Q n10 0 0 h
set_option maxHeartbeats 4000000 in
set_option maxRecDepth 20000 in
theorem c_Land_mostPaid {G : Gx} {o0 : Nat} (ho0 : SH o0 = .inl 2) {x1 : Int32} {h : Hp} {Q : Int32 → Hp → Prop} (hw : Land_mostPaid o0 x1 h Q) : Ct yX2_mostPaid cX2_mostPaid 4 (some .int) 4 G [.ref (gAd G o0), .int x1] h (QI G Q) := by
  refine ct_go [(0, .ref (gAd G o0)), (1, .int x1)] (plainFor_of_name (by decide)) rfl (Nat.le_of_ble_eq_true rfl) rfl ?_
  refine g_iconst (v := 0) dX2_mostPaid_0 (by decide) ?_
  refine g_istore_n dX2_mostPaid_1 rfl (by decide) (lv1 := [(0, .ref (gAd G o0)), (1, .int x1), (2, .int 0)]) rfl ?_
  refine g_iconst (v := 0) dX2_mostPaid_2 (by decide) ?_
  refine g_istore_n dX2_mostPaid_3 rfl (by decide) (lv1 := [(0, .ref (gAd G o0)), (1, .int x1), (2, .int 0), (3, .int 0)]) rfl ?_
  obtain ⟨n10, hw⟩ := hw
  refine gl_Land_mostPaid_L4 ho0  _ _ _ _ hw
theorem dJ9_floorMod_f86c9_0 : decode cJ9_floorMod_f86c9 0 = .ok (.lload_n 0, 1) := by decide +kernel
theorem dJ9_floorMod_f86c9_1 : decode cJ9_floorMod_f86c9 1 = .ok (.lload_n 2, 1) := by decide +kernel
theorem dJ9_floorMod_f86c9_2 : decode cJ9_floorMod_f86c9 2 = .ok (.lrem, 1) := by decide +kernel
theorem dJ9_floorMod_f86c9_3 : decode cJ9_floorMod_f86c9 3 = .ok (.lstore 4, 2) := by decide +kernel
theorem dJ9_floorMod_f86c9_5 : decode cJ9_floorMod_f86c9 5 = .ok (.lload_n 0, 1) := by decide +kernel
theorem dJ9_floorMod_f86c9_6 : decode cJ9_floorMod_f86c9 6 = .ok (.lload_n 2, 1) := by decide +kernel
theorem dJ9_floorMod_f86c9_7 : decode cJ9_floorMod_f86c9 7 = .ok (.lxor, 1) := by decide +kernel
theorem dJ9_floorMod_f86c9_8 : decode cJ9_floorMod_f86c9 8 = .ok (.lconst 0, 1) := by decide +kernel
theorem dJ9_floorMod_f86c9_9 : decode cJ9_floorMod_f86c9 9 = .ok (.lcmp, 1) := by decide +kernel
theorem dJ9_floorMod_f86c9_10 : decode cJ9_floorMod_f86c9 10 = .ok (.ifCond .ge 15, 3) := by decide +kernel
theorem dJ9_floorMod_f86c9_13 : decode cJ9_floorMod_f86c9 13 = .ok (.lload 4, 2) := by decide +kernel
theorem dJ9_floorMod_f86c9_15 : decode cJ9_floorMod_f86c9 15 = .ok (.lconst 0, 1) := by decide +kernel
theorem dJ9_floorMod_f86c9_16 : decode cJ9_floorMod_f86c9 16 = .ok (.lcmp, 1) := by decide +kernel
theorem dJ9_floorMod_f86c9_17 : decode cJ9_floorMod_f86c9 17 = .ok (.ifCond .eq 8, 3) := by decide +kernel
theorem dJ9_floorMod_f86c9_20 : decode cJ9_floorMod_f86c9 20 = .ok (.lload 4, 2) := by decide +kernel
theorem dJ9_floorMod_f86c9_22 : decode cJ9_floorMod_f86c9 22 = .ok (.lload_n 2, 1) := by decide +kernel
theorem dJ9_floorMod_f86c9_23 : decode cJ9_floorMod_f86c9 23 = .ok (.ladd, 1) := by decide +kernel
theorem dJ9_floorMod_f86c9_24 : decode cJ9_floorMod_f86c9 24 = .ok (.lreturn, 1) := by decide +kernel
theorem dJ9_floorMod_f86c9_25 : decode cJ9_floorMod_f86c9 25 = .ok (.lload 4, 2) := by decide +kernel
theorem dJ9_floorMod_f86c9_27 : decode cJ9_floorMod_f86c9 27 = .ok (.lreturn, 1) := by decide +kernel
def J9_floorMod_f86c9 (x0 : Int64) (x2 : Int64) (h : Hp) (Q : Int64 → Hp → Prop) : Prop := ¬ x2 = 0 ∧ ∀ v1 : Int64, v1 = (x0 - x0 / x2 * x2) → ((0 : Int64) ≤ (x0 ^^^ x2) → Q v1 h) ∧ (¬ (0 : Int64) ≤ (x0 ^^^ x2) → (v1 = (0 : Int64) → Q v1 h) ∧ (¬ v1 = (0 : Int64) → Q (v1 + x2) h))
set_option maxHeartbeats 4000000 in
set_option maxRecDepth 20000 in
theorem c_J9_floorMod_f86c9 {G : Gx}  {x0 : Int64} {x2 : Int64} {h : Hp} {Q : Int64 → Hp → Prop} (hw : J9_floorMod_f86c9 x0 x2 h Q) : Ct yJ9_floorMod_f86c9 cJ9_floorMod_f86c9 6 (some .long) 1 G [.long x0, .long x2] h (QJ G Q) := by
  refine ct_go [(0, .long x0), (2, .long x2)] (by decide +kernel) rfl (Nat.le_of_ble_eq_true rfl) rfl ?_
  refine g_lload_n dJ9_floorMod_f86c9_0 rfl rfl ?_
  refine g_lload_n dJ9_floorMod_f86c9_1 rfl rfl ?_
  refine g_lrem dJ9_floorMod_f86c9_2 hw.1 ?_
  have hw := hw.2
  refine g_topj (fun v1 ev1 => ?_)
  have hw := hw v1 ev1
  refine g_lstore dJ9_floorMod_f86c9_3 (by decide) (lv1 := [(0, .long x0), (2, .long x2), (4, .long v1)]) rfl ?_
  refine g_lload_n dJ9_floorMod_f86c9_5 rfl rfl ?_
  refine g_lload_n dJ9_floorMod_f86c9_6 rfl rfl ?_
  refine g_lxor dJ9_floorMod_f86c9_7 ?_
  refine g_lconst (v := (0 : Int64)) dJ9_floorMod_f86c9_8 (by decide) ?_
  refine g_lc_ge 25 dJ9_floorMod_f86c9_9 dJ9_floorMod_f86c9_10 rfl (fun hc => ?_) (fun hc => ?_)
  · have hw := hw.1 hc
    refine g_lload dJ9_floorMod_f86c9_25 rfl ?_
    exact g_lret dJ9_floorMod_f86c9_27 hw
  · have hw := hw.2 hc
    refine g_lload dJ9_floorMod_f86c9_13 rfl ?_
    refine g_lconst (v := (0 : Int64)) dJ9_floorMod_f86c9_15 (by decide) ?_
    refine g_lc_eq 25 dJ9_floorMod_f86c9_16 dJ9_floorMod_f86c9_17 rfl (fun hc => ?_) (fun hc => ?_)
    · have hw := hw.1 hc
      refine g_lload dJ9_floorMod_f86c9_25 rfl ?_
      exact g_lret dJ9_floorMod_f86c9_27 hw
    · have hw := hw.2 hc
      refine g_lload dJ9_floorMod_f86c9_20 rfl ?_
      refine g_lload_n dJ9_floorMod_f86c9_22 rfl rfl ?_
      refine g_ladd dJ9_floorMod_f86c9_23 ?_
      exact g_lret dJ9_floorMod_f86c9_24 hw
theorem dX2_weathersPaying_0 : decode cX2_weathersPaying 0 = .ok (.iconst 0, 1) := by decide +kernel
theorem dX2_weathersPaying_1 : decode cX2_weathersPaying 1 = .ok (.istore_n 3, 1) := by decide +kernel
theorem dX2_weathersPaying_2 : decode cX2_weathersPaying 2 = .ok (.iconst 0, 1) := by decide +kernel
theorem dX2_weathersPaying_3 : decode cX2_weathersPaying 3 = .ok (.istore 4, 2) := by decide +kernel
theorem dX2_weathersPaying_5 : decode cX2_weathersPaying 5 = .ok (.iload 4, 2) := by decide +kernel
theorem dX2_weathersPaying_7 : decode cX2_weathersPaying 7 = .ok (.bipush 10, 2) := by decide +kernel
theorem dX2_weathersPaying_9 : decode cX2_weathersPaying 9 = .ok (.if_icmp .ge 27, 3) := by decide +kernel
theorem dX2_weathersPaying_12 : decode cX2_weathersPaying 12 = .ok (.aload_n 0, 1) := by decide +kernel
theorem dX2_weathersPaying_13 : decode cX2_weathersPaying 13 = .ok (.iload 4, 2) := by decide +kernel
theorem dX2_weathersPaying_15 : decode cX2_weathersPaying 15 = .ok (.iload_n 1, 1) := by decide +kernel
theorem dX2_weathersPaying_16 : decode cX2_weathersPaying 16 = .ok (.invokevirtual 69, 3) := by decide +kernel
theorem dX2_weathersPaying_19 : decode cX2_weathersPaying 19 = .ok (.iload_n 2, 1) := by decide +kernel
theorem dX2_weathersPaying_20 : decode cX2_weathersPaying 20 = .ok (.if_icmp .ne 10, 3) := by decide +kernel
theorem dX2_weathersPaying_23 : decode cX2_weathersPaying 23 = .ok (.iload_n 3, 1) := by decide +kernel
theorem dX2_weathersPaying_24 : decode cX2_weathersPaying 24 = .ok (.iconst 1, 1) := by decide +kernel
theorem dX2_weathersPaying_25 : decode cX2_weathersPaying 25 = .ok (.iload 4, 2) := by decide +kernel
theorem dX2_weathersPaying_27 : decode cX2_weathersPaying 27 = .ok (.ishl, 1) := by decide +kernel
theorem dX2_weathersPaying_28 : decode cX2_weathersPaying 28 = .ok (.ior, 1) := by decide +kernel
theorem dX2_weathersPaying_29 : decode cX2_weathersPaying 29 = .ok (.istore_n 3, 1) := by decide +kernel
theorem dX2_weathersPaying_30 : decode cX2_weathersPaying 30 = .ok (.iinc 4 1, 3) := by decide +kernel
theorem dX2_weathersPaying_33 : decode cX2_weathersPaying 33 = .ok (.goto (-28), 3) := by decide +kernel
theorem dX2_weathersPaying_36 : decode cX2_weathersPaying 36 = .ok (.iload_n 3, 1) := by decide +kernel
theorem dX2_weathersPaying_37 : decode cX2_weathersPaying 37 = .ok (.ireturn, 1) := by decide +kernel
def Land_weathersPaying_L5 (o0 : Nat) (x1 : Int32) (x2 : Int32) (Q : Int32 → Hp → Prop) : Nat → Int32 → Int32 → Hp → Prop
  | 0, _, _, _ => False
  | n + 1, x3, x4, h => (10 ≤ x4 → Q x3 h) ∧ (¬ 10 ≤ x4 → Land_payOf o0 x4 x1 h (fun r1 h2 => ∀ J30 : Int32 → Hp → Prop, J30 = (fun x3_3 h4 => ∀ v5 : Int32, v5 = (x4 + 1) → Land_weathersPaying_L5 o0 x1 x2 Q n x3_3 v5 h4) → (¬ r1 = x2 → J30 x3 h2) ∧ (r1 = x2 → ∀ v6 : Int32, v6 = (x3 ||| ((1 : Int32) <<< (x4 &&& 31))) → J30 v6 h2)))
set_option maxHeartbeats 4000000 in
set_option maxRecDepth 20000 in
theorem gl_Land_weathersPaying_L5 {G : Gx} {o0 : Nat} (ho0 : SH o0 = .inl 2) {x1 : Int32} {x2 : Int32} {Q : Int32 → Hp → Prop} : ∀ (n : Nat) (x3 : Int32) (x4 : Int32) (h : Hp), Land_weathersPaying_L5 o0 x1 x2 Q n x3 x4 h → Go cX2_weathersPaying 5 RX2 (some .int) 3 G (QI G Q) 5 [(0, .ref (gAd G o0)), (1, .int x1), (2, .int x2), (3, .int x3), (4, .int x4)] [] h := by
  intro n
  induction n with
  | zero => intro _ _ h hw; exact False.elim hw
  | succ n ih =>
    intro x3 x4 h hw
    refine g_iload dX2_weathersPaying_5 rfl ?_
    refine g_bipush (v := 10) dX2_weathersPaying_7 (by decide) ?_
    refine g_icmp_ge 36 dX2_weathersPaying_9 rfl (fun hc => ?_) (fun hc => ?_)
    · have hw := hw.1 hc
      refine g_iload_n dX2_weathersPaying_36 rfl rfl ?_
      exact g_iret dX2_weathersPaying_37 hw
    · have hw := hw.2 hc
      refine g_aload_n dX2_weathersPaying_12 rfl rfl ?_
      refine g_iload dX2_weathersPaying_13 rfl ?_
      refine g_iload_n dX2_weathersPaying_15 rfl rfl ?_
      refine g_callVI [.int x4, .int x1] (ci := 2) dX2_weathersPaying_16 ml_X2_69 mk_X2_payOf rfl rfl ho0 (Nat.le_of_ble_eq_true rfl) (Nat.le_of_ble_eq_true rfl) rfl (c_Land_payOf ho0 hw) (fun r1 h2 hw => ?_)
      refine g_iload_n dX2_weathersPaying_19 rfl rfl ?_
      refine jn_el hw (fun J30 eJ30 hw => ?_)
      have hJ30 : ∀ (x3_3 : Int32) (h4 : Hp), J30 x3_3 h4 → Go cX2_weathersPaying 5 RX2 (some .int) 3 G (QI G Q) 30 [(0, .ref (gAd G o0)), (1, .int x1), (2, .int x2), (3, .int x3_3), (4, .int x4)] [] h4 := by
        intro x3_3 h4 hw
        subst eJ30
        obtain ⟨v5, ev5⟩ : ∃ y : Int32, y = (x4 + 1) := ⟨_, rfl⟩
        have hw := hw v5 ev5
        refine g_iinc dX2_weathersPaying_30 rfl (by rw [ev5]; rfl) (by decide) (lv1 := [(0, .ref (gAd G o0)), (1, .int x1), (2, .int x2), (3, .int x3_3), (4, .int v5)]) rfl ?_
        refine g_goto 5 dX2_weathersPaying_33 rfl ?_
        exact ih _ _ _ hw
      refine g_icmp_ne 30 dX2_weathersPaying_20 rfl (fun hc => ?_) (fun hc => ?_)
      · have hw := hw.1 hc
        exact hJ30 _ _ hw
      · have hw := hw.2 hc
        refine g_iload_n dX2_weathersPaying_23 rfl rfl ?_
        refine g_iconst (v := 1) dX2_weathersPaying_24 (by decide) ?_
        refine g_iload dX2_weathersPaying_25 rfl ?_
        refine g_ishl dX2_weathersPaying_27 ?_
        refine g_ior dX2_weathersPaying_28 ?_
        refine g_topi (fun v6 ev6 => ?_)
        have hw := hw v6 ev6
        refine g_istore_n dX2_weathersPaying_29 rfl (by decide) (lv1 := [(0, .ref (gAd G o0)), (1, .int x1), (2, .int x2), (3, .int v6), (4, .int x4)]) rfl ?_
        exact hJ30 _ _ hw
def Land_weathersPaying (o0 : Nat) (x1 : Int32) (x2 : Int32) (h : Hp) (Q : Int32 → Hp → Prop) : Prop := ∃ n7, Land_weathersPaying_L5 o0 x1 x2 Q n7 0 0 h
set_option maxHeartbeats 4000000 in
set_option maxRecDepth 20000 in
theorem c_Land_weathersPaying {G : Gx} {o0 : Nat} (ho0 : SH o0 = .inl 2) {x1 : Int32} {x2 : Int32} {h : Hp} {Q : Int32 → Hp → Prop} (hw : Land_weathersPaying o0 x1 x2 h Q) : Ct yX2_weathersPaying cX2_weathersPaying 5 (some .int) 3 G [.ref (gAd G o0), .int x1, .int x2] h (QI G Q) := by
  refine ct_go [(0, .ref (gAd G o0)), (1, .int x1), (2, .int x2)] (plainFor_of_name (by decide)) rfl (Nat.le_of_ble_eq_true rfl) rfl ?_
  refine g_iconst (v := 0) dX2_weathersPaying_0 (by decide) ?_
  refine g_istore_n dX2_weathersPaying_1 rfl (by decide) (lv1 := [(0, .ref (gAd G o0)), (1, .int x1), (2, .int x2), (3, .int 0)]) rfl ?_
  refine g_iconst (v := 0) dX2_weathersPaying_2 (by decide) ?_
  refine g_istore dX2_weathersPaying_3 (by decide) (lv1 := [(0, .ref (gAd G o0)), (1, .int x1), (2, .int x2), (3, .int 0), (4, .int 0)]) rfl ?_
  obtain ⟨n7, hw⟩ := hw
  refine gl_Land_weathersPaying_L5 ho0  _ _ _ _ hw
theorem dX2_mostAlike_0 : decode cX2_mostAlike 0 = .ok (.iconst 0, 1) := by decide +kernel
theorem dX2_mostAlike_1 : decode cX2_mostAlike 1 = .ok (.istore_n 3, 1) := by decide +kernel
theorem dX2_mostAlike_2 : decode cX2_mostAlike 2 = .ok (.iconst 0, 1) := by decide +kernel
theorem dX2_mostAlike_3 : decode cX2_mostAlike 3 = .ok (.istore 4, 2) := by decide +kernel
theorem dX2_mostAlike_5 : decode cX2_mostAlike 5 = .ok (.iload 4, 2) := by decide +kernel
theorem dX2_mostAlike_7 : decode cX2_mostAlike 7 = .ok (.bipush 10, 2) := by decide +kernel
theorem dX2_mostAlike_9 : decode cX2_mostAlike 9 = .ok (.if_icmp .ge 35, 3) := by decide +kernel
theorem dX2_mostAlike_12 : decode cX2_mostAlike 12 = .ok (.aload_n 0, 1) := by decide +kernel
theorem dX2_mostAlike_13 : decode cX2_mostAlike 13 = .ok (.iload_n 1, 1) := by decide +kernel
theorem dX2_mostAlike_14 : decode cX2_mostAlike 14 = .ok (.aload_n 0, 1) := by decide +kernel
theorem dX2_mostAlike_15 : decode cX2_mostAlike 15 = .ok (.iload 4, 2) := by decide +kernel
theorem dX2_mostAlike_17 : decode cX2_mostAlike 17 = .ok (.iload_n 1, 1) := by decide +kernel
theorem dX2_mostAlike_18 : decode cX2_mostAlike 18 = .ok (.invokevirtual 69, 3) := by decide +kernel
theorem dX2_mostAlike_21 : decode cX2_mostAlike 21 = .ok (.invokevirtual 80, 3) := by decide +kernel
theorem dX2_mostAlike_24 : decode cX2_mostAlike 24 = .ok (.iload_n 2, 1) := by decide +kernel
theorem dX2_mostAlike_25 : decode cX2_mostAlike 25 = .ok (.iand, 1) := by decide +kernel
theorem dX2_mostAlike_26 : decode cX2_mostAlike 26 = .ok (.invokestatic 83, 3) := by decide +kernel
theorem dX2_mostAlike_29 : decode cX2_mostAlike 29 = .ok (.istore 5, 2) := by decide +kernel
theorem dX2_mostAlike_31 : decode cX2_mostAlike 31 = .ok (.iload_n 3, 1) := by decide +kernel
theorem dX2_mostAlike_32 : decode cX2_mostAlike 32 = .ok (.iload 5, 2) := by decide +kernel
theorem dX2_mostAlike_34 : decode cX2_mostAlike 34 = .ok (.invokestatic 77, 3) := by decide +kernel
theorem dX2_mostAlike_37 : decode cX2_mostAlike 37 = .ok (.istore_n 3, 1) := by decide +kernel
theorem dX2_mostAlike_38 : decode cX2_mostAlike 38 = .ok (.iinc 4 1, 3) := by decide +kernel
theorem dX2_mostAlike_41 : decode cX2_mostAlike 41 = .ok (.goto (-36), 3) := by decide +kernel
theorem dX2_mostAlike_44 : decode cX2_mostAlike 44 = .ok (.iload_n 3, 1) := by decide +kernel
theorem dX2_mostAlike_45 : decode cX2_mostAlike 45 = .ok (.ireturn, 1) := by decide +kernel
theorem ml_X2_80 : Cond.methodLink RX2 80 yX2_weathersPaying ∈ Wd := mW 1286 (by decide +kernel) rfl
theorem mk_X2_weathersPaying : MokV yX2_weathersPaying cX2_weathersPaying 5 (some .int) 2 := ⟨⟨mW 5 (by decide +kernel) rfl, mW 1276 (by decide +kernel) rfl, ⟨by decide, by decide, by decide +kernel⟩, by decide⟩, mW 1274 (by decide +kernel) rfl, mW 1275 (by decide +kernel) rfl⟩
theorem ml_X2_83 : Cond.methodLink RX2 83 yJ6_bitCount_0f7a4 ∈ Wd := mW 1287 (by decide +kernel) rfl
theorem mk_J6_bitCount_0f7a4 : MokS yJ6_bitCount_0f7a4 cJ6_bitCount_0f7a4 1 (some .int) 1 := ⟨⟨mW 21 (by decide +kernel) rfl, mW 781 (by decide +kernel) rfl, ⟨by decide, by decide, by decide +kernel⟩, by decide⟩, mW 780 (by decide +kernel) rfl⟩
def Land_mostAlike_L5 (o0 : Nat) (x1 : Int32) (x2 : Int32) (Q : Int32 → Hp → Prop) : Nat → Int32 → Int32 → Hp → Prop
  | 0, _, _, _ => False
  | n + 1, x3, x4, h => (10 ≤ x4 → Q x3 h) ∧ (¬ 10 ≤ x4 → Land_payOf o0 x4 x1 h (fun r1 h2 => Land_weathersPaying o0 x1 r1 h2 (fun r3 h4 => J6_bitCount_0f7a4 (r3 &&& x2) h4 (fun r5 h6 => J9_max_7cf53 x3 r5 h6 (fun r7 h8 => ∀ v9 : Int32, v9 = (x4 + 1) → Land_mostAlike_L5 o0 x1 x2 Q n r7 v9 h8)))))
set_option maxHeartbeats 4000000 in
set_option maxRecDepth 20000 in
theorem gl_Land_mostAlike_L5 {G : Gx} {o0 : Nat} (ho0 : SH o0 = .inl 2) {x1 : Int32} {x2 : Int32} {Q : Int32 → Hp → Prop} : ∀ (n : Nat) (x3 : Int32) (x4 : Int32) (h : Hp), Land_mostAlike_L5 o0 x1 x2 Q n x3 x4 h → Go cX2_mostAlike 6 RX2 (some .int) 4 G (QI G Q) 5 [(0, .ref (gAd G o0)), (1, .int x1), (2, .int x2), (3, .int x3), (4, .int x4)] [] h := by
  intro n
  induction n with
  | zero => intro _ _ h hw; exact False.elim hw
  | succ n ih =>
    intro x3 x4 h hw
    refine g_iload dX2_mostAlike_5 rfl ?_
    refine g_bipush (v := 10) dX2_mostAlike_7 (by decide) ?_
    refine g_icmp_ge 44 dX2_mostAlike_9 rfl (fun hc => ?_) (fun hc => ?_)
    · have hw := hw.1 hc
      refine g_iload_n dX2_mostAlike_44 rfl rfl ?_
      exact g_iret dX2_mostAlike_45 hw
    · have hw := hw.2 hc
      refine g_aload_n dX2_mostAlike_12 rfl rfl ?_
      refine g_iload_n dX2_mostAlike_13 rfl rfl ?_
      refine g_aload_n dX2_mostAlike_14 rfl rfl ?_
      refine g_iload dX2_mostAlike_15 rfl ?_
      refine g_iload_n dX2_mostAlike_17 rfl rfl ?_
      refine g_callVI [.int x4, .int x1] (ci := 2) dX2_mostAlike_18 ml_X2_69 mk_X2_payOf rfl rfl ho0 (Nat.le_of_ble_eq_true rfl) (Nat.le_of_ble_eq_true rfl) rfl (c_Land_payOf ho0 hw) (fun r1 h2 hw => ?_)
      refine g_callVI [.int x1, .int r1] (ci := 2) dX2_mostAlike_21 ml_X2_80 mk_X2_weathersPaying rfl rfl ho0 (Nat.le_of_ble_eq_true rfl) (Nat.le_of_ble_eq_true rfl) rfl (c_Land_weathersPaying ho0 hw) (fun r3 h4 hw => ?_)
      refine g_iload_n dX2_mostAlike_24 rfl rfl ?_
      refine g_iand dX2_mostAlike_25 ?_
      refine g_callSI [.int (r3 &&& x2)] dX2_mostAlike_26 ml_X2_83 mk_J6_bitCount_0f7a4 rfl (Nat.le_of_ble_eq_true rfl) (Nat.le_of_ble_eq_true rfl) rfl (c_J6_bitCount_0f7a4 hw) (fun r5 h6 hw => ?_)
      refine g_istore dX2_mostAlike_29 (by decide) (lv1 := [(0, .ref (gAd G o0)), (1, .int x1), (2, .int x2), (3, .int x3), (4, .int x4), (5, .int r5)]) rfl ?_
      refine g_iload_n dX2_mostAlike_31 rfl rfl ?_
      refine g_iload dX2_mostAlike_32 rfl ?_
      refine g_callSI [.int x3, .int r5] dX2_mostAlike_34 ml_X2_77 mk_J9_max_7cf53 rfl (Nat.le_of_ble_eq_true rfl) (Nat.le_of_ble_eq_true rfl) rfl (c_J9_max_7cf53 hw) (fun r7 h8 hw => ?_)
      refine g_istore_n dX2_mostAlike_37 rfl (by decide) (lv1 := [(0, .ref (gAd G o0)), (1, .int x1), (2, .int x2), (3, .int r7), (4, .int x4), (5, .int r5)]) rfl ?_
      obtain ⟨v9, ev9⟩ : ∃ y : Int32, y = (x4 + 1) := ⟨_, rfl⟩
      have hw := hw v9 ev9
      refine g_iinc dX2_mostAlike_38 rfl (by rw [ev9]; rfl) (by decide) (lv1 := [(0, .ref (gAd G o0)), (1, .int x1), (2, .int x2), (3, .int r7), (4, .int v9), (5, .int r5)]) rfl ?_
      refine g_goto 5 dX2_mostAlike_41 rfl ?_
      refine g_lv [0, 1, 2, 3, 4] rfl ?_
      exact ih _ _ _ hw
def Land_mostAlike (o0 : Nat) (x1 : Int32) (x2 : Int32) (h : Hp) (Q : Int32 → Hp → Prop) : Prop := ∃ n10, Land_mostAlike_L5 o0 x1 x2 Q n10 0 0 h
set_option maxHeartbeats 4000000 in
set_option maxRecDepth 20000 in
theorem c_Land_mostAlike {G : Gx} {o0 : Nat} (ho0 : SH o0 = .inl 2) {x1 : Int32} {x2 : Int32} {h : Hp} {Q : Int32 → Hp → Prop} (hw : Land_mostAlike o0 x1 x2 h Q) : Ct yX2_mostAlike cX2_mostAlike 6 (some .int) 4 G [.ref (gAd G o0), .int x1, .int x2] h (QI G Q) := by
  refine ct_go [(0, .ref (gAd G o0)), (1, .int x1), (2, .int x2)] (plainFor_of_name (by decide)) rfl (Nat.le_of_ble_eq_true rfl) rfl ?_
  refine g_iconst (v := 0) dX2_mostAlike_0 (by decide) ?_
  refine g_istore_n dX2_mostAlike_1 rfl (by decide) (lv1 := [(0, .ref (gAd G o0)), (1, .int x1), (2, .int x2), (3, .int 0)]) rfl ?_
  refine g_iconst (v := 0) dX2_mostAlike_2 (by decide) ?_
  refine g_istore dX2_mostAlike_3 (by decide) (lv1 := [(0, .ref (gAd G o0)), (1, .int x1), (2, .int x2), (3, .int 0), (4, .int 0)]) rfl ?_
  obtain ⟨n10, hw⟩ := hw
  refine gl_Land_mostAlike_L5 ho0  _ _ _ _ hw
theorem dJ7_fill_d0a16_0 : decode cJ7_fill_d0a16 0 = .ok (.iconst 0, 1) := by decide +kernel
theorem dJ7_fill_d0a16_1 : decode cJ7_fill_d0a16 1 = .ok (.istore_n 3, 1) := by decide +kernel
theorem dJ7_fill_d0a16_2 : decode cJ7_fill_d0a16 2 = .ok (.aload_n 0, 1) := by decide +kernel
theorem dJ7_fill_d0a16_3 : decode cJ7_fill_d0a16 3 = .ok (.arraylength, 1) := by decide +kernel
theorem dJ7_fill_d0a16_4 : decode cJ7_fill_d0a16 4 = .ok (.istore 4, 2) := by decide +kernel
theorem dJ7_fill_d0a16_6 : decode cJ7_fill_d0a16 6 = .ok (.iload_n 3, 1) := by decide +kernel
theorem dJ7_fill_d0a16_7 : decode cJ7_fill_d0a16 7 = .ok (.iload 4, 2) := by decide +kernel
theorem dJ7_fill_d0a16_9 : decode cJ7_fill_d0a16 9 = .ok (.if_icmp .ge 13, 3) := by decide +kernel
theorem dJ7_fill_d0a16_12 : decode cJ7_fill_d0a16 12 = .ok (.aload_n 0, 1) := by decide +kernel
theorem dJ7_fill_d0a16_13 : decode cJ7_fill_d0a16 13 = .ok (.iload_n 3, 1) := by decide +kernel
theorem dJ7_fill_d0a16_14 : decode cJ7_fill_d0a16 14 = .ok (.lload_n 1, 1) := by decide +kernel
theorem dJ7_fill_d0a16_15 : decode cJ7_fill_d0a16 15 = .ok (.lastore, 1) := by decide +kernel
theorem dJ7_fill_d0a16_16 : decode cJ7_fill_d0a16 16 = .ok (.iinc 3 1, 3) := by decide +kernel
theorem dJ7_fill_d0a16_19 : decode cJ7_fill_d0a16 19 = .ok (.goto (-13), 3) := by decide +kernel
theorem dJ7_fill_d0a16_22 : decode cJ7_fill_d0a16 22 = .ok (.return_, 1) := by decide +kernel
def J7_fill_d0a16_L6 (o0 : Nat) (x1 : Int64) (x4 : Int32) (Q : Hp → Prop) : Nat → Int32 → Hp → Prop
  | 0, _, _ => False
  | n + 1, x3, h => (x4 ≤ x3 → Q h) ∧ (¬ x4 ≤ x3 → vp_in x3 (alen o0) ∧ ∀ h2 : Hp, h2 = sJ h o0 (x3).toNatClampNeg x1 → ∀ v3 : Int32, v3 = (x3 + 1) → J7_fill_d0a16_L6 o0 x1 x4 Q n v3 h2)
set_option maxHeartbeats 4000000 in
set_option maxRecDepth 20000 in
theorem gl_J7_fill_d0a16_L6 {G : Gx} {o0 : Nat} (ho0 : isA o0 1) {x1 : Int64} {x4 : Int32} {Q : Hp → Prop} : ∀ (n : Nat) (x3 : Int32) (h : Hp), J7_fill_d0a16_L6 o0 x1 x4 Q n x3 h → Go cJ7_fill_d0a16 5 RJ7 none 1 G (QV G Q) 6 [(0, .ref (gAd G o0)), (1, .long x1), (3, .int x3), (4, .int x4)] [] h := by
  intro n
  induction n with
  | zero => intro _ h hw; exact False.elim hw
  | succ n ih =>
    intro x3 h hw
    refine g_iload_n dJ7_fill_d0a16_6 rfl rfl ?_
    refine g_iload dJ7_fill_d0a16_7 rfl ?_
    refine g_icmp_ge 22 dJ7_fill_d0a16_9 rfl (fun hc => ?_) (fun hc => ?_)
    · have hw := hw.1 hc
      exact g_vret dJ7_fill_d0a16_22 hw
    · have hw := hw.2 hc
      refine g_aload_n dJ7_fill_d0a16_12 rfl rfl ?_
      refine g_iload_n dJ7_fill_d0a16_13 rfl rfl ?_
      refine g_lload_n dJ7_fill_d0a16_14 rfl rfl ?_
      refine g_last dJ7_fill_d0a16_15 ho0 hw.1 ?_
      have hw := hw.2
      refine g_heap (fun h2 eh2 => ?_)
      have hw := hw h2 eh2
      obtain ⟨v3, ev3⟩ : ∃ y : Int32, y = (x3 + 1) := ⟨_, rfl⟩
      have hw := hw v3 ev3
      refine g_iinc dJ7_fill_d0a16_16 rfl (by rw [ev3]; rfl) (by decide) (lv1 := [(0, .ref (gAd G o0)), (1, .long x1), (3, .int v3), (4, .int x4)]) rfl ?_
      refine g_goto 6 dJ7_fill_d0a16_19 rfl ?_
      exact ih _ _ hw
def J7_fill_d0a16 (o0 : Nat) (x1 : Int64) (h : Hp) (Q : Hp → Prop) : Prop := ∀ v1 : Int32, v1 = (Int32.ofNat (alen o0)) → ∃ n4, J7_fill_d0a16_L6 o0 x1 v1 Q n4 0 h
set_option maxHeartbeats 4000000 in
set_option maxRecDepth 20000 in
theorem c_J7_fill_d0a16 {G : Gx} {o0 : Nat} (ho0 : isA o0 1) {x1 : Int64} {h : Hp} {Q : Hp → Prop} (hw : J7_fill_d0a16 o0 x1 h Q) : Ct yJ7_fill_d0a16 cJ7_fill_d0a16 5 none 1 G [.ref (gAd G o0), .long x1] h (QV G Q) := by
  refine ct_go [(0, .ref (gAd G o0)), (1, .long x1)] (plainFor_of_name (by decide)) rfl (Nat.le_of_ble_eq_true rfl) rfl ?_
  refine g_iconst (v := 0) dJ7_fill_d0a16_0 (by decide) ?_
  refine g_istore_n dJ7_fill_d0a16_1 rfl (by decide) (lv1 := [(0, .ref (gAd G o0)), (1, .long x1), (3, .int 0)]) rfl ?_
  refine g_aload_n dJ7_fill_d0a16_2 rfl rfl ?_
  refine g_alen dJ7_fill_d0a16_3 ho0 (by decide) rfl ?_
  refine g_topi (fun v1 ev1 => ?_)
  have hw := hw v1 ev1
  refine g_istore dJ7_fill_d0a16_4 (by decide) (lv1 := [(0, .ref (gAd G o0)), (1, .long x1), (3, .int 0), (4, .int v1)]) rfl ?_
  obtain ⟨n4, hw⟩ := hw
  refine gl_J7_fill_d0a16_L6 ho0  _ _ _ hw
theorem dX2_copy_0 : decode cX2_copy 0 = .ok (.aload_n 0, 1) := by decide +kernel
theorem dX2_copy_1 : decode cX2_copy 1 = .ok (.aload_n 1, 1) := by decide +kernel
theorem dX2_copy_2 : decode cX2_copy 2 = .ok (.getfield 9, 3) := by decide +kernel
theorem dX2_copy_5 : decode cX2_copy 5 = .ok (.putfield 9, 3) := by decide +kernel
theorem dX2_copy_8 : decode cX2_copy 8 = .ok (.aload_n 0, 1) := by decide +kernel
theorem dX2_copy_9 : decode cX2_copy 9 = .ok (.aload_n 1, 1) := by decide +kernel
theorem dX2_copy_10 : decode cX2_copy 10 = .ok (.getfield 15, 3) := by decide +kernel
theorem dX2_copy_13 : decode cX2_copy 13 = .ok (.putfield 15, 3) := by decide +kernel
theorem dX2_copy_16 : decode cX2_copy 16 = .ok (.aload_n 0, 1) := by decide +kernel
theorem dX2_copy_17 : decode cX2_copy 17 = .ok (.aload_n 1, 1) := by decide +kernel
theorem dX2_copy_18 : decode cX2_copy 18 = .ok (.getfield 18, 3) := by decide +kernel
theorem dX2_copy_21 : decode cX2_copy 21 = .ok (.putfield 18, 3) := by decide +kernel
theorem dX2_copy_24 : decode cX2_copy 24 = .ok (.aload_n 0, 1) := by decide +kernel
theorem dX2_copy_25 : decode cX2_copy 25 = .ok (.aload_n 1, 1) := by decide +kernel
theorem dX2_copy_26 : decode cX2_copy 26 = .ok (.getfield 21, 3) := by decide +kernel
theorem dX2_copy_29 : decode cX2_copy 29 = .ok (.putfield 21, 3) := by decide +kernel
theorem dX2_copy_32 : decode cX2_copy 32 = .ok (.aload_n 1, 1) := by decide +kernel
theorem dX2_copy_33 : decode cX2_copy 33 = .ok (.getfield 24, 3) := by decide +kernel
theorem dX2_copy_36 : decode cX2_copy 36 = .ok (.iconst 0, 1) := by decide +kernel
theorem dX2_copy_37 : decode cX2_copy 37 = .ok (.aload_n 0, 1) := by decide +kernel
theorem dX2_copy_38 : decode cX2_copy 38 = .ok (.getfield 24, 3) := by decide +kernel
theorem dX2_copy_41 : decode cX2_copy 41 = .ok (.iconst 0, 1) := by decide +kernel
theorem dX2_copy_42 : decode cX2_copy 42 = .ok (.aload_n 0, 1) := by decide +kernel
theorem dX2_copy_43 : decode cX2_copy 43 = .ok (.getfield 24, 3) := by decide +kernel
theorem dX2_copy_46 : decode cX2_copy 46 = .ok (.arraylength, 1) := by decide +kernel
theorem dX2_copy_47 : decode cX2_copy 47 = .ok (.invokestatic 40, 3) := by decide +kernel
theorem dX2_copy_50 : decode cX2_copy 50 = .ok (.aload_n 1, 1) := by decide +kernel
theorem dX2_copy_51 : decode cX2_copy 51 = .ok (.getfield 28, 3) := by decide +kernel
theorem dX2_copy_54 : decode cX2_copy 54 = .ok (.iconst 0, 1) := by decide +kernel
theorem dX2_copy_55 : decode cX2_copy 55 = .ok (.aload_n 0, 1) := by decide +kernel
theorem dX2_copy_56 : decode cX2_copy 56 = .ok (.getfield 28, 3) := by decide +kernel
theorem dX2_copy_59 : decode cX2_copy 59 = .ok (.iconst 0, 1) := by decide +kernel
theorem dX2_copy_60 : decode cX2_copy 60 = .ok (.aload_n 0, 1) := by decide +kernel
theorem dX2_copy_61 : decode cX2_copy 61 = .ok (.getfield 28, 3) := by decide +kernel
theorem dX2_copy_64 : decode cX2_copy 64 = .ok (.arraylength, 1) := by decide +kernel
theorem dX2_copy_65 : decode cX2_copy 65 = .ok (.invokestatic 40, 3) := by decide +kernel
theorem dX2_copy_68 : decode cX2_copy 68 = .ok (.aload_n 1, 1) := by decide +kernel
theorem dX2_copy_69 : decode cX2_copy 69 = .ok (.getfield 31, 3) := by decide +kernel
theorem dX2_copy_72 : decode cX2_copy 72 = .ok (.iconst 0, 1) := by decide +kernel
theorem dX2_copy_73 : decode cX2_copy 73 = .ok (.aload_n 0, 1) := by decide +kernel
theorem dX2_copy_74 : decode cX2_copy 74 = .ok (.getfield 31, 3) := by decide +kernel
theorem dX2_copy_77 : decode cX2_copy 77 = .ok (.iconst 0, 1) := by decide +kernel
theorem dX2_copy_78 : decode cX2_copy 78 = .ok (.aload_n 0, 1) := by decide +kernel
theorem dX2_copy_79 : decode cX2_copy 79 = .ok (.getfield 31, 3) := by decide +kernel
theorem dX2_copy_82 : decode cX2_copy 82 = .ok (.arraylength, 1) := by decide +kernel
theorem dX2_copy_83 : decode cX2_copy 83 = .ok (.invokestatic 40, 3) := by decide +kernel
theorem dX2_copy_86 : decode cX2_copy 86 = .ok (.aload_n 1, 1) := by decide +kernel
theorem dX2_copy_87 : decode cX2_copy 87 = .ok (.getfield 34, 3) := by decide +kernel
theorem dX2_copy_90 : decode cX2_copy 90 = .ok (.iconst 0, 1) := by decide +kernel
theorem dX2_copy_91 : decode cX2_copy 91 = .ok (.aload_n 0, 1) := by decide +kernel
theorem dX2_copy_92 : decode cX2_copy 92 = .ok (.getfield 34, 3) := by decide +kernel
theorem dX2_copy_95 : decode cX2_copy 95 = .ok (.iconst 0, 1) := by decide +kernel
theorem dX2_copy_96 : decode cX2_copy 96 = .ok (.aload_n 0, 1) := by decide +kernel
theorem dX2_copy_97 : decode cX2_copy 97 = .ok (.getfield 34, 3) := by decide +kernel
theorem dX2_copy_100 : decode cX2_copy 100 = .ok (.arraylength, 1) := by decide +kernel
theorem dX2_copy_101 : decode cX2_copy 101 = .ok (.invokestatic 40, 3) := by decide +kernel
theorem dX2_copy_104 : decode cX2_copy 104 = .ok (.aload_n 1, 1) := by decide +kernel
theorem dX2_copy_105 : decode cX2_copy 105 = .ok (.getfield 37, 3) := by decide +kernel
theorem dX2_copy_108 : decode cX2_copy 108 = .ok (.iconst 0, 1) := by decide +kernel
theorem dX2_copy_109 : decode cX2_copy 109 = .ok (.aload_n 0, 1) := by decide +kernel
theorem dX2_copy_110 : decode cX2_copy 110 = .ok (.getfield 37, 3) := by decide +kernel
theorem dX2_copy_113 : decode cX2_copy 113 = .ok (.iconst 0, 1) := by decide +kernel
theorem dX2_copy_114 : decode cX2_copy 114 = .ok (.aload_n 0, 1) := by decide +kernel
theorem dX2_copy_115 : decode cX2_copy 115 = .ok (.getfield 37, 3) := by decide +kernel
theorem dX2_copy_118 : decode cX2_copy 118 = .ok (.arraylength, 1) := by decide +kernel
theorem dX2_copy_119 : decode cX2_copy 119 = .ok (.invokestatic 40, 3) := by decide +kernel
theorem dX2_copy_122 : decode cX2_copy 122 = .ok (.return_, 1) := by decide +kernel
theorem pf_2_0 : parseFieldDescriptor (uD 2 0) = some .int := by decide +kernel
theorem pf_2_1 : parseFieldDescriptor (uD 2 1) = some .int := by decide +kernel
theorem pf_2_2 : parseFieldDescriptor (uD 2 2) = some .int := by decide +kernel
theorem fl_X2_21 : FLk RX2 21 2 3 := ⟨_, rfl, by decide, mW 152 (by decide +kernel) rfl⟩
theorem pf_2_3 : parseFieldDescriptor (uD 2 3) = some .int := by decide +kernel
theorem fl_X2_24 : FLk RX2 24 2 4 := ⟨_, rfl, by decide, mW 155 (by decide +kernel) rfl⟩
theorem ml_X2_40 : Cond.methodLink RX2 40 arraycopyName ∈ Wd := mW 1363 (by decide +kernel) rfl
def Land_copy (o0 : Nat) (o1 : Nat) (h : Hp) (Q : Hp → Prop) : Prop := ∀ h1 : Hp, h1 = sI h o0 0 (gI h o1 0) → ∀ h2 : Hp, h2 = sI h1 o0 1 (gI h1 o1 1) → ∀ h3 : Hp, h3 = sI h2 o0 2 (gI h2 o1 2) → ∀ h4 : Hp, h4 = sI h3 o0 3 (gI h3 o1 3) → (¬ (0 : Int32) < 0 ∧ ¬ (0 : Int32) < 0 ∧ ¬ (Int32.ofNat (alen (rf o0 4))) < 0 ∧ ((0 : Int32)).toNatClampNeg + ((Int32.ofNat (alen (rf o0 4)))).toNatClampNeg ≤ alen (rf o1 4) ∧ ((0 : Int32)).toNatClampNeg + ((Int32.ofNat (alen (rf o0 4)))).toNatClampNeg ≤ alen (rf o0 4)) ∧ ∀ h5 : Hp, h5 = cI h4 (rf o1 4) ((0 : Int32)).toNatClampNeg (rf o0 4) ((0 : Int32)).toNatClampNeg ((Int32.ofNat (alen (rf o0 4)))).toNatClampNeg → (¬ (0 : Int32) < 0 ∧ ¬ (0 : Int32) < 0 ∧ ¬ (Int32.ofNat (alen (rf o0 5))) < 0 ∧ ((0 : Int32)).toNatClampNeg + ((Int32.ofNat (alen (rf o0 5)))).toNatClampNeg ≤ alen (rf o1 5) ∧ ((0 : Int32)).toNatClampNeg + ((Int32.ofNat (alen (rf o0 5)))).toNatClampNeg ≤ alen (rf o0 5)) ∧ ∀ h6 : Hp, h6 = cI h5 (rf o1 5) ((0 : Int32)).toNatClampNeg (rf o0 5) ((0 : Int32)).toNatClampNeg ((Int32.ofNat (alen (rf o0 5)))).toNatClampNeg → (¬ (0 : Int32) < 0 ∧ ¬ (0 : Int32) < 0 ∧ ¬ (Int32.ofNat (alen (rf o0 6))) < 0 ∧ ((0 : Int32)).toNatClampNeg + ((Int32.ofNat (alen (rf o0 6)))).toNatClampNeg ≤ alen (rf o1 6) ∧ ((0 : Int32)).toNatClampNeg + ((Int32.ofNat (alen (rf o0 6)))).toNatClampNeg ≤ alen (rf o0 6)) ∧ ∀ h7 : Hp, h7 = cI h6 (rf o1 6) ((0 : Int32)).toNatClampNeg (rf o0 6) ((0 : Int32)).toNatClampNeg ((Int32.ofNat (alen (rf o0 6)))).toNatClampNeg → (¬ (0 : Int32) < 0 ∧ ¬ (0 : Int32) < 0 ∧ ¬ (Int32.ofNat (alen (rf o0 7))) < 0 ∧ ((0 : Int32)).toNatClampNeg + ((Int32.ofNat (alen (rf o0 7)))).toNatClampNeg ≤ alen (rf o1 7) ∧ ((0 : Int32)).toNatClampNeg + ((Int32.ofNat (alen (rf o0 7)))).toNatClampNeg ≤ alen (rf o0 7)) ∧ ∀ h8 : Hp, h8 = cI h7 (rf o1 7) ((0 : Int32)).toNatClampNeg (rf o0 7) ((0 : Int32)).toNatClampNeg ((Int32.ofNat (alen (rf o0 7)))).toNatClampNeg → (¬ (0 : Int32) < 0 ∧ ¬ (0 : Int32) < 0 ∧ ¬ (Int32.ofNat (alen (rf o0 8))) < 0 ∧ ((0 : Int32)).toNatClampNeg + ((Int32.ofNat (alen (rf o0 8)))).toNatClampNeg ≤ alen (rf o1 8) ∧ ((0 : Int32)).toNatClampNeg + ((Int32.ofNat (alen (rf o0 8)))).toNatClampNeg ≤ alen (rf o0 8)) ∧ ∀ h9 : Hp, h9 = cI h8 (rf o1 8) ((0 : Int32)).toNatClampNeg (rf o0 8) ((0 : Int32)).toNatClampNeg ((Int32.ofNat (alen (rf o0 8)))).toNatClampNeg → Q h9
set_option maxHeartbeats 4000000 in
set_option maxRecDepth 20000 in
theorem c_Land_copy {G : Gx} {o0 : Nat} (ho0 : SH o0 = .inl 2) {o1 : Nat} (ho1 : SH o1 = .inl 2)  {h : Hp} {Q : Hp → Prop} (hw : Land_copy o0 o1 h Q) : Ct yX2_copy cX2_copy 2 none 2 G [.ref (gAd G o0), .ref (gAd G o1)] h (QV G Q) := by
  refine ct_go [(0, .ref (gAd G o0)), (1, .ref (gAd G o1))] (plainFor_of_name (by decide)) rfl (Nat.le_of_ble_eq_true rfl) rfl ?_
  refine g_aload_n dX2_copy_0 rfl rfl ?_
  refine g_aload_n dX2_copy_1 rfl rfl ?_
  refine g_getI dX2_copy_2 fl_X2_9 ho1 rfl ?_
  refine g_putI dX2_copy_5 fl_X2_9 ho0 rfl rfl pf_2_0 ?_
  refine g_heap (fun h1 eh1 => ?_)
  have hw := hw h1 eh1
  refine g_aload_n dX2_copy_8 rfl rfl ?_
  refine g_aload_n dX2_copy_9 rfl rfl ?_
  refine g_getI dX2_copy_10 fl_X2_15 ho1 rfl ?_
  refine g_putI dX2_copy_13 fl_X2_15 ho0 rfl rfl pf_2_1 ?_
  refine g_heap (fun h2 eh2 => ?_)
  have hw := hw h2 eh2
  refine g_aload_n dX2_copy_16 rfl rfl ?_
  refine g_aload_n dX2_copy_17 rfl rfl ?_
  refine g_getI dX2_copy_18 fl_X2_18 ho1 rfl ?_
  refine g_putI dX2_copy_21 fl_X2_18 ho0 rfl rfl pf_2_2 ?_
  refine g_heap (fun h3 eh3 => ?_)
  have hw := hw h3 eh3
  refine g_aload_n dX2_copy_24 rfl rfl ?_
  refine g_aload_n dX2_copy_25 rfl rfl ?_
  refine g_getI dX2_copy_26 fl_X2_21 ho1 rfl ?_
  refine g_putI dX2_copy_29 fl_X2_21 ho0 rfl rfl pf_2_3 ?_
  refine g_heap (fun h4 eh4 => ?_)
  have hw := hw h4 eh4
  refine g_aload_n dX2_copy_32 rfl rfl ?_
  refine g_getA dX2_copy_33 fl_X2_24 ho1 rfl ?_
  refine g_iconst (v := 0) dX2_copy_36 (by decide) ?_
  refine g_aload_n dX2_copy_37 rfl rfl ?_
  refine g_getA dX2_copy_38 fl_X2_24 ho0 rfl ?_
  refine g_iconst (v := 0) dX2_copy_41 (by decide) ?_
  refine g_aload_n dX2_copy_42 rfl rfl ?_
  refine g_getA dX2_copy_43 fl_X2_24 ho0 rfl ?_
  refine g_alen dX2_copy_46 (rf_a ho0 (k := 4) rfl) (by decide) rfl ?_
  refine g_copyI dX2_copy_47 ml_X2_40 (rf_a ho1 (k := 4) rfl) (rf_a ho0 (k := 4) rfl) hw.1 (by decide) (Nat.le_of_ble_eq_true rfl) ?_
  have hw := hw.2
  refine g_heap (fun h5 eh5 => ?_)
  have hw := hw h5 eh5
  refine g_aload_n dX2_copy_50 rfl rfl ?_
  refine g_getA dX2_copy_51 fl_X2_28 ho1 rfl ?_
  refine g_iconst (v := 0) dX2_copy_54 (by decide) ?_
  refine g_aload_n dX2_copy_55 rfl rfl ?_
  refine g_getA dX2_copy_56 fl_X2_28 ho0 rfl ?_
  refine g_iconst (v := 0) dX2_copy_59 (by decide) ?_
  refine g_aload_n dX2_copy_60 rfl rfl ?_
  refine g_getA dX2_copy_61 fl_X2_28 ho0 rfl ?_
  refine g_alen dX2_copy_64 (rf_a ho0 (k := 5) rfl) (by decide) rfl ?_
  refine g_copyI dX2_copy_65 ml_X2_40 (rf_a ho1 (k := 5) rfl) (rf_a ho0 (k := 5) rfl) hw.1 (by decide) (Nat.le_of_ble_eq_true rfl) ?_
  have hw := hw.2
  refine g_heap (fun h6 eh6 => ?_)
  have hw := hw h6 eh6
  refine g_aload_n dX2_copy_68 rfl rfl ?_
  refine g_getA dX2_copy_69 fl_X2_31 ho1 rfl ?_
  refine g_iconst (v := 0) dX2_copy_72 (by decide) ?_
  refine g_aload_n dX2_copy_73 rfl rfl ?_
  refine g_getA dX2_copy_74 fl_X2_31 ho0 rfl ?_
  refine g_iconst (v := 0) dX2_copy_77 (by decide) ?_
  refine g_aload_n dX2_copy_78 rfl rfl ?_
  refine g_getA dX2_copy_79 fl_X2_31 ho0 rfl ?_
  refine g_alen dX2_copy_82 (rf_a ho0 (k := 6) rfl) (by decide) rfl ?_
  refine g_copyI dX2_copy_83 ml_X2_40 (rf_a ho1 (k := 6) rfl) (rf_a ho0 (k := 6) rfl) hw.1 (by decide) (Nat.le_of_ble_eq_true rfl) ?_
  have hw := hw.2
  refine g_heap (fun h7 eh7 => ?_)
  have hw := hw h7 eh7
  refine g_aload_n dX2_copy_86 rfl rfl ?_
  refine g_getA dX2_copy_87 fl_X2_34 ho1 rfl ?_
  refine g_iconst (v := 0) dX2_copy_90 (by decide) ?_
  refine g_aload_n dX2_copy_91 rfl rfl ?_
  refine g_getA dX2_copy_92 fl_X2_34 ho0 rfl ?_
  refine g_iconst (v := 0) dX2_copy_95 (by decide) ?_
  refine g_aload_n dX2_copy_96 rfl rfl ?_
  refine g_getA dX2_copy_97 fl_X2_34 ho0 rfl ?_
  refine g_alen dX2_copy_100 (rf_a ho0 (k := 7) rfl) (by decide) rfl ?_
  refine g_copyI dX2_copy_101 ml_X2_40 (rf_a ho1 (k := 7) rfl) (rf_a ho0 (k := 7) rfl) hw.1 (by decide) (Nat.le_of_ble_eq_true rfl) ?_
  have hw := hw.2
  refine g_heap (fun h8 eh8 => ?_)
  have hw := hw h8 eh8
  refine g_aload_n dX2_copy_104 rfl rfl ?_
  refine g_getA dX2_copy_105 fl_X2_37 ho1 rfl ?_
  refine g_iconst (v := 0) dX2_copy_108 (by decide) ?_
  refine g_aload_n dX2_copy_109 rfl rfl ?_
  refine g_getA dX2_copy_110 fl_X2_37 ho0 rfl ?_
  refine g_iconst (v := 0) dX2_copy_113 (by decide) ?_
  refine g_aload_n dX2_copy_114 rfl rfl ?_
  refine g_getA dX2_copy_115 fl_X2_37 ho0 rfl ?_
  refine g_alen dX2_copy_118 (rf_a ho0 (k := 8) rfl) (by decide) rfl ?_
  refine g_copyI dX2_copy_119 ml_X2_40 (rf_a ho1 (k := 8) rfl) (rf_a ho0 (k := 8) rfl) hw.1 (by decide) (Nat.le_of_ble_eq_true rfl) ?_
  have hw := hw.2
  refine g_heap (fun h9 eh9 => ?_)
  have hw := hw h9 eh9
  exact g_vret dX2_copy_122 hw
