theorem dX12_land_0 : decode cX12_land 0 = .ok (.aload_n 0, 1) := by decide +kernel
theorem dX12_land_1 : decode cX12_land 1 = .ok (.iconst 0, 1) := by decide +kernel
theorem dX12_land_2 : decode cX12_land 2 = .ok (.putfield 1, 3) := by decide +kernel
theorem dX12_land_5 : decode cX12_land 5 = .ok (.iload_n 1, 1) := by decide +kernel
theorem dX12_land_6 : decode cX12_land 6 = .ok (.i2l, 1) := by decide +kernel
theorem dX12_land_7 : decode cX12_land 7 = .ok (.lconst 0, 1) := by decide +kernel
theorem dX12_land_8 : decode cX12_land 8 = .ok (.aload_n 0, 1) := by decide +kernel
theorem dX12_land_9 : decode cX12_land 9 = .ok (.getfield 107, 3) := by decide +kernel
theorem dX12_land_12 : decode cX12_land 12 = .ok (.i2l, 1) := by decide +kernel
theorem dX12_land_13 : decode cX12_land 13 = .ok (.invokestatic 169, 3) := by decide +kernel
theorem dX12_land_16 : decode cX12_land 16 = .ok (.ifCond .ne 6, 3) := by decide +kernel
theorem dX12_land_19 : decode cX12_land 19 = .ok (.bipush (-3), 2) := by decide +kernel
theorem dX12_land_21 : decode cX12_land 21 = .ok (.ireturn, 1) := by decide +kernel
theorem dX12_land_22 : decode cX12_land 22 = .ok (.aload_n 0, 1) := by decide +kernel
theorem dX12_land_23 : decode cX12_land 23 = .ok (.iload_n 1, 1) := by decide +kernel
theorem dX12_land_24 : decode cX12_land 24 = .ok (.putfield 110, 3) := by decide +kernel
theorem dX12_land_27 : decode cX12_land 27 = .ok (.aload_n 0, 1) := by decide +kernel
theorem dX12_land_28 : decode cX12_land 28 = .ok (.iconst 0, 1) := by decide +kernel
theorem dX12_land_29 : decode cX12_land 29 = .ok (.putfield 107, 3) := by decide +kernel
theorem dX12_land_32 : decode cX12_land 32 = .ok (.aload_n 0, 1) := by decide +kernel
theorem dX12_land_33 : decode cX12_land 33 = .ok (.iconst 0, 1) := by decide +kernel
theorem dX12_land_34 : decode cX12_land 34 = .ok (.putfield 128, 3) := by decide +kernel
theorem dX12_land_37 : decode cX12_land 37 = .ok (.aload_n 0, 1) := by decide +kernel
theorem dX12_land_38 : decode cX12_land 38 = .ok (.iconst 0, 1) := by decide +kernel
theorem dX12_land_39 : decode cX12_land 39 = .ok (.putfield 153, 3) := by decide +kernel
theorem dX12_land_42 : decode cX12_land 42 = .ok (.aload_n 0, 1) := by decide +kernel
theorem dX12_land_43 : decode cX12_land 43 = .ok (.getfield 24, 3) := by decide +kernel
theorem dX12_land_46 : decode cX12_land 46 = .ok (.invokestatic 103, 3) := by decide +kernel
theorem dX12_land_49 : decode cX12_land 49 = .ok (.aload_n 0, 1) := by decide +kernel
theorem dX12_land_50 : decode cX12_land 50 = .ok (.invokevirtual 162, 3) := by decide +kernel
theorem dX12_land_53 : decode cX12_land 53 = .ok (.aload_n 0, 1) := by decide +kernel
theorem dX12_land_54 : decode cX12_land 54 = .ok (.iconst 0, 1) := by decide +kernel
theorem dX12_land_55 : decode cX12_land 55 = .ok (.invokevirtual 185, 3) := by decide +kernel
theorem dX12_land_58 : decode cX12_land 58 = .ok (.ifCond .ne 8, 3) := by decide +kernel
theorem dX12_land_61 : decode cX12_land 61 = .ok (.aload_n 0, 1) := by decide +kernel
theorem dX12_land_62 : decode cX12_land 62 = .ok (.iconst 2, 1) := by decide +kernel
theorem dX12_land_63 : decode cX12_land 63 = .ok (.invokevirtual 165, 3) := by decide +kernel
theorem dX12_land_66 : decode cX12_land 66 = .ok (.aload_n 0, 1) := by decide +kernel
theorem dX12_land_67 : decode cX12_land 67 = .ok (.iconst 1, 1) := by decide +kernel
theorem dX12_land_68 : decode cX12_land 68 = .ok (.invokevirtual 185, 3) := by decide +kernel
theorem dX12_land_71 : decode cX12_land 71 = .ok (.ifCond .ne 8, 3) := by decide +kernel
theorem dX12_land_74 : decode cX12_land 74 = .ok (.aload_n 0, 1) := by decide +kernel
theorem dX12_land_75 : decode cX12_land 75 = .ok (.iconst 2, 1) := by decide +kernel
theorem dX12_land_76 : decode cX12_land 76 = .ok (.invokevirtual 165, 3) := by decide +kernel
theorem dX12_land_79 : decode cX12_land 79 = .ok (.aload_n 0, 1) := by decide +kernel
theorem dX12_land_80 : decode cX12_land 80 = .ok (.getfield 24, 3) := by decide +kernel
theorem dX12_land_83 : decode cX12_land 83 = .ok (.bipush 61, 2) := by decide +kernel
theorem dX12_land_85 : decode cX12_land 85 = .ok (.aload_n 0, 1) := by decide +kernel
theorem dX12_land_86 : decode cX12_land 86 = .ok (.iconst 0, 1) := by decide +kernel
theorem dX12_land_87 : decode cX12_land 87 = .ok (.bipush 9, 2) := by decide +kernel
theorem dX12_land_89 : decode cX12_land 89 = .ok (.invokevirtual 206, 3) := by decide +kernel
theorem dX12_land_92 : decode cX12_land 92 = .ok (.iastore, 1) := by decide +kernel
theorem dX12_land_93 : decode cX12_land 93 = .ok (.aload_n 0, 1) := by decide +kernel
theorem dX12_land_94 : decode cX12_land 94 = .ok (.invokevirtual 219, 3) := by decide +kernel
theorem dX12_land_97 : decode cX12_land 97 = .ok (.aload_n 0, 1) := by decide +kernel
theorem dX12_land_98 : decode cX12_land 98 = .ok (.getfield 153, 3) := by decide +kernel
theorem dX12_land_101 : decode cX12_land 101 = .ok (.ifCond .ne 23, 3) := by decide +kernel
theorem dX12_land_104 : decode cX12_land 104 = .ok (.aload_n 0, 1) := by decide +kernel
theorem dX12_land_105 : decode cX12_land 105 = .ok (.getfield 135, 3) := by decide +kernel
theorem dX12_land_108 : decode cX12_land 108 = .ok (.bipush 24, 2) := by decide +kernel
theorem dX12_land_110 : decode cX12_land 110 = .ok (.if_icmp .eq 14, 3) := by decide +kernel
theorem dX12_land_113 : decode cX12_land 113 = .ok (.aload_n 0, 1) := by decide +kernel
theorem dX12_land_114 : decode cX12_land 114 = .ok (.invokevirtual 222, 3) := by decide +kernel
theorem dX12_land_117 : decode cX12_land 117 = .ok (.aload_n 0, 1) := by decide +kernel
theorem dX12_land_118 : decode cX12_land 118 = .ok (.invokevirtual 219, 3) := by decide +kernel
theorem dX12_land_121 : decode cX12_land 121 = .ok (.goto (-24), 3) := by decide +kernel
theorem dX12_land_124 : decode cX12_land 124 = .ok (.aload_n 0, 1) := by decide +kernel
theorem dX12_land_125 : decode cX12_land 125 = .ok (.aload_n 0, 1) := by decide +kernel
theorem dX12_land_126 : decode cX12_land 126 = .ok (.getfield 153, 3) := by decide +kernel
theorem dX12_land_129 : decode cX12_land 129 = .ok (.putfield 225, 3) := by decide +kernel
theorem dX12_land_132 : decode cX12_land 132 = .ok (.aload_n 0, 1) := by decide +kernel
theorem dX12_land_133 : decode cX12_land 133 = .ok (.aload_n 0, 1) := by decide +kernel
theorem dX12_land_134 : decode cX12_land 134 = .ok (.getfield 153, 3) := by decide +kernel
theorem dX12_land_137 : decode cX12_land 137 = .ok (.ifCond .ne 7, 3) := by decide +kernel
theorem dX12_land_140 : decode cX12_land 140 = .ok (.iconst (-1), 1) := by decide +kernel
theorem dX12_land_141 : decode cX12_land 141 = .ok (.goto 7, 3) := by decide +kernel
theorem dX12_land_144 : decode cX12_land 144 = .ok (.aload_n 0, 1) := by decide +kernel
theorem dX12_land_145 : decode cX12_land 145 = .ok (.getfield 156, 3) := by decide +kernel
theorem dX12_land_148 : decode cX12_land 148 = .ok (.putfield 27, 3) := by decide +kernel
theorem dX12_land_151 : decode cX12_land 151 = .ok (.aload_n 0, 1) := by decide +kernel
theorem dX12_land_152 : decode cX12_land 152 = .ok (.getfield 153, 3) := by decide +kernel
theorem dX12_land_155 : decode cX12_land 155 = .ok (.ifCond .eq 11, 3) := by decide +kernel
theorem dX12_land_158 : decode cX12_land 158 = .ok (.bipush (-30), 2) := by decide +kernel
theorem dX12_land_160 : decode cX12_land 160 = .ok (.aload_n 0, 1) := by decide +kernel
theorem dX12_land_161 : decode cX12_land 161 = .ok (.getfield 153, 3) := by decide +kernel
theorem dX12_land_164 : decode cX12_land 164 = .ok (.isub, 1) := by decide +kernel
theorem dX12_land_165 : decode cX12_land 165 = .ok (.ireturn, 1) := by decide +kernel
theorem dX12_land_166 : decode cX12_land 166 = .ok (.iconst 0, 1) := by decide +kernel
theorem dX12_land_167 : decode cX12_land 167 = .ok (.istore_n 2, 1) := by decide +kernel
theorem dX12_land_168 : decode cX12_land 168 = .ok (.iload_n 2, 1) := by decide +kernel
theorem dX12_land_169 : decode cX12_land 169 = .ok (.sipush 1092, 3) := by decide +kernel
theorem dX12_land_172 : decode cX12_land 172 = .ok (.if_icmp .ge 21, 3) := by decide +kernel
theorem dX12_land_175 : decode cX12_land 175 = .ok (.aload_n 0, 1) := by decide +kernel
theorem dX12_land_176 : decode cX12_land 176 = .ok (.getfield 13, 3) := by decide +kernel
theorem dX12_land_179 : decode cX12_land 179 = .ok (.iload_n 2, 1) := by decide +kernel
theorem dX12_land_180 : decode cX12_land 180 = .ok (.aload_n 0, 1) := by decide +kernel
theorem dX12_land_181 : decode cX12_land 181 = .ok (.getfield 24, 3) := by decide +kernel
theorem dX12_land_184 : decode cX12_land 184 = .ok (.iload_n 2, 1) := by decide +kernel
theorem dX12_land_185 : decode cX12_land 185 = .ok (.iaload, 1) := by decide +kernel
theorem dX12_land_186 : decode cX12_land 186 = .ok (.iastore, 1) := by decide +kernel
theorem dX12_land_187 : decode cX12_land 187 = .ok (.iinc 2 1, 3) := by decide +kernel
theorem dX12_land_190 : decode cX12_land 190 = .ok (.goto (-22), 3) := by decide +kernel
theorem dX12_land_193 : decode cX12_land 193 = .ok (.aload_n 0, 1) := by decide +kernel
theorem dX12_land_194 : decode cX12_land 194 = .ok (.getfield 13, 3) := by decide +kernel
theorem dX12_land_197 : decode cX12_land 197 = .ok (.iconst 1, 1) := by decide +kernel
theorem dX12_land_198 : decode cX12_land 198 = .ok (.iaload, 1) := by decide +kernel
theorem dX12_land_199 : decode cX12_land 199 = .ok (.ifCond .ne 17, 3) := by decide +kernel
theorem dX12_land_202 : decode cX12_land 202 = .ok (.aload_n 0, 1) := by decide +kernel
theorem dX12_land_203 : decode cX12_land 203 = .ok (.getfield 13, 3) := by decide +kernel
theorem dX12_land_206 : decode cX12_land 206 = .ok (.iconst 1, 1) := by decide +kernel
theorem dX12_land_207 : decode cX12_land 207 = .ok (.iconst 1, 1) := by decide +kernel
theorem dX12_land_208 : decode cX12_land 208 = .ok (.iastore, 1) := by decide +kernel
theorem dX12_land_209 : decode cX12_land 209 = .ok (.aload_n 0, 1) := by decide +kernel
theorem dX12_land_210 : decode cX12_land 210 = .ok (.getfield 13, 3) := by decide +kernel
theorem dX12_land_213 : decode cX12_land 213 = .ok (.iconst 3, 1) := by decide +kernel
theorem dX12_land_214 : decode cX12_land 214 = .ok (.iconst 1, 1) := by decide +kernel
theorem dX12_land_215 : decode cX12_land 215 = .ok (.iastore, 1) := by decide +kernel
theorem dX12_land_216 : decode cX12_land 216 = .ok (.aload_n 0, 1) := by decide +kernel
theorem dX12_land_217 : decode cX12_land 217 = .ok (.getfield 13, 3) := by decide +kernel
theorem dX12_land_220 : decode cX12_land 220 = .ok (.iconst 0, 1) := by decide +kernel
theorem dX12_land_221 : decode cX12_land 221 = .ok (.iaload, 1) := by decide +kernel
theorem dX12_land_222 : decode cX12_land 222 = .ok (.ireturn, 1) := by decide +kernel
theorem pf_12_8 : parseFieldDescriptor (uD 12 8) = some .int := by decide +kernel
theorem ml_X12_103 : Cond.methodLink RX12 103 yX12_plain ∈ Wd := mW 1379 (by decide +kernel) rfl
theorem mk_X12_plain : MokS yX12_plain cX12_plain 2 none 1 := ⟨⟨mW 14 (by decide +kernel) rfl, mW 1381 (by decide +kernel) rfl, ⟨by decide, by decide, by decide +kernel⟩, by decide⟩, mW 1380 (by decide +kernel) rfl⟩
theorem ml_X12_219 : Cond.methodLink RX12 219 yX12_closes ∈ Wd := mW 1571 (by decide +kernel) rfl
theorem mk_X12_closes : MokV yX12_closes cX12_closes 1 none 0 := ⟨⟨mW 14 (by decide +kernel) rfl, mW 1574 (by decide +kernel) rfl, ⟨by decide, by decide, by decide +kernel⟩, by decide⟩, mW 1573 (by decide +kernel) rfl, mS (q := (yX12_closes, 46)) 56 (by decide +kernel)⟩
theorem ml_X12_222 : Cond.methodLink RX12 222 yX12_readLine ∈ Wd := mW 1575 (by decide +kernel) rfl
theorem mk_X12_readLine : MokV yX12_readLine cX12_readLine 1 none 0 := ⟨⟨mW 14 (by decide +kernel) rfl, mW 1578 (by decide +kernel) rfl, ⟨by decide, by decide, by decide +kernel⟩, by decide⟩, mW 1577 (by decide +kernel) rfl, mS (q := (yX12_readLine, 46)) 57 (by decide +kernel)⟩
theorem fl_X12_225 : FLk RX12 225 12 13 := ⟨_, rfl, by decide, mW 1395 (by decide +kernel) rfl⟩
theorem pf_12_13 : parseFieldDescriptor (uD 12 13) = some .int := by decide +kernel
theorem fl_X12_27 : FLk RX12 27 12 14 := ⟨_, rfl, by decide, mW 1396 (by decide +kernel) rfl⟩
theorem pf_12_14 : parseFieldDescriptor (uD 12 14) = some .int := by decide +kernel
theorem fl_X12_13 : FLk RX12 13 12 1 := ⟨_, rfl, by decide, mW 1383 (by decide +kernel) rfl⟩
def M_land_L97 (K124 : Hp → Prop) : Nat → Hp → Prop
  | 0, _ => False
  | n + 1, h => (¬ (gI h 98 11) = 0 → K124 h) ∧ ((gI h 98 11) = 0 → ((gI h 98 9) = 24 → K124 h) ∧ (¬ (gI h 98 9) = 24 → M_readLine  h (fun h20 => M_closes  h20 (fun h21 => M_land_L97 K124 n  h21))))
set_option maxHeartbeats 4000000 in
set_option maxRecDepth 20000 in
theorem gl_M_land_L97 {G : Gx}  {Q : Int32 → Hp → Prop} {K124 : Hp → Prop} (hK124 : ∀  (h1 : Hp), K124  h1 → Go cX12_land 3 RX12 (some .int) 76 G (QI G Q) 124 [(0, .ref (gAd G 98))] [] h1) : ∀ (n : Nat)  (h : Hp), M_land_L97 K124 n  h → Go cX12_land 3 RX12 (some .int) 76 G (QI G Q) 97 [(0, .ref (gAd G 98))] [] h := by
  intro n
  induction n with
  | zero => intro  h hw; exact False.elim hw
  | succ n ih =>
    intro  h hw
    refine g_aload_n dX12_land_97 rfl rfl ?_
    refine g_getI dX12_land_98 fl_X12_153 sh98 rfl ?_
    refine g_if_ne 124 dX12_land_101 rfl (fun hc => ?_) (fun hc => ?_)
    · have hw := hw.1 hc
      exact hK124 _ hw
    · have hw := hw.2 hc
      refine g_aload_n dX12_land_104 rfl rfl ?_
      refine g_getI dX12_land_105 fl_X12_135 sh98 rfl ?_
      refine g_bipush (v := 24) dX12_land_108 (by decide) ?_
      refine g_icmp_eq 124 dX12_land_110 rfl (fun hc => ?_) (fun hc => ?_)
      · have hw := hw.1 hc
        exact hK124 _ hw
      · have hw := hw.2 hc
        refine g_aload_n dX12_land_113 rfl rfl ?_
        refine g_callVV [] (ci := 12) dX12_land_114 ml_X12_222 mk_X12_readLine rfl rfl sh98 (Nat.le_of_ble_eq_true rfl) (Nat.le_of_ble_eq_true rfl) rfl (c_M_readLine hw) (fun h20 hw => ?_)
        refine g_aload_n dX12_land_117 rfl rfl ?_
        refine g_callVV [] (ci := 12) dX12_land_118 ml_X12_219 mk_X12_closes rfl rfl sh98 (Nat.le_of_ble_eq_true rfl) (Nat.le_of_ble_eq_true rfl) rfl (c_M_closes hw) (fun h21 hw => ?_)
        refine g_goto 97 dX12_land_121 rfl ?_
        exact ih _ hw
def M_land_L168 (K193 : Hp → Prop) : Nat → Int32 → Hp → Prop
  | 0, _, _ => False
  | n + 1, x2, h => (1092 ≤ x2 → K193 h) ∧ (¬ 1092 ≤ x2 → vp_in x2 1092 ∧ vp_in x2 3276 ∧ ∀ h28 : Hp, h28 = sI h 99 (x2).toNatClampNeg (gI h 102 (x2).toNatClampNeg) → ∀ v29 : Int32, v29 = (x2 + 1) → M_land_L168 K193 n v29 h28)
set_option maxHeartbeats 4000000 in
set_option maxRecDepth 20000 in
theorem gl_M_land_L168 {G : Gx}  {Q : Int32 → Hp → Prop} {K193 : Hp → Prop} (hK193 : ∀  (h1 : Hp), K193  h1 → Go cX12_land 3 RX12 (some .int) 76 G (QI G Q) 193 [(0, .ref (gAd G 98))] [] h1) : ∀ (n : Nat) (x2 : Int32) (h : Hp), M_land_L168 K193 n x2 h → Go cX12_land 3 RX12 (some .int) 76 G (QI G Q) 168 [(0, .ref (gAd G 98)), (2, .int x2)] [] h := by
  intro n
  induction n with
  | zero => intro _ h hw; exact False.elim hw
  | succ n ih =>
    intro x2 h hw
    refine g_iload_n dX12_land_168 rfl rfl ?_
    refine g_sipush (v := 1092) dX12_land_169 (by decide) ?_
    refine g_icmp_ge 193 dX12_land_172 rfl (fun hc => ?_) (fun hc => ?_)
    · have hw := hw.1 hc
      refine g_lv [0] rfl ?_
      exact hK193 _ hw
    · have hw := hw.2 hc
      refine g_aload_n dX12_land_175 rfl rfl ?_
      refine g_getA dX12_land_176 fl_X12_13 sh98 rfl ?_
      refine g_iload_n dX12_land_179 rfl rfl ?_
      refine g_aload_n dX12_land_180 rfl rfl ?_
      refine g_getA dX12_land_181 fl_X12_24 sh98 rfl ?_
      refine g_iload_n dX12_land_184 rfl rfl ?_
      refine g_iald dX12_land_185 ia102 al102 hw.1 ?_
      have hw := hw.2
      refine g_iast dX12_land_186 ia99 al99 hw.1 ?_
      have hw := hw.2
      refine g_heap (fun h28 eh28 => ?_)
      have hw := hw h28 eh28
      obtain ⟨v29, ev29⟩ : ∃ y : Int32, y = (x2 + 1) := ⟨_, rfl⟩
      have hw := hw v29 ev29
      refine g_iinc dX12_land_187 rfl (by rw [ev29]; rfl) (by decide) (lv1 := [(0, .ref (gAd G 98)), (2, .int v29)]) rfl ?_
      refine g_goto 168 dX12_land_190 rfl ?_
      exact ih _ _ hw
def M_land (x1 : Int32) (h : Hp) (Q : Int32 → Hp → Prop) : Prop := ∀ h1 : Hp, h1 = sI h 98 0 0 → M_within ((x1).toInt64) (0 : Int64) (((gI h1 98 5)).toInt64) h1 (fun r2 h3 => (¬ r2 = 0 → ∀ h4 : Hp, h4 = sI h3 98 8 x1 → ∀ h5 : Hp, h5 = sI h4 98 5 0 → ∀ h6 : Hp, h6 = sI h5 98 7 0 → ∀ h7 : Hp, h7 = sI h6 98 11 0 → M_plain 102 h7 (fun h8 => M_next  h8 (fun h9 => M_eats 0 h9 (fun r10 h11 => ∀ J66 : Hp → Prop, J66 = (fun h12 => M_eats 1 h12 (fun r13 h14 => ∀ J79 : Hp → Prop, J79 = (fun h15 => M_takes 0 9 h15 (fun r16 h17 => ∀ h18 : Hp, h18 = sI h17 102 61 r16 → M_closes  h18 (fun h19 => ∃ n22, M_land_L97 (fun h23 => ∀ h24 : Hp, h24 = sI h23 98 13 (gI h23 98 11) → ∀ J148 : Int32 → Hp → Prop, J148 = (fun s25 h26 => ∀ h27 : Hp, h27 = sI h26 98 14 s25 → ((gI h27 98 11) = 0 → ∃ n30, M_land_L168 (fun h31 => ∀ J216 : Hp → Prop, J216 = (fun h32 => Q (gI h32 99 0) h32) → (¬ (gI h31 99 1) = 0 → J216 h31) ∧ ((gI h31 99 1) = 0 → ∀ h33 : Hp, h33 = sI h31 99 1 1 → ∀ h34 : Hp, h34 = sI h33 99 3 1 → J216 h34)) n30 0 h27) ∧ (¬ (gI h27 98 11) = 0 → Q ((-30 : Int32) - (gI h27 98 11)) h27)) → (¬ (gI h24 98 11) = 0 → J148 (gI h24 98 12) h24) ∧ ((gI h24 98 11) = 0 → J148 (-1) h24)) n22  h19))) → (¬ r13 = 0 → J79 h14) ∧ (r13 = 0 → M_fails 2 h14 (fun h35 => J79 h35)))) → (¬ r10 = 0 → J66 h11) ∧ (r10 = 0 → M_fails 2 h11 (fun h36 => J66 h36)))))) ∧ (r2 = 0 → Q (-3) h3))
set_option maxHeartbeats 4000000 in
set_option maxRecDepth 20000 in
theorem c_M_land {G : Gx}  {x1 : Int32} {h : Hp} {Q : Int32 → Hp → Prop} (hw : M_land x1 h Q) : Ct yX12_land cX12_land 3 (some .int) 76 G [.ref (gAd G 98), .int x1] h (QI G Q) := by
  refine ct_go [(0, .ref (gAd G 98)), (1, .int x1)] (plainFor_of_name (by decide)) rfl (Nat.le_of_ble_eq_true rfl) rfl ?_
  refine g_aload_n dX12_land_0 rfl rfl ?_
  refine g_iconst (v := 0) dX12_land_1 (by decide) ?_
  refine g_putI dX12_land_2 fl_X12_1 sh98 rfl rfl pf_12_0 ?_
  refine g_heap (fun h1 eh1 => ?_)
  have hw := hw h1 eh1
  refine g_iload_n dX12_land_5 rfl rfl ?_
  refine g_i2l dX12_land_6 ?_
  refine g_lconst (v := (0 : Int64)) dX12_land_7 (by decide) ?_
  refine g_aload_n dX12_land_8 rfl rfl ?_
  refine g_getI dX12_land_9 fl_X12_107 sh98 rfl ?_
  refine g_i2l dX12_land_12 ?_
  refine g_callSI [.long ((x1).toInt64), .long (0 : Int64), .long (((gI h1 98 5)).toInt64)] dX12_land_13 ml_X12_169 mk_X12_within rfl (Nat.le_of_ble_eq_true rfl) (Nat.le_of_ble_eq_true rfl) rfl (c_M_within hw) (fun r2 h3 hw => ?_)
  refine g_if_ne 22 dX12_land_16 rfl (fun hc => ?_) (fun hc => ?_)
  · have hw := hw.1 hc
    refine g_aload_n dX12_land_22 rfl rfl ?_
    refine g_iload_n dX12_land_23 rfl rfl ?_
    refine g_putI dX12_land_24 fl_X12_110 sh98 rfl rfl pf_12_8 ?_
    refine g_heap (fun h4 eh4 => ?_)
    have hw := hw h4 eh4
    refine g_aload_n dX12_land_27 rfl rfl ?_
    refine g_iconst (v := 0) dX12_land_28 (by decide) ?_
    refine g_putI dX12_land_29 fl_X12_107 sh98 rfl rfl pf_12_5 ?_
    refine g_heap (fun h5 eh5 => ?_)
    have hw := hw h5 eh5
    refine g_aload_n dX12_land_32 rfl rfl ?_
    refine g_iconst (v := 0) dX12_land_33 (by decide) ?_
    refine g_putI dX12_land_34 fl_X12_128 sh98 rfl rfl pf_12_7 ?_
    refine g_heap (fun h6 eh6 => ?_)
    have hw := hw h6 eh6
    refine g_aload_n dX12_land_37 rfl rfl ?_
    refine g_iconst (v := 0) dX12_land_38 (by decide) ?_
    refine g_putI dX12_land_39 fl_X12_153 sh98 rfl rfl pf_12_11 ?_
    refine g_heap (fun h7 eh7 => ?_)
    have hw := hw h7 eh7
    refine g_aload_n dX12_land_42 rfl rfl ?_
    refine g_getA dX12_land_43 fl_X12_24 sh98 rfl ?_
    refine g_callSV [.ref (gAd G 102)] dX12_land_46 ml_X12_103 mk_X12_plain rfl (Nat.le_of_ble_eq_true rfl) (Nat.le_of_ble_eq_true rfl) rfl (c_M_plain ia102 hw) (fun h8 hw => ?_)
    refine g_aload_n dX12_land_49 rfl rfl ?_
    refine g_callVV [] (ci := 12) dX12_land_50 ml_X12_162 mk_X12_next rfl rfl sh98 (Nat.le_of_ble_eq_true rfl) (Nat.le_of_ble_eq_true rfl) rfl (c_M_next hw) (fun h9 hw => ?_)
    refine g_aload_n dX12_land_53 rfl rfl ?_
    refine g_iconst (v := 0) dX12_land_54 (by decide) ?_
    refine g_callVI [.int 0] (ci := 12) dX12_land_55 ml_X12_185 mk_X12_eats rfl rfl sh98 (Nat.le_of_ble_eq_true rfl) (Nat.le_of_ble_eq_true rfl) rfl (c_M_eats hw) (fun r10 h11 hw => ?_)
    refine jn_el hw (fun J66 eJ66 hw => ?_)
    have hJ66 : ∀ (h12 : Hp), J66 h12 → Go cX12_land 3 RX12 (some .int) 76 G (QI G Q) 66 [(0, .ref (gAd G 98))] [] h12 := by
      intro h12 hw
      subst eJ66
      refine g_aload_n dX12_land_66 rfl rfl ?_
      refine g_iconst (v := 1) dX12_land_67 (by decide) ?_
      refine g_callVI [.int 1] (ci := 12) dX12_land_68 ml_X12_185 mk_X12_eats rfl rfl sh98 (Nat.le_of_ble_eq_true rfl) (Nat.le_of_ble_eq_true rfl) rfl (c_M_eats hw) (fun r13 h14 hw => ?_)
      refine jn_el hw (fun J79 eJ79 hw => ?_)
      have hJ79 : ∀ (h15 : Hp), J79 h15 → Go cX12_land 3 RX12 (some .int) 76 G (QI G Q) 79 [(0, .ref (gAd G 98))] [] h15 := by
        intro h15 hw
        subst eJ79
        refine g_aload_n dX12_land_79 rfl rfl ?_
        refine g_getA dX12_land_80 fl_X12_24 sh98 rfl ?_
        refine g_bipush (v := 61) dX12_land_83 (by decide) ?_
        refine g_aload_n dX12_land_85 rfl rfl ?_
        refine g_iconst (v := 0) dX12_land_86 (by decide) ?_
        refine g_bipush (v := 9) dX12_land_87 (by decide) ?_
        refine g_callVI [.int 0, .int 9] (ci := 12) dX12_land_89 ml_X12_206 mk_X12_takes rfl rfl sh98 (Nat.le_of_ble_eq_true rfl) (Nat.le_of_ble_eq_true rfl) rfl (c_M_takes hw) (fun r16 h17 hw => ?_)
        refine g_iastK dX12_land_92 ia102 al102 (by unfold vp_in; decide) (k := 61) (by decide) ?_
        refine g_heap (fun h18 eh18 => ?_)
        have hw := hw h18 eh18
        refine g_aload_n dX12_land_93 rfl rfl ?_
        refine g_callVV [] (ci := 12) dX12_land_94 ml_X12_219 mk_X12_closes rfl rfl sh98 (Nat.le_of_ble_eq_true rfl) (Nat.le_of_ble_eq_true rfl) rfl (c_M_closes hw) (fun h19 hw => ?_)
        obtain ⟨n22, hw⟩ := hw
        refine gl_M_land_L97  ?_ _ _ hw
        · intro h23 hw
          refine g_aload_n dX12_land_124 rfl rfl ?_
          refine g_aload_n dX12_land_125 rfl rfl ?_
          refine g_getI dX12_land_126 fl_X12_153 sh98 rfl ?_
          refine g_putI dX12_land_129 fl_X12_225 sh98 rfl rfl pf_12_13 ?_
          refine g_heap (fun h24 eh24 => ?_)
          have hw := hw h24 eh24
          refine g_aload_n dX12_land_132 rfl rfl ?_
          refine g_aload_n dX12_land_133 rfl rfl ?_
          refine g_getI dX12_land_134 fl_X12_153 sh98 rfl ?_
          refine jn_el hw (fun J148 eJ148 hw => ?_)
          have hJ148 : ∀ (s25 : Int32) (h26 : Hp), J148 s25 h26 → Go cX12_land 3 RX12 (some .int) 76 G (QI G Q) 148 [(0, .ref (gAd G 98))] [.int s25, .ref (gAd G 98)] h26 := by
            intro s25 h26 hw
            subst eJ148
            refine g_putI dX12_land_148 fl_X12_27 sh98 rfl rfl pf_12_14 ?_
            refine g_heap (fun h27 eh27 => ?_)
            have hw := hw h27 eh27
            refine g_aload_n dX12_land_151 rfl rfl ?_
            refine g_getI dX12_land_152 fl_X12_153 sh98 rfl ?_
            refine g_if_eq 166 dX12_land_155 rfl (fun hc => ?_) (fun hc => ?_)
            · have hw := hw.1 hc
              refine g_iconst (v := 0) dX12_land_166 (by decide) ?_
              refine g_istore_n dX12_land_167 rfl (by decide) (lv1 := [(0, .ref (gAd G 98)), (2, .int 0)]) rfl ?_
              obtain ⟨n30, hw⟩ := hw
              refine gl_M_land_L168  ?_ _ _ _ hw
              · intro h31 hw
                refine g_aload_n dX12_land_193 rfl rfl ?_
                refine g_getA dX12_land_194 fl_X12_13 sh98 rfl ?_
                refine g_iconst (v := 1) dX12_land_197 (by decide) ?_
                refine g_ialdK dX12_land_198 ia99 al99 (by unfold vp_in; decide) (k := 1) (by decide) ?_
                refine jn_el hw (fun J216 eJ216 hw => ?_)
                have hJ216 : ∀ (h32 : Hp), J216 h32 → Go cX12_land 3 RX12 (some .int) 76 G (QI G Q) 216 [(0, .ref (gAd G 98))] [] h32 := by
                  intro h32 hw
                  subst eJ216
                  refine g_aload_n dX12_land_216 rfl rfl ?_
                  refine g_getA dX12_land_217 fl_X12_13 sh98 rfl ?_
                  refine g_iconst (v := 0) dX12_land_220 (by decide) ?_
                  refine g_ialdK dX12_land_221 ia99 al99 (by unfold vp_in; decide) (k := 0) (by decide) ?_
                  exact g_iret dX12_land_222 hw
                refine g_if_ne 216 dX12_land_199 rfl (fun hc => ?_) (fun hc => ?_)
                · have hw := hw.1 hc
                  exact hJ216 _ hw
                · have hw := hw.2 hc
                  refine g_aload_n dX12_land_202 rfl rfl ?_
                  refine g_getA dX12_land_203 fl_X12_13 sh98 rfl ?_
                  refine g_iconst (v := 1) dX12_land_206 (by decide) ?_
                  refine g_iconst (v := 1) dX12_land_207 (by decide) ?_
                  refine g_iastK dX12_land_208 ia99 al99 (by unfold vp_in; decide) (k := 1) (by decide) ?_
                  refine g_heap (fun h33 eh33 => ?_)
                  have hw := hw h33 eh33
                  refine g_aload_n dX12_land_209 rfl rfl ?_
                  refine g_getA dX12_land_210 fl_X12_13 sh98 rfl ?_
                  refine g_iconst (v := 3) dX12_land_213 (by decide) ?_
                  refine g_iconst (v := 1) dX12_land_214 (by decide) ?_
                  refine g_iastK dX12_land_215 ia99 al99 (by unfold vp_in; decide) (k := 3) (by decide) ?_
                  refine g_heap (fun h34 eh34 => ?_)
                  have hw := hw h34 eh34
                  exact hJ216 _ hw
            · have hw := hw.2 hc
              refine g_bipush (v := (-30)) dX12_land_158 (by decide) ?_
              refine g_aload_n dX12_land_160 rfl rfl ?_
              refine g_getI dX12_land_161 fl_X12_153 sh98 rfl ?_
              refine g_isub dX12_land_164 ?_
              exact g_iret dX12_land_165 hw
          refine g_if_ne 144 dX12_land_137 rfl (fun hc => ?_) (fun hc => ?_)
          · have hw := hw.1 hc
            refine g_aload_n dX12_land_144 rfl rfl ?_
            refine g_getI dX12_land_145 fl_X12_156 sh98 rfl ?_
            exact hJ148 _ _ hw
          · have hw := hw.2 hc
            refine g_iconst (v := (-1)) dX12_land_140 (by decide) ?_
            refine g_goto 148 dX12_land_141 rfl ?_
            exact hJ148 _ _ hw
      refine g_if_ne 79 dX12_land_71 rfl (fun hc => ?_) (fun hc => ?_)
      · have hw := hw.1 hc
        exact hJ79 _ hw
      · have hw := hw.2 hc
        refine g_aload_n dX12_land_74 rfl rfl ?_
        refine g_iconst (v := 2) dX12_land_75 (by decide) ?_
        refine g_callVV [.int 2] (ci := 12) dX12_land_76 ml_X12_165 mk_X12_fails rfl rfl sh98 (Nat.le_of_ble_eq_true rfl) (Nat.le_of_ble_eq_true rfl) rfl (c_M_fails hw) (fun h35 hw => ?_)
        exact hJ79 _ hw
    refine g_if_ne 66 dX12_land_58 rfl (fun hc => ?_) (fun hc => ?_)
    · have hw := hw.1 hc
      refine g_lv [0] rfl ?_
      exact hJ66 _ hw
    · have hw := hw.2 hc
      refine g_aload_n dX12_land_61 rfl rfl ?_
      refine g_iconst (v := 2) dX12_land_62 (by decide) ?_
      refine g_callVV [.int 2] (ci := 12) dX12_land_63 ml_X12_165 mk_X12_fails rfl rfl sh98 (Nat.le_of_ble_eq_true rfl) (Nat.le_of_ble_eq_true rfl) rfl (c_M_fails hw) (fun h36 hw => ?_)
      refine g_lv [0] rfl ?_
      exact hJ66 _ hw
  · have hw := hw.2 hc
    refine g_bipush (v := (-3)) dX12_land_19 (by decide) ?_
    exact g_iret dX12_land_21 hw
theorem dX12_fault_0 : decode cX12_fault 0 = .ok (.aload_n 0, 1) := by decide +kernel
theorem dX12_fault_1 : decode cX12_fault 1 = .ok (.iconst 0, 1) := by decide +kernel
theorem dX12_fault_2 : decode cX12_fault 2 = .ok (.putfield 1, 3) := by decide +kernel
theorem dX12_fault_5 : decode cX12_fault 5 = .ok (.iload_n 1, 1) := by decide +kernel
theorem dX12_fault_6 : decode cX12_fault 6 = .ok (.ifCond .ne 10, 3) := by decide +kernel
theorem dX12_fault_9 : decode cX12_fault 9 = .ok (.aload_n 0, 1) := by decide +kernel
theorem dX12_fault_10 : decode cX12_fault 10 = .ok (.getfield 225, 3) := by decide +kernel
theorem dX12_fault_13 : decode cX12_fault 13 = .ok (.goto 16, 3) := by decide +kernel
theorem dX12_fault_16 : decode cX12_fault 16 = .ok (.iload_n 1, 1) := by decide +kernel
theorem dX12_fault_17 : decode cX12_fault 17 = .ok (.iconst 1, 1) := by decide +kernel
theorem dX12_fault_18 : decode cX12_fault 18 = .ok (.if_icmp .ne 10, 3) := by decide +kernel
theorem dX12_fault_21 : decode cX12_fault 21 = .ok (.aload_n 0, 1) := by decide +kernel
theorem dX12_fault_22 : decode cX12_fault 22 = .ok (.getfield 27, 3) := by decide +kernel
theorem dX12_fault_25 : decode cX12_fault 25 = .ok (.goto 4, 3) := by decide +kernel
theorem dX12_fault_28 : decode cX12_fault 28 = .ok (.iconst (-1), 1) := by decide +kernel
theorem dX12_fault_29 : decode cX12_fault 29 = .ok (.ireturn, 1) := by decide +kernel
def M_fault (x1 : Int32) (h : Hp) (Q : Int32 → Hp → Prop) : Prop := ∀ h1 : Hp, h1 = sI h 98 0 0 → (¬ x1 = 0 → (¬ x1 = 1 → Q (-1) h1) ∧ (x1 = 1 → Q (gI h1 98 14) h1)) ∧ (x1 = 0 → Q (gI h1 98 13) h1)
set_option maxHeartbeats 4000000 in
set_option maxRecDepth 20000 in
theorem c_M_fault {G : Gx}  {x1 : Int32} {h : Hp} {Q : Int32 → Hp → Prop} (hw : M_fault x1 h Q) : Ct yX12_fault cX12_fault 2 (some .int) 1 G [.ref (gAd G 98), .int x1] h (QI G Q) := by
  refine ct_go [(0, .ref (gAd G 98)), (1, .int x1)] (plainFor_of_name (by decide)) rfl (Nat.le_of_ble_eq_true rfl) rfl ?_
  refine g_aload_n dX12_fault_0 rfl rfl ?_
  refine g_iconst (v := 0) dX12_fault_1 (by decide) ?_
  refine g_putI dX12_fault_2 fl_X12_1 sh98 rfl rfl pf_12_0 ?_
  refine g_heap (fun h1 eh1 => ?_)
  have hw := hw h1 eh1
  refine g_iload_n dX12_fault_5 rfl rfl ?_
  refine g_if_ne 16 dX12_fault_6 rfl (fun hc => ?_) (fun hc => ?_)
  · have hw := hw.1 hc
    refine g_iload_n dX12_fault_16 rfl rfl ?_
    refine g_iconst (v := 1) dX12_fault_17 (by decide) ?_
    refine g_icmp_ne 28 dX12_fault_18 rfl (fun hc => ?_) (fun hc => ?_)
    · have hw := hw.1 hc
      refine g_iconst (v := (-1)) dX12_fault_28 (by decide) ?_
      exact g_iret dX12_fault_29 hw
    · have hw := hw.2 hc
      refine g_aload_n dX12_fault_21 rfl rfl ?_
      refine g_getI dX12_fault_22 fl_X12_27 sh98 rfl ?_
      refine g_goto 29 dX12_fault_25 rfl ?_
      exact g_iret dX12_fault_29 hw
  · have hw := hw.2 hc
    refine g_aload_n dX12_fault_9 rfl rfl ?_
    refine g_getI dX12_fault_10 fl_X12_225 sh98 rfl ?_
    refine g_goto 29 dX12_fault_13 rfl ?_
    exact g_iret dX12_fault_29 hw
theorem dX12_isPlace_0 : decode cX12_isPlace 0 = .ok (.lload_n 1, 1) := by decide +kernel
theorem dX12_isPlace_1 : decode cX12_isPlace 1 = .ok (.lconst 0, 1) := by decide +kernel
theorem dX12_isPlace_2 : decode cX12_isPlace 2 = .ok (.aload_n 0, 1) := by decide +kernel
theorem dX12_isPlace_3 : decode cX12_isPlace 3 = .ok (.getfield 13, 3) := by decide +kernel
theorem dX12_isPlace_6 : decode cX12_isPlace 6 = .ok (.iconst 1, 1) := by decide +kernel
theorem dX12_isPlace_7 : decode cX12_isPlace 7 = .ok (.iaload, 1) := by decide +kernel
theorem dX12_isPlace_8 : decode cX12_isPlace 8 = .ok (.iconst 1, 1) := by decide +kernel
theorem dX12_isPlace_9 : decode cX12_isPlace 9 = .ok (.isub, 1) := by decide +kernel
theorem dX12_isPlace_10 : decode cX12_isPlace 10 = .ok (.i2l, 1) := by decide +kernel
theorem dX12_isPlace_11 : decode cX12_isPlace 11 = .ok (.invokestatic 169, 3) := by decide +kernel
theorem dX12_isPlace_14 : decode cX12_isPlace 14 = .ok (.ireturn, 1) := by decide +kernel
def M_isPlace (x1 : Int64) (h : Hp) (Q : Int32 → Hp → Prop) : Prop := M_within x1 (0 : Int64) ((((gI h 99 1) - 1)).toInt64) h (fun r1 h2 => isB r1 ∧ Q r1 h2)
set_option maxHeartbeats 4000000 in
set_option maxRecDepth 20000 in
theorem c_M_isPlace {G : Gx}  {x1 : Int64} {h : Hp} {Q : Int32 → Hp → Prop} (hw : M_isPlace x1 h Q) : Ct yX12_isPlace cX12_isPlace 3 (some .boolean) 2 G [.ref (gAd G 98), .long x1] h (QI G Q) := by
  refine ct_go [(0, .ref (gAd G 98)), (1, .long x1)] (plainFor_of_name (by decide)) rfl (Nat.le_of_ble_eq_true rfl) rfl ?_
  refine g_lload_n dX12_isPlace_0 rfl rfl ?_
  refine g_lconst (v := (0 : Int64)) dX12_isPlace_1 (by decide) ?_
  refine g_aload_n dX12_isPlace_2 rfl rfl ?_
  refine g_getA dX12_isPlace_3 fl_X12_13 sh98 rfl ?_
  refine g_iconst (v := 1) dX12_isPlace_6 (by decide) ?_
  refine g_ialdK dX12_isPlace_7 ia99 al99 (by unfold vp_in; decide) (k := 1) (by decide) ?_
  refine g_iconst (v := 1) dX12_isPlace_8 (by decide) ?_
  refine g_isub dX12_isPlace_9 ?_
  refine g_i2l dX12_isPlace_10 ?_
  refine g_callSI [.long x1, .long (0 : Int64), .long ((((gI h 99 1) - 1)).toInt64)] dX12_isPlace_11 ml_X12_169 mk_X12_within rfl (Nat.le_of_ble_eq_true rfl) (Nat.le_of_ble_eq_true rfl) rfl (c_M_within hw) (fun r1 h2 hw => ?_)
  exact g_zret dX12_isPlace_14 (isB_n hw.1) hw.2
theorem dX12_laysWords_0 : decode cX12_laysWords 0 = .ok (.aload_n 0, 1) := by decide +kernel
theorem dX12_laysWords_1 : decode cX12_laysWords 1 = .ok (.getfield 33, 3) := by decide +kernel
theorem dX12_laysWords_4 : decode cX12_laysWords 4 = .ok (.iconst 0, 1) := by decide +kernel
theorem dX12_laysWords_5 : decode cX12_laysWords 5 = .ok (.aload_n 0, 1) := by decide +kernel
theorem dX12_laysWords_6 : decode cX12_laysWords 6 = .ok (.getfield 13, 3) := by decide +kernel
theorem dX12_laysWords_9 : decode cX12_laysWords 9 = .ok (.bipush 42, 2) := by decide +kernel
theorem dX12_laysWords_11 : decode cX12_laysWords 11 = .ok (.iload_n 1, 1) := by decide +kernel
theorem dX12_laysWords_12 : decode cX12_laysWords 12 = .ok (.iadd, 1) := by decide +kernel
theorem dX12_laysWords_13 : decode cX12_laysWords 13 = .ok (.iaload, 1) := by decide +kernel
theorem dX12_laysWords_14 : decode cX12_laysWords 14 = .ok (.iastore, 1) := by decide +kernel
theorem dX12_laysWords_15 : decode cX12_laysWords 15 = .ok (.aload_n 0, 1) := by decide +kernel
theorem dX12_laysWords_16 : decode cX12_laysWords 16 = .ok (.getfield 33, 3) := by decide +kernel
theorem dX12_laysWords_19 : decode cX12_laysWords 19 = .ok (.iconst 1, 1) := by decide +kernel
theorem dX12_laysWords_20 : decode cX12_laysWords 20 = .ok (.aload_n 0, 1) := by decide +kernel
theorem dX12_laysWords_21 : decode cX12_laysWords 21 = .ok (.getfield 13, 3) := by decide +kernel
theorem dX12_laysWords_24 : decode cX12_laysWords 24 = .ok (.bipush 10, 2) := by decide +kernel
theorem dX12_laysWords_26 : decode cX12_laysWords 26 = .ok (.iload_n 1, 1) := by decide +kernel
theorem dX12_laysWords_27 : decode cX12_laysWords 27 = .ok (.iadd, 1) := by decide +kernel
theorem dX12_laysWords_28 : decode cX12_laysWords 28 = .ok (.iaload, 1) := by decide +kernel
theorem dX12_laysWords_29 : decode cX12_laysWords 29 = .ok (.iastore, 1) := by decide +kernel
theorem dX12_laysWords_30 : decode cX12_laysWords 30 = .ok (.aload_n 0, 1) := by decide +kernel
theorem dX12_laysWords_31 : decode cX12_laysWords 31 = .ok (.getfield 33, 3) := by decide +kernel
theorem dX12_laysWords_34 : decode cX12_laysWords 34 = .ok (.iconst 2, 1) := by decide +kernel
theorem dX12_laysWords_35 : decode cX12_laysWords 35 = .ok (.aload_n 0, 1) := by decide +kernel
theorem dX12_laysWords_36 : decode cX12_laysWords 36 = .ok (.getfield 13, 3) := by decide +kernel
theorem dX12_laysWords_39 : decode cX12_laysWords 39 = .ok (.bipush 26, 2) := by decide +kernel
theorem dX12_laysWords_41 : decode cX12_laysWords 41 = .ok (.iload_n 1, 1) := by decide +kernel
theorem dX12_laysWords_42 : decode cX12_laysWords 42 = .ok (.iadd, 1) := by decide +kernel
theorem dX12_laysWords_43 : decode cX12_laysWords 43 = .ok (.iaload, 1) := by decide +kernel
theorem dX12_laysWords_44 : decode cX12_laysWords 44 = .ok (.iastore, 1) := by decide +kernel
theorem dX12_laysWords_45 : decode cX12_laysWords 45 = .ok (.aload_n 0, 1) := by decide +kernel
theorem dX12_laysWords_46 : decode cX12_laysWords 46 = .ok (.getfield 33, 3) := by decide +kernel
theorem dX12_laysWords_49 : decode cX12_laysWords 49 = .ok (.iconst 3, 1) := by decide +kernel
theorem dX12_laysWords_50 : decode cX12_laysWords 50 = .ok (.iload_n 1, 1) := by decide +kernel
theorem dX12_laysWords_51 : decode cX12_laysWords 51 = .ok (.iastore, 1) := by decide +kernel
theorem dX12_laysWords_52 : decode cX12_laysWords 52 = .ok (.aload_n 0, 1) := by decide +kernel
theorem dX12_laysWords_53 : decode cX12_laysWords 53 = .ok (.getfield 33, 3) := by decide +kernel
theorem dX12_laysWords_56 : decode cX12_laysWords 56 = .ok (.iconst 4, 1) := by decide +kernel
theorem dX12_laysWords_57 : decode cX12_laysWords 57 = .ok (.iload_n 2, 1) := by decide +kernel
theorem dX12_laysWords_58 : decode cX12_laysWords 58 = .ok (.iastore, 1) := by decide +kernel
theorem dX12_laysWords_59 : decode cX12_laysWords 59 = .ok (.return_, 1) := by decide +kernel
theorem fl_X12_33 : FLk RX12 33 12 16 := ⟨_, rfl, by decide, mW 1398 (by decide +kernel) rfl⟩
def M_laysWords (x1 : Int32) (x2 : Int32) (h : Hp) (Q : Hp → Prop) : Prop := vp_in ((42 : Int32) + x1) 3276 ∧ ∀ h1 : Hp, h1 = sI h 104 0 (gI h 99 (((42 : Int32) + x1)).toNatClampNeg) → vp_in ((10 : Int32) + x1) 3276 ∧ ∀ h2 : Hp, h2 = sI h1 104 1 (gI h1 99 (((10 : Int32) + x1)).toNatClampNeg) → vp_in ((26 : Int32) + x1) 3276 ∧ ∀ h3 : Hp, h3 = sI h2 104 2 (gI h2 99 (((26 : Int32) + x1)).toNatClampNeg) → ∀ h4 : Hp, h4 = sI h3 104 3 x1 → ∀ h5 : Hp, h5 = sI h4 104 4 x2 → Q h5
set_option maxHeartbeats 4000000 in
set_option maxRecDepth 20000 in
theorem c_M_laysWords {G : Gx}  {x1 : Int32} {x2 : Int32} {h : Hp} {Q : Hp → Prop} (hw : M_laysWords x1 x2 h Q) : Ct yX12_laysWords cX12_laysWords 3 none 1 G [.ref (gAd G 98), .int x1, .int x2] h (QV G Q) := by
  refine ct_go [(0, .ref (gAd G 98)), (1, .int x1), (2, .int x2)] (plainFor_of_name (by decide)) rfl (Nat.le_of_ble_eq_true rfl) rfl ?_
  refine g_aload_n dX12_laysWords_0 rfl rfl ?_
  refine g_getA dX12_laysWords_1 fl_X12_33 sh98 rfl ?_
  refine g_iconst (v := 0) dX12_laysWords_4 (by decide) ?_
  refine g_aload_n dX12_laysWords_5 rfl rfl ?_
  refine g_getA dX12_laysWords_6 fl_X12_13 sh98 rfl ?_
  refine g_bipush (v := 42) dX12_laysWords_9 (by decide) ?_
  refine g_iload_n dX12_laysWords_11 rfl rfl ?_
  refine g_iadd dX12_laysWords_12 ?_
  refine g_iald dX12_laysWords_13 ia99 al99 hw.1 ?_
  have hw := hw.2
  refine g_iastK dX12_laysWords_14 ia104 al104 (by unfold vp_in; decide) (k := 0) (by decide) ?_
  refine g_heap (fun h1 eh1 => ?_)
  have hw := hw h1 eh1
  refine g_aload_n dX12_laysWords_15 rfl rfl ?_
  refine g_getA dX12_laysWords_16 fl_X12_33 sh98 rfl ?_
  refine g_iconst (v := 1) dX12_laysWords_19 (by decide) ?_
  refine g_aload_n dX12_laysWords_20 rfl rfl ?_
  refine g_getA dX12_laysWords_21 fl_X12_13 sh98 rfl ?_
  refine g_bipush (v := 10) dX12_laysWords_24 (by decide) ?_
  refine g_iload_n dX12_laysWords_26 rfl rfl ?_
  refine g_iadd dX12_laysWords_27 ?_
  refine g_iald dX12_laysWords_28 ia99 al99 hw.1 ?_
  have hw := hw.2
  refine g_iastK dX12_laysWords_29 ia104 al104 (by unfold vp_in; decide) (k := 1) (by decide) ?_
  refine g_heap (fun h2 eh2 => ?_)
  have hw := hw h2 eh2
  refine g_aload_n dX12_laysWords_30 rfl rfl ?_
  refine g_getA dX12_laysWords_31 fl_X12_33 sh98 rfl ?_
  refine g_iconst (v := 2) dX12_laysWords_34 (by decide) ?_
  refine g_aload_n dX12_laysWords_35 rfl rfl ?_
  refine g_getA dX12_laysWords_36 fl_X12_13 sh98 rfl ?_
  refine g_bipush (v := 26) dX12_laysWords_39 (by decide) ?_
  refine g_iload_n dX12_laysWords_41 rfl rfl ?_
  refine g_iadd dX12_laysWords_42 ?_
  refine g_iald dX12_laysWords_43 ia99 al99 hw.1 ?_
  have hw := hw.2
  refine g_iastK dX12_laysWords_44 ia104 al104 (by unfold vp_in; decide) (k := 2) (by decide) ?_
  refine g_heap (fun h3 eh3 => ?_)
  have hw := hw h3 eh3
  refine g_aload_n dX12_laysWords_45 rfl rfl ?_
  refine g_getA dX12_laysWords_46 fl_X12_33 sh98 rfl ?_
  refine g_iconst (v := 3) dX12_laysWords_49 (by decide) ?_
  refine g_iload_n dX12_laysWords_50 rfl rfl ?_
  refine g_iastK dX12_laysWords_51 ia104 al104 (by unfold vp_in; decide) (k := 3) (by decide) ?_
  refine g_heap (fun h4 eh4 => ?_)
  have hw := hw h4 eh4
  refine g_aload_n dX12_laysWords_52 rfl rfl ?_
  refine g_getA dX12_laysWords_53 fl_X12_33 sh98 rfl ?_
  refine g_iconst (v := 4) dX12_laysWords_56 (by decide) ?_
  refine g_iload_n dX12_laysWords_57 rfl rfl ?_
  refine g_iastK dX12_laysWords_58 ia104 al104 (by unfold vp_in; decide) (k := 4) (by decide) ?_
  refine g_heap (fun h5 eh5 => ?_)
  have hw := hw h5 eh5
  exact g_vret dX12_laysWords_59 hw
theorem dX12_between_0 : decode cX12_between 0 = .ok (.iload_n 0, 1) := by decide +kernel
theorem dX12_between_1 : decode cX12_between 1 = .ok (.tableswitch 80 3003 3008 #[39, 50, 61, 80, 72, 76], 39) := by decide +kernel
theorem dX12_between_40 : decode cX12_between 40 = .ok (.iload_n 1, 1) := by decide +kernel
theorem dX12_between_41 : decode cX12_between 41 = .ok (.iload_n 2, 1) := by decide +kernel
theorem dX12_between_42 : decode cX12_between 42 = .ok (.if_icmp .ne 7, 3) := by decide +kernel
theorem dX12_between_45 : decode cX12_between 45 = .ok (.iconst 1, 1) := by decide +kernel
theorem dX12_between_46 : decode cX12_between 46 = .ok (.goto 4, 3) := by decide +kernel
theorem dX12_between_49 : decode cX12_between 49 = .ok (.iconst 0, 1) := by decide +kernel
theorem dX12_between_50 : decode cX12_between 50 = .ok (.ireturn, 1) := by decide +kernel
theorem dX12_between_51 : decode cX12_between 51 = .ok (.iload_n 1, 1) := by decide +kernel
theorem dX12_between_52 : decode cX12_between 52 = .ok (.iload_n 2, 1) := by decide +kernel
theorem dX12_between_53 : decode cX12_between 53 = .ok (.if_icmp .ge 7, 3) := by decide +kernel
theorem dX12_between_56 : decode cX12_between 56 = .ok (.iconst 1, 1) := by decide +kernel
theorem dX12_between_57 : decode cX12_between 57 = .ok (.goto 4, 3) := by decide +kernel
theorem dX12_between_60 : decode cX12_between 60 = .ok (.iconst 0, 1) := by decide +kernel
theorem dX12_between_61 : decode cX12_between 61 = .ok (.ireturn, 1) := by decide +kernel
theorem dX12_between_62 : decode cX12_between 62 = .ok (.iload_n 1, 1) := by decide +kernel
theorem dX12_between_63 : decode cX12_between 63 = .ok (.iload_n 2, 1) := by decide +kernel
theorem dX12_between_64 : decode cX12_between 64 = .ok (.if_icmp .le 7, 3) := by decide +kernel
theorem dX12_between_67 : decode cX12_between 67 = .ok (.iconst 1, 1) := by decide +kernel
theorem dX12_between_68 : decode cX12_between 68 = .ok (.goto 4, 3) := by decide +kernel
theorem dX12_between_71 : decode cX12_between 71 = .ok (.iconst 0, 1) := by decide +kernel
theorem dX12_between_72 : decode cX12_between 72 = .ok (.ireturn, 1) := by decide +kernel
theorem dX12_between_73 : decode cX12_between 73 = .ok (.iload_n 1, 1) := by decide +kernel
theorem dX12_between_74 : decode cX12_between 74 = .ok (.iload_n 2, 1) := by decide +kernel
theorem dX12_between_75 : decode cX12_between 75 = .ok (.iand, 1) := by decide +kernel
theorem dX12_between_76 : decode cX12_between 76 = .ok (.ireturn, 1) := by decide +kernel
theorem dX12_between_77 : decode cX12_between 77 = .ok (.iload_n 1, 1) := by decide +kernel
theorem dX12_between_78 : decode cX12_between 78 = .ok (.iload_n 2, 1) := by decide +kernel
theorem dX12_between_79 : decode cX12_between 79 = .ok (.ior, 1) := by decide +kernel
theorem dX12_between_80 : decode cX12_between 80 = .ok (.ireturn, 1) := by decide +kernel
theorem dX12_between_81 : decode cX12_between 81 = .ok (.iload_n 0, 1) := by decide +kernel
theorem dX12_between_82 : decode cX12_between 82 = .ok (.sipush 3000, 3) := by decide +kernel
theorem dX12_between_85 : decode cX12_between 85 = .ok (.if_icmp .ne 11, 3) := by decide +kernel
theorem dX12_between_88 : decode cX12_between 88 = .ok (.iload_n 1, 1) := by decide +kernel
theorem dX12_between_89 : decode cX12_between 89 = .ok (.i2l, 1) := by decide +kernel
theorem dX12_between_90 : decode cX12_between 90 = .ok (.iload_n 2, 1) := by decide +kernel
theorem dX12_between_91 : decode cX12_between 91 = .ok (.i2l, 1) := by decide +kernel
theorem dX12_between_92 : decode cX12_between 92 = .ok (.ladd, 1) := by decide +kernel
theorem dX12_between_93 : decode cX12_between 93 = .ok (.goto 23, 3) := by decide +kernel
theorem dX12_between_96 : decode cX12_between 96 = .ok (.iload_n 0, 1) := by decide +kernel
theorem dX12_between_97 : decode cX12_between 97 = .ok (.sipush 3001, 3) := by decide +kernel
theorem dX12_between_100 : decode cX12_between 100 = .ok (.if_icmp .ne 11, 3) := by decide +kernel
theorem dX12_between_103 : decode cX12_between 103 = .ok (.iload_n 1, 1) := by decide +kernel
theorem dX12_between_104 : decode cX12_between 104 = .ok (.i2l, 1) := by decide +kernel
theorem dX12_between_105 : decode cX12_between 105 = .ok (.iload_n 2, 1) := by decide +kernel
theorem dX12_between_106 : decode cX12_between 106 = .ok (.i2l, 1) := by decide +kernel
theorem dX12_between_107 : decode cX12_between 107 = .ok (.lsub, 1) := by decide +kernel
theorem dX12_between_108 : decode cX12_between 108 = .ok (.goto 8, 3) := by decide +kernel
theorem dX12_between_111 : decode cX12_between 111 = .ok (.iload_n 1, 1) := by decide +kernel
theorem dX12_between_112 : decode cX12_between 112 = .ok (.i2l, 1) := by decide +kernel
theorem dX12_between_113 : decode cX12_between 113 = .ok (.iload_n 2, 1) := by decide +kernel
theorem dX12_between_114 : decode cX12_between 114 = .ok (.i2l, 1) := by decide +kernel
theorem dX12_between_115 : decode cX12_between 115 = .ok (.lmul, 1) := by decide +kernel
theorem dX12_between_116 : decode cX12_between 116 = .ok (.lstore_n 3, 1) := by decide +kernel
theorem dX12_between_117 : decode cX12_between 117 = .ok (.lload_n 3, 1) := by decide +kernel
theorem dX12_between_118 : decode cX12_between 118 = .ok (.ldc2_w 232, 3) := by decide +kernel
theorem dX12_between_121 : decode cX12_between 121 = .ok (.lcmp, 1) := by decide +kernel
theorem dX12_between_122 : decode cX12_between 122 = .ok (.ifCond .le 9, 3) := by decide +kernel
theorem dX12_between_125 : decode cX12_between 125 = .ok (.ldc2_w 232, 3) := by decide +kernel
theorem dX12_between_128 : decode cX12_between 128 = .ok (.goto 18, 3) := by decide +kernel
theorem dX12_between_131 : decode cX12_between 131 = .ok (.lload_n 3, 1) := by decide +kernel
theorem dX12_between_132 : decode cX12_between 132 = .ok (.ldc2_w 234, 3) := by decide +kernel
theorem dX12_between_135 : decode cX12_between 135 = .ok (.lcmp, 1) := by decide +kernel
theorem dX12_between_136 : decode cX12_between 136 = .ok (.ifCond .ge 9, 3) := by decide +kernel
theorem dX12_between_139 : decode cX12_between 139 = .ok (.ldc2_w 234, 3) := by decide +kernel
theorem dX12_between_142 : decode cX12_between 142 = .ok (.goto 4, 3) := by decide +kernel
theorem dX12_between_145 : decode cX12_between 145 = .ok (.lload_n 3, 1) := by decide +kernel
theorem dX12_between_146 : decode cX12_between 146 = .ok (.l2i, 1) := by decide +kernel
theorem dX12_between_147 : decode cX12_between 147 = .ok (.ireturn, 1) := by decide +kernel
theorem kl_X12_232 : Cond.constantLong RX12 232 (1000000) ∈ Wd := mW 1661 (by decide +kernel) rfl
theorem kl_X12_234 : Cond.constantLong RX12 234 (-1000000) ∈ Wd := mW 1662 (by decide +kernel) rfl
def M_between (x0 : Int32) (x1 : Int32) (x2 : Int32) (h : Hp) (Q : Int32 → Hp → Prop) : Prop := ∀ J81 : Hp → Prop, J81 = (fun h1 => ∀ J116 : Int64 → Hp → Prop, J116 = (fun s2 h3 => (s2 ≤ (1000000 : Int64) → ((-1000000 : Int64) ≤ s2 → Q ((s2).toInt32) h3) ∧ (¬ (-1000000 : Int64) ≤ s2 → Q (((-1000000 : Int64)).toInt32) h3)) ∧ (¬ s2 ≤ (1000000 : Int64) → Q (((1000000 : Int64)).toInt32) h3)) → (¬ x0 = 3000 → (¬ x0 = 3001 → J116 (((x1).toInt64) * ((x2).toInt64)) h1) ∧ (x0 = 3001 → J116 (((x1).toInt64) - ((x2).toInt64)) h1)) ∧ (x0 = 3000 → J116 (((x1).toInt64) + ((x2).toInt64)) h1)) → (x0.toInt < 3003 ∨ 3008 < x0.toInt → J81 h) ∧ (x0 = 3003 → (¬ x1 = x2 → Q 0 h) ∧ (x1 = x2 → Q 1 h)) ∧ (x0 = 3004 → (x2 ≤ x1 → Q 0 h) ∧ (¬ x2 ≤ x1 → Q 1 h)) ∧ (x0 = 3005 → (x1 ≤ x2 → Q 0 h) ∧ (¬ x1 ≤ x2 → Q 1 h)) ∧ (x0 = 3006 → J81 h) ∧ (x0 = 3007 → Q (x1 &&& x2) h) ∧ (x0 = 3008 → Q (x1 ||| x2) h)
set_option maxHeartbeats 4000000 in
set_option maxRecDepth 20000 in
theorem c_M_between {G : Gx}  {x0 : Int32} {x1 : Int32} {x2 : Int32} {h : Hp} {Q : Int32 → Hp → Prop} (hw : M_between x0 x1 x2 h Q) : Ct yX12_between cX12_between 5 (some .int) 1 G [.int x0, .int x1, .int x2] h (QI G Q) := by
  refine ct_go [(0, .int x0), (1, .int x1), (2, .int x2)] (plainFor_of_name (by decide)) rfl (Nat.le_of_ble_eq_true rfl) rfl ?_
  refine g_iload_n dX12_between_0 rfl rfl ?_
  refine jn_el hw (fun J81 eJ81 hw => ?_)
  have hJ81 : ∀ (h1 : Hp), J81 h1 → Go cX12_between 5 RX12 (some .int) 1 G (QI G Q) 81 [(0, .int x0), (1, .int x1), (2, .int x2)] [] h1 := by
    intro h1 hw
    subst eJ81
    refine g_iload_n dX12_between_81 rfl rfl ?_
    refine g_sipush (v := 3000) dX12_between_82 (by decide) ?_
    refine jn_el hw (fun J116 eJ116 hw => ?_)
    have hJ116 : ∀ (s2 : Int64) (h3 : Hp), J116 s2 h3 → Go cX12_between 5 RX12 (some .int) 1 G (QI G Q) 116 [] [.long s2] h3 := by
      intro s2 h3 hw
      subst eJ116
      refine g_lstore_n dX12_between_116 rfl (by decide) (lv1 := [(3, .long s2)]) rfl ?_
      refine g_lload_n dX12_between_117 rfl rfl ?_
      refine g_ldc2 dX12_between_118 kl_X12_232 ?_
      refine g_lc_le 131 dX12_between_121 dX12_between_122 rfl (fun hc => ?_) (fun hc => ?_)
      · have hw := hw.1 hc
        refine g_lload_n dX12_between_131 rfl rfl ?_
        refine g_ldc2 dX12_between_132 kl_X12_234 ?_
        refine g_lc_ge 145 dX12_between_135 dX12_between_136 rfl (fun hc => ?_) (fun hc => ?_)
        · have hw := hw.1 hc
          refine g_lload_n dX12_between_145 rfl rfl ?_
          refine g_l2i dX12_between_146 ?_
          exact g_iret dX12_between_147 hw
        · have hw := hw.2 hc
          refine g_ldc2 dX12_between_139 kl_X12_234 ?_
          refine g_goto 146 dX12_between_142 rfl ?_
          refine g_l2i dX12_between_146 ?_
          exact g_iret dX12_between_147 hw
      · have hw := hw.2 hc
        refine g_ldc2 dX12_between_125 kl_X12_232 ?_
        refine g_goto 146 dX12_between_128 rfl ?_
        refine g_l2i dX12_between_146 ?_
        exact g_iret dX12_between_147 hw
    refine g_icmp_ne 96 dX12_between_85 rfl (fun hc => ?_) (fun hc => ?_)
    · have hw := hw.1 hc
      refine g_iload_n dX12_between_96 rfl rfl ?_
      refine g_sipush (v := 3001) dX12_between_97 (by decide) ?_
      refine g_icmp_ne 111 dX12_between_100 rfl (fun hc => ?_) (fun hc => ?_)
      · have hw := hw.1 hc
        refine g_iload_n dX12_between_111 rfl rfl ?_
        refine g_i2l dX12_between_112 ?_
        refine g_iload_n dX12_between_113 rfl rfl ?_
        refine g_i2l dX12_between_114 ?_
        refine g_lmul dX12_between_115 ?_
        refine g_lv [] rfl ?_
        exact hJ116 _ _ hw
      · have hw := hw.2 hc
        refine g_iload_n dX12_between_103 rfl rfl ?_
        refine g_i2l dX12_between_104 ?_
        refine g_iload_n dX12_between_105 rfl rfl ?_
        refine g_i2l dX12_between_106 ?_
        refine g_lsub dX12_between_107 ?_
        refine g_goto 116 dX12_between_108 rfl ?_
        refine g_lv [] rfl ?_
        exact hJ116 _ _ hw
    · have hw := hw.2 hc
      refine g_iload_n dX12_between_88 rfl rfl ?_
      refine g_i2l dX12_between_89 ?_
      refine g_iload_n dX12_between_90 rfl rfl ?_
      refine g_i2l dX12_between_91 ?_
      refine g_ladd dX12_between_92 ?_
      refine g_goto 116 dX12_between_93 rfl ?_
      refine g_lv [] rfl ?_
      exact hJ116 _ _ hw
  rcases tsw_in x0 (3003) (3008) 6 (by decide) with hc | ⟨j, hj, hc⟩
  · have hw := hw.1 hc
    refine g_tswD 81 dX12_between_1 hc rfl ?_
    exact hJ81 _ hw
  · match j, hj, hc with
    | 0, _, hc =>
      have hc : x0 = 3003 := tsw_eq hc (by decide)
      have hw := hw.2.1 hc
      refine g_tswI 3003 40 dX12_between_1 hc (by decide) (by decide) (off := 39) (by decide) rfl ?_
      refine g_iload_n dX12_between_40 rfl rfl ?_
      refine g_iload_n dX12_between_41 rfl rfl ?_
      refine g_icmp_ne 49 dX12_between_42 rfl (fun hc => ?_) (fun hc => ?_)
      · have hw := hw.1 hc
        refine g_iconst (v := 0) dX12_between_49 (by decide) ?_
        exact g_iret dX12_between_50 hw
      · have hw := hw.2 hc
        refine g_iconst (v := 1) dX12_between_45 (by decide) ?_
        refine g_goto 50 dX12_between_46 rfl ?_
        exact g_iret dX12_between_50 hw
    | 1, _, hc =>
      have hc : x0 = 3004 := tsw_eq hc (by decide)
      have hw := hw.2.2.1 hc
      refine g_tswI 3004 51 dX12_between_1 hc (by decide) (by decide) (off := 50) (by decide) rfl ?_
      refine g_iload_n dX12_between_51 rfl rfl ?_
      refine g_iload_n dX12_between_52 rfl rfl ?_
      refine g_icmp_ge 60 dX12_between_53 rfl (fun hc => ?_) (fun hc => ?_)
      · have hw := hw.1 hc
        refine g_iconst (v := 0) dX12_between_60 (by decide) ?_
        exact g_iret dX12_between_61 hw
      · have hw := hw.2 hc
        refine g_iconst (v := 1) dX12_between_56 (by decide) ?_
        refine g_goto 61 dX12_between_57 rfl ?_
        exact g_iret dX12_between_61 hw
    | 2, _, hc =>
      have hc : x0 = 3005 := tsw_eq hc (by decide)
      have hw := hw.2.2.2.1 hc
      refine g_tswI 3005 62 dX12_between_1 hc (by decide) (by decide) (off := 61) (by decide) rfl ?_
      refine g_iload_n dX12_between_62 rfl rfl ?_
      refine g_iload_n dX12_between_63 rfl rfl ?_
      refine g_icmp_le 71 dX12_between_64 rfl (fun hc => ?_) (fun hc => ?_)
      · have hw := hw.1 hc
        refine g_iconst (v := 0) dX12_between_71 (by decide) ?_
        exact g_iret dX12_between_72 hw
      · have hw := hw.2 hc
        refine g_iconst (v := 1) dX12_between_67 (by decide) ?_
        refine g_goto 72 dX12_between_68 rfl ?_
        exact g_iret dX12_between_72 hw
    | 3, _, hc =>
      have hc : x0 = 3006 := tsw_eq hc (by decide)
      have hw := hw.2.2.2.2.1 hc
      refine g_tswI 3006 81 dX12_between_1 hc (by decide) (by decide) (off := 80) (by decide) rfl ?_
      exact hJ81 _ hw
    | 4, _, hc =>
      have hc : x0 = 3007 := tsw_eq hc (by decide)
      have hw := hw.2.2.2.2.2.1 hc
      refine g_tswI 3007 73 dX12_between_1 hc (by decide) (by decide) (off := 72) (by decide) rfl ?_
      refine g_iload_n dX12_between_73 rfl rfl ?_
      refine g_iload_n dX12_between_74 rfl rfl ?_
      refine g_iand dX12_between_75 ?_
      exact g_iret dX12_between_76 hw
    | 5, _, hc =>
      have hc : x0 = 3008 := tsw_eq hc (by decide)
      have hw := hw.2.2.2.2.2.2 hc
      refine g_tswI 3008 77 dX12_between_1 hc (by decide) (by decide) (off := 76) (by decide) rfl ?_
      refine g_iload_n dX12_between_77 rfl rfl ?_
      refine g_iload_n dX12_between_78 rfl rfl ?_
      refine g_ior dX12_between_79 ?_
      exact g_iret dX12_between_80 hw
    | k + 6, hj, _ => exact absurd hj (by omega)
theorem dX12_reckons_0 : decode cX12_reckons 0 = .ok (.iconst 0, 1) := by decide +kernel
theorem dX12_reckons_1 : decode cX12_reckons 1 = .ok (.istore_n 2, 1) := by decide +kernel
theorem dX12_reckons_2 : decode cX12_reckons 2 = .ok (.iconst 0, 1) := by decide +kernel
theorem dX12_reckons_3 : decode cX12_reckons 3 = .ok (.istore_n 3, 1) := by decide +kernel
theorem dX12_reckons_4 : decode cX12_reckons 4 = .ok (.iload_n 3, 1) := by decide +kernel
theorem dX12_reckons_5 : decode cX12_reckons 5 = .ok (.aload_n 0, 1) := by decide +kernel
theorem dX12_reckons_6 : decode cX12_reckons 6 = .ok (.getfield 13, 3) := by decide +kernel
theorem dX12_reckons_9 : decode cX12_reckons 9 = .ok (.bipush 8, 2) := by decide +kernel
theorem dX12_reckons_11 : decode cX12_reckons 11 = .ok (.iload_n 1, 1) := by decide +kernel
theorem dX12_reckons_12 : decode cX12_reckons 12 = .ok (.iadd, 1) := by decide +kernel
theorem dX12_reckons_13 : decode cX12_reckons 13 = .ok (.iaload, 1) := by decide +kernel
theorem dX12_reckons_14 : decode cX12_reckons 14 = .ok (.if_icmp .ge 185, 3) := by decide +kernel
theorem dX12_reckons_17 : decode cX12_reckons 17 = .ok (.aload_n 0, 1) := by decide +kernel
theorem dX12_reckons_18 : decode cX12_reckons 18 = .ok (.getfield 13, 3) := by decide +kernel
theorem dX12_reckons_21 : decode cX12_reckons 21 = .ok (.sipush 192, 3) := by decide +kernel
theorem dX12_reckons_24 : decode cX12_reckons 24 = .ok (.aload_n 0, 1) := by decide +kernel
theorem dX12_reckons_25 : decode cX12_reckons 25 = .ok (.getfield 13, 3) := by decide +kernel
theorem dX12_reckons_28 : decode cX12_reckons 28 = .ok (.bipush 6, 2) := by decide +kernel
theorem dX12_reckons_30 : decode cX12_reckons 30 = .ok (.iload_n 1, 1) := by decide +kernel
theorem dX12_reckons_31 : decode cX12_reckons 31 = .ok (.iadd, 1) := by decide +kernel
theorem dX12_reckons_32 : decode cX12_reckons 32 = .ok (.iaload, 1) := by decide +kernel
theorem dX12_reckons_33 : decode cX12_reckons 33 = .ok (.iadd, 1) := by decide +kernel
theorem dX12_reckons_34 : decode cX12_reckons 34 = .ok (.iload_n 3, 1) := by decide +kernel
theorem dX12_reckons_35 : decode cX12_reckons 35 = .ok (.iadd, 1) := by decide +kernel
theorem dX12_reckons_36 : decode cX12_reckons 36 = .ok (.iaload, 1) := by decide +kernel
theorem dX12_reckons_37 : decode cX12_reckons 37 = .ok (.istore 4, 2) := by decide +kernel
theorem dX12_reckons_39 : decode cX12_reckons 39 = .ok (.iload 4, 2) := by decide +kernel
theorem dX12_reckons_41 : decode cX12_reckons 41 = .ok (.sipush 3000, 3) := by decide +kernel
theorem dX12_reckons_44 : decode cX12_reckons 44 = .ok (.if_icmp .ge 39, 3) := by decide +kernel
theorem dX12_reckons_47 : decode cX12_reckons 47 = .ok (.aload_n 0, 1) := by decide +kernel
theorem dX12_reckons_48 : decode cX12_reckons 48 = .ok (.getfield 30, 3) := by decide +kernel
theorem dX12_reckons_51 : decode cX12_reckons 51 = .ok (.iload_n 2, 1) := by decide +kernel
theorem dX12_reckons_52 : decode cX12_reckons 52 = .ok (.iload 4, 2) := by decide +kernel
theorem dX12_reckons_54 : decode cX12_reckons 54 = .ok (.sipush 1000, 3) := by decide +kernel
theorem dX12_reckons_57 : decode cX12_reckons 57 = .ok (.if_icmp .ge 8, 3) := by decide +kernel
theorem dX12_reckons_60 : decode cX12_reckons 60 = .ok (.iload 4, 2) := by decide +kernel
theorem dX12_reckons_62 : decode cX12_reckons 62 = .ok (.goto 14, 3) := by decide +kernel
theorem dX12_reckons_65 : decode cX12_reckons 65 = .ok (.aload_n 0, 1) := by decide +kernel
theorem dX12_reckons_66 : decode cX12_reckons 66 = .ok (.getfield 33, 3) := by decide +kernel
theorem dX12_reckons_69 : decode cX12_reckons 69 = .ok (.iload 4, 2) := by decide +kernel
theorem dX12_reckons_71 : decode cX12_reckons 71 = .ok (.sipush 1000, 3) := by decide +kernel
theorem dX12_reckons_74 : decode cX12_reckons 74 = .ok (.isub, 1) := by decide +kernel
theorem dX12_reckons_75 : decode cX12_reckons 75 = .ok (.iaload, 1) := by decide +kernel
theorem dX12_reckons_76 : decode cX12_reckons 76 = .ok (.iastore, 1) := by decide +kernel
theorem dX12_reckons_77 : decode cX12_reckons 77 = .ok (.iinc 2 1, 3) := by decide +kernel
theorem dX12_reckons_80 : decode cX12_reckons 80 = .ok (.goto 113, 3) := by decide +kernel
theorem dX12_reckons_83 : decode cX12_reckons 83 = .ok (.iload 4, 2) := by decide +kernel
theorem dX12_reckons_85 : decode cX12_reckons 85 = .ok (.sipush 3006, 3) := by decide +kernel
theorem dX12_reckons_88 : decode cX12_reckons 88 = .ok (.if_icmp .ne 24, 3) := by decide +kernel
theorem dX12_reckons_91 : decode cX12_reckons 91 = .ok (.aload_n 0, 1) := by decide +kernel
theorem dX12_reckons_92 : decode cX12_reckons 92 = .ok (.getfield 30, 3) := by decide +kernel
theorem dX12_reckons_95 : decode cX12_reckons 95 = .ok (.iload_n 2, 1) := by decide +kernel
theorem dX12_reckons_96 : decode cX12_reckons 96 = .ok (.iconst 1, 1) := by decide +kernel
theorem dX12_reckons_97 : decode cX12_reckons 97 = .ok (.isub, 1) := by decide +kernel
theorem dX12_reckons_98 : decode cX12_reckons 98 = .ok (.iconst 1, 1) := by decide +kernel
theorem dX12_reckons_99 : decode cX12_reckons 99 = .ok (.aload_n 0, 1) := by decide +kernel
theorem dX12_reckons_100 : decode cX12_reckons 100 = .ok (.getfield 30, 3) := by decide +kernel
theorem dX12_reckons_103 : decode cX12_reckons 103 = .ok (.iload_n 2, 1) := by decide +kernel
theorem dX12_reckons_104 : decode cX12_reckons 104 = .ok (.iconst 1, 1) := by decide +kernel
theorem dX12_reckons_105 : decode cX12_reckons 105 = .ok (.isub, 1) := by decide +kernel
theorem dX12_reckons_106 : decode cX12_reckons 106 = .ok (.iaload, 1) := by decide +kernel
theorem dX12_reckons_107 : decode cX12_reckons 107 = .ok (.isub, 1) := by decide +kernel
theorem dX12_reckons_108 : decode cX12_reckons 108 = .ok (.iastore, 1) := by decide +kernel
theorem dX12_reckons_109 : decode cX12_reckons 109 = .ok (.goto 84, 3) := by decide +kernel
theorem dX12_reckons_112 : decode cX12_reckons 112 = .ok (.iload 4, 2) := by decide +kernel
theorem dX12_reckons_114 : decode cX12_reckons 114 = .ok (.sipush 3009, 3) := by decide +kernel
theorem dX12_reckons_117 : decode cX12_reckons 117 = .ok (.if_icmp .ne 46, 3) := by decide +kernel
theorem dX12_reckons_120 : decode cX12_reckons 120 = .ok (.iinc 2 (-2), 3) := by decide +kernel
theorem dX12_reckons_123 : decode cX12_reckons 123 = .ok (.aload_n 0, 1) := by decide +kernel
theorem dX12_reckons_124 : decode cX12_reckons 124 = .ok (.getfield 30, 3) := by decide +kernel
theorem dX12_reckons_127 : decode cX12_reckons 127 = .ok (.iload_n 2, 1) := by decide +kernel
theorem dX12_reckons_128 : decode cX12_reckons 128 = .ok (.iconst 1, 1) := by decide +kernel
theorem dX12_reckons_129 : decode cX12_reckons 129 = .ok (.isub, 1) := by decide +kernel
theorem dX12_reckons_130 : decode cX12_reckons 130 = .ok (.aload_n 0, 1) := by decide +kernel
theorem dX12_reckons_131 : decode cX12_reckons 131 = .ok (.getfield 30, 3) := by decide +kernel
theorem dX12_reckons_134 : decode cX12_reckons 134 = .ok (.iload_n 2, 1) := by decide +kernel
theorem dX12_reckons_135 : decode cX12_reckons 135 = .ok (.iconst 1, 1) := by decide +kernel
theorem dX12_reckons_136 : decode cX12_reckons 136 = .ok (.isub, 1) := by decide +kernel
theorem dX12_reckons_137 : decode cX12_reckons 137 = .ok (.iaload, 1) := by decide +kernel
theorem dX12_reckons_138 : decode cX12_reckons 138 = .ok (.iconst 1, 1) := by decide +kernel
theorem dX12_reckons_139 : decode cX12_reckons 139 = .ok (.if_icmp .ne 12, 3) := by decide +kernel
theorem dX12_reckons_142 : decode cX12_reckons 142 = .ok (.aload_n 0, 1) := by decide +kernel
theorem dX12_reckons_143 : decode cX12_reckons 143 = .ok (.getfield 30, 3) := by decide +kernel
theorem dX12_reckons_146 : decode cX12_reckons 146 = .ok (.iload_n 2, 1) := by decide +kernel
theorem dX12_reckons_147 : decode cX12_reckons 147 = .ok (.iaload, 1) := by decide +kernel
theorem dX12_reckons_148 : decode cX12_reckons 148 = .ok (.goto 11, 3) := by decide +kernel
theorem dX12_reckons_151 : decode cX12_reckons 151 = .ok (.aload_n 0, 1) := by decide +kernel
theorem dX12_reckons_152 : decode cX12_reckons 152 = .ok (.getfield 30, 3) := by decide +kernel
theorem dX12_reckons_155 : decode cX12_reckons 155 = .ok (.iload_n 2, 1) := by decide +kernel
theorem dX12_reckons_156 : decode cX12_reckons 156 = .ok (.iconst 1, 1) := by decide +kernel
theorem dX12_reckons_157 : decode cX12_reckons 157 = .ok (.iadd, 1) := by decide +kernel
theorem dX12_reckons_158 : decode cX12_reckons 158 = .ok (.iaload, 1) := by decide +kernel
theorem dX12_reckons_159 : decode cX12_reckons 159 = .ok (.iastore, 1) := by decide +kernel
theorem dX12_reckons_160 : decode cX12_reckons 160 = .ok (.goto 33, 3) := by decide +kernel
theorem dX12_reckons_163 : decode cX12_reckons 163 = .ok (.iinc 2 (-1), 3) := by decide +kernel
theorem dX12_reckons_166 : decode cX12_reckons 166 = .ok (.aload_n 0, 1) := by decide +kernel
theorem dX12_reckons_167 : decode cX12_reckons 167 = .ok (.getfield 30, 3) := by decide +kernel
theorem dX12_reckons_170 : decode cX12_reckons 170 = .ok (.iload_n 2, 1) := by decide +kernel
theorem dX12_reckons_171 : decode cX12_reckons 171 = .ok (.iconst 1, 1) := by decide +kernel
theorem dX12_reckons_172 : decode cX12_reckons 172 = .ok (.isub, 1) := by decide +kernel
theorem dX12_reckons_173 : decode cX12_reckons 173 = .ok (.iload 4, 2) := by decide +kernel
theorem dX12_reckons_175 : decode cX12_reckons 175 = .ok (.aload_n 0, 1) := by decide +kernel
theorem dX12_reckons_176 : decode cX12_reckons 176 = .ok (.getfield 30, 3) := by decide +kernel
theorem dX12_reckons_179 : decode cX12_reckons 179 = .ok (.iload_n 2, 1) := by decide +kernel
theorem dX12_reckons_180 : decode cX12_reckons 180 = .ok (.iconst 1, 1) := by decide +kernel
theorem dX12_reckons_181 : decode cX12_reckons 181 = .ok (.isub, 1) := by decide +kernel
theorem dX12_reckons_182 : decode cX12_reckons 182 = .ok (.iaload, 1) := by decide +kernel
theorem dX12_reckons_183 : decode cX12_reckons 183 = .ok (.aload_n 0, 1) := by decide +kernel
theorem dX12_reckons_184 : decode cX12_reckons 184 = .ok (.getfield 30, 3) := by decide +kernel
theorem dX12_reckons_187 : decode cX12_reckons 187 = .ok (.iload_n 2, 1) := by decide +kernel
theorem dX12_reckons_188 : decode cX12_reckons 188 = .ok (.iaload, 1) := by decide +kernel
theorem dX12_reckons_189 : decode cX12_reckons 189 = .ok (.invokestatic 236, 3) := by decide +kernel
theorem dX12_reckons_192 : decode cX12_reckons 192 = .ok (.iastore, 1) := by decide +kernel
theorem dX12_reckons_193 : decode cX12_reckons 193 = .ok (.iinc 3 1, 3) := by decide +kernel
theorem dX12_reckons_196 : decode cX12_reckons 196 = .ok (.goto (-192), 3) := by decide +kernel
theorem dX12_reckons_199 : decode cX12_reckons 199 = .ok (.aload_n 0, 1) := by decide +kernel
theorem dX12_reckons_200 : decode cX12_reckons 200 = .ok (.getfield 30, 3) := by decide +kernel
theorem dX12_reckons_203 : decode cX12_reckons 203 = .ok (.iconst 0, 1) := by decide +kernel
theorem dX12_reckons_204 : decode cX12_reckons 204 = .ok (.iaload, 1) := by decide +kernel
theorem dX12_reckons_205 : decode cX12_reckons 205 = .ok (.ireturn, 1) := by decide +kernel
theorem fl_X12_30 : FLk RX12 30 12 15 := ⟨_, rfl, by decide, mW 1397 (by decide +kernel) rfl⟩
theorem ml_X12_236 : Cond.methodLink RX12 236 yX12_between ∈ Wd := mW 1658 (by decide +kernel) rfl
theorem mk_X12_between : MokS yX12_between cX12_between 5 (some .int) 3 := ⟨⟨mW 14 (by decide +kernel) rfl, mW 1660 (by decide +kernel) rfl, ⟨by decide, by decide, by decide +kernel⟩, by decide⟩, mW 1659 (by decide +kernel) rfl⟩
def M_reckons_L4 (x1 : Int32) (Q : Int32 → Hp → Prop) : Nat → Int32 → Int32 → Hp → Prop
  | 0, _, _, _ => False
  | n + 1, x2, x3, h => vp_in ((8 : Int32) + x1) 3276 ∧ ((gI h 99 (((8 : Int32) + x1)).toNatClampNeg) ≤ x3 → Q (gI h 103 0) h) ∧ (¬ (gI h 99 (((8 : Int32) + x1)).toNatClampNeg) ≤ x3 → vp_in ((6 : Int32) + x1) 3276 ∧ vp_in (((192 : Int32) + (gI h 99 (((6 : Int32) + x1)).toNatClampNeg)) + x3) 3276 ∧ ∀ v1 : Int32, v1 = (gI h 99 ((((192 : Int32) + (gI h 99 (((6 : Int32) + x1)).toNatClampNeg)) + x3)).toNatClampNeg) → ∀ J193 : Int32 → Hp → Prop, J193 = (fun x2_2 h3 => ∀ v4 : Int32, v4 = (x3 + 1) → M_reckons_L4 x1 Q n x2_2 v4 h3) → (3000 ≤ v1 → (¬ v1 = 3006 → (¬ v1 = 3009 → ∀ v5 : Int32, v5 = (x2 + (-1)) → vp_in (v5 - 1) 900 ∧ vp_in v5 900 ∧ M_between v1 (gI h 103 ((v5 - 1)).toNatClampNeg) (gI h 103 (v5).toNatClampNeg) h (fun r6 h7 => vp_in (v5 - 1) 900 ∧ ∀ h8 : Hp, h8 = sI h7 103 ((v5 - 1)).toNatClampNeg r6 → J193 v5 h8)) ∧ (v1 = 3009 → ∀ v9 : Int32, v9 = (x2 + (-2)) → vp_in (v9 - 1) 900 ∧ ∀ J159 : Int32 → Hp → Prop, J159 = (fun s10 h11 => vp_in (v9 - 1) 900 ∧ ∀ h12 : Hp, h12 = sI h11 103 ((v9 - 1)).toNatClampNeg s10 → J193 v9 h12) → (¬ (gI h 103 ((v9 - 1)).toNatClampNeg) = 1 → vp_in (v9 + 1) 900 ∧ J159 (gI h 103 ((v9 + 1)).toNatClampNeg) h) ∧ ((gI h 103 ((v9 - 1)).toNatClampNeg) = 1 → vp_in v9 900 ∧ J159 (gI h 103 (v9).toNatClampNeg) h))) ∧ (v1 = 3006 → vp_in (x2 - 1) 900 ∧ vp_in (x2 - 1) 900 ∧ ∀ h13 : Hp, h13 = sI h 103 ((x2 - 1)).toNatClampNeg ((1 : Int32) - (gI h 103 ((x2 - 1)).toNatClampNeg)) → J193 x2 h13)) ∧ (¬ 3000 ≤ v1 → ∀ J76 : Int32 → Hp → Prop, J76 = (fun s14 h15 => vp_in x2 900 ∧ ∀ h16 : Hp, h16 = sI h15 103 (x2).toNatClampNeg s14 → ∀ v17 : Int32, v17 = (x2 + 1) → J193 v17 h16) → (1000 ≤ v1 → vp_in (v1 - 1000) 5 ∧ J76 (gI h 104 ((v1 - 1000)).toNatClampNeg) h) ∧ (¬ 1000 ≤ v1 → J76 v1 h)))
set_option maxHeartbeats 4000000 in
set_option maxRecDepth 20000 in
theorem gl_M_reckons_L4 {G : Gx}  {x1 : Int32} {Q : Int32 → Hp → Prop} : ∀ (n : Nat) (x2 : Int32) (x3 : Int32) (h : Hp), M_reckons_L4 x1 Q n x2 x3 h → Go cX12_reckons 5 RX12 (some .int) 2 G (QI G Q) 4 [(0, .ref (gAd G 98)), (1, .int x1), (2, .int x2), (3, .int x3)] [] h := by
  intro n
  induction n with
  | zero => intro _ _ h hw; exact False.elim hw
  | succ n ih =>
    intro x2 x3 h hw
    refine g_iload_n dX12_reckons_4 rfl rfl ?_
    refine g_aload_n dX12_reckons_5 rfl rfl ?_
    refine g_getA dX12_reckons_6 fl_X12_13 sh98 rfl ?_
    refine g_bipush (v := 8) dX12_reckons_9 (by decide) ?_
    refine g_iload_n dX12_reckons_11 rfl rfl ?_
    refine g_iadd dX12_reckons_12 ?_
    refine g_iald dX12_reckons_13 ia99 al99 hw.1 ?_
    have hw := hw.2
    refine g_icmp_ge 199 dX12_reckons_14 rfl (fun hc => ?_) (fun hc => ?_)
    · have hw := hw.1 hc
      refine g_aload_n dX12_reckons_199 rfl rfl ?_
      refine g_getA dX12_reckons_200 fl_X12_30 sh98 rfl ?_
      refine g_iconst (v := 0) dX12_reckons_203 (by decide) ?_
      refine g_ialdK dX12_reckons_204 ia103 al103 (by unfold vp_in; decide) (k := 0) (by decide) ?_
      exact g_iret dX12_reckons_205 hw
    · have hw := hw.2 hc
      refine g_aload_n dX12_reckons_17 rfl rfl ?_
      refine g_getA dX12_reckons_18 fl_X12_13 sh98 rfl ?_
      refine g_sipush (v := 192) dX12_reckons_21 (by decide) ?_
      refine g_aload_n dX12_reckons_24 rfl rfl ?_
      refine g_getA dX12_reckons_25 fl_X12_13 sh98 rfl ?_
      refine g_bipush (v := 6) dX12_reckons_28 (by decide) ?_
      refine g_iload_n dX12_reckons_30 rfl rfl ?_
      refine g_iadd dX12_reckons_31 ?_
      refine g_iald dX12_reckons_32 ia99 al99 hw.1 ?_
      have hw := hw.2
      refine g_iadd dX12_reckons_33 ?_
      refine g_iload_n dX12_reckons_34 rfl rfl ?_
      refine g_iadd dX12_reckons_35 ?_
      refine g_iald dX12_reckons_36 ia99 al99 hw.1 ?_
      have hw := hw.2
      refine g_topi (fun v1 ev1 => ?_)
      have hw := hw v1 ev1
      refine g_istore dX12_reckons_37 (by decide) (lv1 := [(0, .ref (gAd G 98)), (1, .int x1), (2, .int x2), (3, .int x3), (4, .int v1)]) rfl ?_
      refine g_iload dX12_reckons_39 rfl ?_
      refine g_sipush (v := 3000) dX12_reckons_41 (by decide) ?_
      refine jn_el hw (fun J193 eJ193 hw => ?_)
      have hJ193 : ∀ (x2_2 : Int32) (h3 : Hp), J193 x2_2 h3 → Go cX12_reckons 5 RX12 (some .int) 2 G (QI G Q) 193 [(0, .ref (gAd G 98)), (1, .int x1), (2, .int x2_2), (3, .int x3)] [] h3 := by
        intro x2_2 h3 hw
        subst eJ193
        obtain ⟨v4, ev4⟩ : ∃ y : Int32, y = (x3 + 1) := ⟨_, rfl⟩
        have hw := hw v4 ev4
        refine g_iinc dX12_reckons_193 rfl (by rw [ev4]; rfl) (by decide) (lv1 := [(0, .ref (gAd G 98)), (1, .int x1), (2, .int x2_2), (3, .int v4)]) rfl ?_
        refine g_goto 4 dX12_reckons_196 rfl ?_
        exact ih _ _ _ hw
      refine g_icmp_ge 83 dX12_reckons_44 rfl (fun hc => ?_) (fun hc => ?_)
      · have hw := hw.1 hc
        refine g_iload dX12_reckons_83 rfl ?_
        refine g_sipush (v := 3006) dX12_reckons_85 (by decide) ?_
        refine g_icmp_ne 112 dX12_reckons_88 rfl (fun hc => ?_) (fun hc => ?_)
        · have hw := hw.1 hc
          refine g_iload dX12_reckons_112 rfl ?_
          refine g_sipush (v := 3009) dX12_reckons_114 (by decide) ?_
          refine g_icmp_ne 163 dX12_reckons_117 rfl (fun hc => ?_) (fun hc => ?_)
          · have hw := hw.1 hc
            obtain ⟨v5, ev5⟩ : ∃ y : Int32, y = (x2 + (-1)) := ⟨_, rfl⟩
            have hw := hw v5 ev5
            refine g_iinc dX12_reckons_163 rfl (by rw [ev5]; rfl) (by decide) (lv1 := [(0, .ref (gAd G 98)), (1, .int x1), (2, .int v5), (3, .int x3), (4, .int v1)]) rfl ?_
            refine g_aload_n dX12_reckons_166 rfl rfl ?_
            refine g_getA dX12_reckons_167 fl_X12_30 sh98 rfl ?_
            refine g_iload_n dX12_reckons_170 rfl rfl ?_
            refine g_iconst (v := 1) dX12_reckons_171 (by decide) ?_
            refine g_isub dX12_reckons_172 ?_
            refine g_iload dX12_reckons_173 rfl ?_
            refine g_aload_n dX12_reckons_175 rfl rfl ?_
            refine g_getA dX12_reckons_176 fl_X12_30 sh98 rfl ?_
            refine g_iload_n dX12_reckons_179 rfl rfl ?_
            refine g_iconst (v := 1) dX12_reckons_180 (by decide) ?_
            refine g_isub dX12_reckons_181 ?_
            refine g_iald dX12_reckons_182 ia103 al103 hw.1 ?_
            have hw := hw.2
            refine g_aload_n dX12_reckons_183 rfl rfl ?_
            refine g_getA dX12_reckons_184 fl_X12_30 sh98 rfl ?_
            refine g_iload_n dX12_reckons_187 rfl rfl ?_
            refine g_iald dX12_reckons_188 ia103 al103 hw.1 ?_
            have hw := hw.2
            refine g_callSI [.int v1, .int (gI h 103 ((v5 - 1)).toNatClampNeg), .int (gI h 103 (v5).toNatClampNeg)] dX12_reckons_189 ml_X12_236 mk_X12_between rfl (Nat.le_of_ble_eq_true rfl) (Nat.le_of_ble_eq_true rfl) rfl (c_M_between hw) (fun r6 h7 hw => ?_)
            refine g_iast dX12_reckons_192 ia103 al103 hw.1 ?_
            have hw := hw.2
            refine g_heap (fun h8 eh8 => ?_)
            have hw := hw h8 eh8
            refine g_lv [0, 1, 2, 3] rfl ?_
            exact hJ193 _ _ hw
          · have hw := hw.2 hc
            obtain ⟨v9, ev9⟩ : ∃ y : Int32, y = (x2 + (-2)) := ⟨_, rfl⟩
            have hw := hw v9 ev9
            refine g_iinc dX12_reckons_120 rfl (by rw [ev9]; rfl) (by decide) (lv1 := [(0, .ref (gAd G 98)), (1, .int x1), (2, .int v9), (3, .int x3), (4, .int v1)]) rfl ?_
            refine g_aload_n dX12_reckons_123 rfl rfl ?_
            refine g_getA dX12_reckons_124 fl_X12_30 sh98 rfl ?_
            refine g_iload_n dX12_reckons_127 rfl rfl ?_
            refine g_iconst (v := 1) dX12_reckons_128 (by decide) ?_
            refine g_isub dX12_reckons_129 ?_
            refine g_aload_n dX12_reckons_130 rfl rfl ?_
            refine g_getA dX12_reckons_131 fl_X12_30 sh98 rfl ?_
            refine g_iload_n dX12_reckons_134 rfl rfl ?_
            refine g_iconst (v := 1) dX12_reckons_135 (by decide) ?_
            refine g_isub dX12_reckons_136 ?_
            refine g_iald dX12_reckons_137 ia103 al103 hw.1 ?_
            have hw := hw.2
            refine g_iconst (v := 1) dX12_reckons_138 (by decide) ?_
            refine jn_el hw (fun J159 eJ159 hw => ?_)
            have hJ159 : ∀ (s10 : Int32) (h11 : Hp), J159 s10 h11 → Go cX12_reckons 5 RX12 (some .int) 2 G (QI G Q) 159 [(0, .ref (gAd G 98)), (1, .int x1), (2, .int v9), (3, .int x3)] [.int s10, .int (v9 - 1), .ref (gAd G 103)] h11 := by
              intro s10 h11 hw
              subst eJ159
              refine g_iast dX12_reckons_159 ia103 al103 hw.1 ?_
              have hw := hw.2
              refine g_heap (fun h12 eh12 => ?_)
              have hw := hw h12 eh12
              refine g_goto 193 dX12_reckons_160 rfl ?_
              exact hJ193 _ _ hw
            refine g_icmp_ne 151 dX12_reckons_139 rfl (fun hc => ?_) (fun hc => ?_)
            · have hw := hw.1 hc
              refine g_aload_n dX12_reckons_151 rfl rfl ?_
              refine g_getA dX12_reckons_152 fl_X12_30 sh98 rfl ?_
              refine g_iload_n dX12_reckons_155 rfl rfl ?_
              refine g_iconst (v := 1) dX12_reckons_156 (by decide) ?_
              refine g_iadd dX12_reckons_157 ?_
              refine g_iald dX12_reckons_158 ia103 al103 hw.1 ?_
              have hw := hw.2
              refine g_lv [0, 1, 2, 3] rfl ?_
              exact hJ159 _ _ hw
            · have hw := hw.2 hc
              refine g_aload_n dX12_reckons_142 rfl rfl ?_
              refine g_getA dX12_reckons_143 fl_X12_30 sh98 rfl ?_
              refine g_iload_n dX12_reckons_146 rfl rfl ?_
              refine g_iald dX12_reckons_147 ia103 al103 hw.1 ?_
              have hw := hw.2
              refine g_goto 159 dX12_reckons_148 rfl ?_
              refine g_lv [0, 1, 2, 3] rfl ?_
              exact hJ159 _ _ hw
        · have hw := hw.2 hc
          refine g_aload_n dX12_reckons_91 rfl rfl ?_
          refine g_getA dX12_reckons_92 fl_X12_30 sh98 rfl ?_
          refine g_iload_n dX12_reckons_95 rfl rfl ?_
          refine g_iconst (v := 1) dX12_reckons_96 (by decide) ?_
          refine g_isub dX12_reckons_97 ?_
          refine g_iconst (v := 1) dX12_reckons_98 (by decide) ?_
          refine g_aload_n dX12_reckons_99 rfl rfl ?_
          refine g_getA dX12_reckons_100 fl_X12_30 sh98 rfl ?_
          refine g_iload_n dX12_reckons_103 rfl rfl ?_
          refine g_iconst (v := 1) dX12_reckons_104 (by decide) ?_
          refine g_isub dX12_reckons_105 ?_
          refine g_iald dX12_reckons_106 ia103 al103 hw.1 ?_
          have hw := hw.2
          refine g_isub dX12_reckons_107 ?_
          refine g_iast dX12_reckons_108 ia103 al103 hw.1 ?_
          have hw := hw.2
          refine g_heap (fun h13 eh13 => ?_)
          have hw := hw h13 eh13
          refine g_goto 193 dX12_reckons_109 rfl ?_
          refine g_lv [0, 1, 2, 3] rfl ?_
          exact hJ193 _ _ hw
      · have hw := hw.2 hc
        refine g_aload_n dX12_reckons_47 rfl rfl ?_
        refine g_getA dX12_reckons_48 fl_X12_30 sh98 rfl ?_
        refine g_iload_n dX12_reckons_51 rfl rfl ?_
        refine g_iload dX12_reckons_52 rfl ?_
        refine g_sipush (v := 1000) dX12_reckons_54 (by decide) ?_
        refine jn_el hw (fun J76 eJ76 hw => ?_)
        have hJ76 : ∀ (s14 : Int32) (h15 : Hp), J76 s14 h15 → Go cX12_reckons 5 RX12 (some .int) 2 G (QI G Q) 76 [(0, .ref (gAd G 98)), (1, .int x1), (2, .int x2), (3, .int x3)] [.int s14, .int x2, .ref (gAd G 103)] h15 := by
          intro s14 h15 hw
          subst eJ76
          refine g_iast dX12_reckons_76 ia103 al103 hw.1 ?_
          have hw := hw.2
          refine g_heap (fun h16 eh16 => ?_)
          have hw := hw h16 eh16
          obtain ⟨v17, ev17⟩ : ∃ y : Int32, y = (x2 + 1) := ⟨_, rfl⟩
          have hw := hw v17 ev17
          refine g_iinc dX12_reckons_77 rfl (by rw [ev17]; rfl) (by decide) (lv1 := [(0, .ref (gAd G 98)), (1, .int x1), (2, .int v17), (3, .int x3)]) rfl ?_
          refine g_goto 193 dX12_reckons_80 rfl ?_
          exact hJ193 _ _ hw
        refine g_icmp_ge 65 dX12_reckons_57 rfl (fun hc => ?_) (fun hc => ?_)
        · have hw := hw.1 hc
          refine g_aload_n dX12_reckons_65 rfl rfl ?_
          refine g_getA dX12_reckons_66 fl_X12_33 sh98 rfl ?_
          refine g_iload dX12_reckons_69 rfl ?_
          refine g_sipush (v := 1000) dX12_reckons_71 (by decide) ?_
          refine g_isub dX12_reckons_74 ?_
          refine g_iald dX12_reckons_75 ia104 al104 hw.1 ?_
          have hw := hw.2
          refine g_lv [0, 1, 2, 3] rfl ?_
          exact hJ76 _ _ hw
        · have hw := hw.2 hc
          refine g_iload dX12_reckons_60 rfl ?_
          refine g_goto 76 dX12_reckons_62 rfl ?_
          refine g_lv [0, 1, 2, 3] rfl ?_
          exact hJ76 _ _ hw
def M_reckons (x1 : Int32) (h : Hp) (Q : Int32 → Hp → Prop) : Prop := ∃ n18, M_reckons_L4 x1 Q n18 0 0 h
set_option maxHeartbeats 4000000 in
set_option maxRecDepth 20000 in
theorem c_M_reckons {G : Gx}  {x1 : Int32} {h : Hp} {Q : Int32 → Hp → Prop} (hw : M_reckons x1 h Q) : Ct yX12_reckons cX12_reckons 5 (some .int) 2 G [.ref (gAd G 98), .int x1] h (QI G Q) := by
  refine ct_go [(0, .ref (gAd G 98)), (1, .int x1)] (plainFor_of_name (by decide)) rfl (Nat.le_of_ble_eq_true rfl) rfl ?_
  refine g_iconst (v := 0) dX12_reckons_0 (by decide) ?_
  refine g_istore_n dX12_reckons_1 rfl (by decide) (lv1 := [(0, .ref (gAd G 98)), (1, .int x1), (2, .int 0)]) rfl ?_
  refine g_iconst (v := 0) dX12_reckons_2 (by decide) ?_
  refine g_istore_n dX12_reckons_3 rfl (by decide) (lv1 := [(0, .ref (gAd G 98)), (1, .int x1), (2, .int 0), (3, .int 0)]) rfl ?_
  obtain ⟨n18, hw⟩ := hw
  refine gl_M_reckons_L4   _ _ _ _ hw
theorem dX12_payBy_0 : decode cX12_payBy 0 = .ok (.aload_n 0, 1) := by decide +kernel
theorem dX12_payBy_1 : decode cX12_payBy 1 = .ok (.iload_n 1, 1) := by decide +kernel
theorem dX12_payBy_2 : decode cX12_payBy 2 = .ok (.iload_n 2, 1) := by decide +kernel
theorem dX12_payBy_3 : decode cX12_payBy 3 = .ok (.invokevirtual 240, 3) := by decide +kernel
theorem dX12_payBy_6 : decode cX12_payBy 6 = .ok (.aload_n 0, 1) := by decide +kernel
theorem dX12_payBy_7 : decode cX12_payBy 7 = .ok (.getfield 13, 3) := by decide +kernel
theorem dX12_payBy_10 : decode cX12_payBy 10 = .ok (.iconst 4, 1) := by decide +kernel
theorem dX12_payBy_11 : decode cX12_payBy 11 = .ok (.iaload, 1) := by decide +kernel
theorem dX12_payBy_12 : decode cX12_payBy 12 = .ok (.iconst 1, 1) := by decide +kernel
theorem dX12_payBy_13 : decode cX12_payBy 13 = .ok (.if_icmp .ne 11, 3) := by decide +kernel
theorem dX12_payBy_16 : decode cX12_payBy 16 = .ok (.aload_n 0, 1) := by decide +kernel
theorem dX12_payBy_17 : decode cX12_payBy 17 = .ok (.iconst 0, 1) := by decide +kernel
theorem dX12_payBy_18 : decode cX12_payBy 18 = .ok (.invokevirtual 244, 3) := by decide +kernel
theorem dX12_payBy_21 : decode cX12_payBy 21 = .ok (.goto 12, 3) := by decide +kernel
theorem dX12_payBy_24 : decode cX12_payBy 24 = .ok (.aload_n 0, 1) := by decide +kernel
theorem dX12_payBy_25 : decode cX12_payBy 25 = .ok (.getfield 13, 3) := by decide +kernel
theorem dX12_payBy_28 : decode cX12_payBy 28 = .ok (.bipush 42, 2) := by decide +kernel
theorem dX12_payBy_30 : decode cX12_payBy 30 = .ok (.iload_n 1, 1) := by decide +kernel
theorem dX12_payBy_31 : decode cX12_payBy 31 = .ok (.iadd, 1) := by decide +kernel
theorem dX12_payBy_32 : decode cX12_payBy 32 = .ok (.iaload, 1) := by decide +kernel
theorem dX12_payBy_33 : decode cX12_payBy 33 = .ok (.istore_n 3, 1) := by decide +kernel
theorem dX12_payBy_34 : decode cX12_payBy 34 = .ok (.iload_n 3, 1) := by decide +kernel
theorem dX12_payBy_35 : decode cX12_payBy 35 = .ok (.bipush (-99), 2) := by decide +kernel
theorem dX12_payBy_37 : decode cX12_payBy 37 = .ok (.if_icmp .ge 8, 3) := by decide +kernel
theorem dX12_payBy_40 : decode cX12_payBy 40 = .ok (.bipush (-99), 2) := by decide +kernel
theorem dX12_payBy_42 : decode cX12_payBy 42 = .ok (.goto 15, 3) := by decide +kernel
theorem dX12_payBy_45 : decode cX12_payBy 45 = .ok (.iload_n 3, 1) := by decide +kernel
theorem dX12_payBy_46 : decode cX12_payBy 46 = .ok (.bipush 99, 2) := by decide +kernel
theorem dX12_payBy_48 : decode cX12_payBy 48 = .ok (.if_icmp .le 8, 3) := by decide +kernel
theorem dX12_payBy_51 : decode cX12_payBy 51 = .ok (.bipush 99, 2) := by decide +kernel
theorem dX12_payBy_53 : decode cX12_payBy 53 = .ok (.goto 4, 3) := by decide +kernel
theorem dX12_payBy_56 : decode cX12_payBy 56 = .ok (.iload_n 3, 1) := by decide +kernel
theorem dX12_payBy_57 : decode cX12_payBy 57 = .ok (.ireturn, 1) := by decide +kernel
theorem ml_X12_240 : Cond.methodLink RX12 240 yX12_laysWords ∈ Wd := mW 1650 (by decide +kernel) rfl
theorem mk_X12_laysWords : MokV yX12_laysWords cX12_laysWords 3 none 2 := ⟨⟨mW 14 (by decide +kernel) rfl, mW 1653 (by decide +kernel) rfl, ⟨by decide, by decide, by decide +kernel⟩, by decide⟩, mW 1652 (by decide +kernel) rfl, mS (q := (yX12_laysWords, 46)) 73 (by decide +kernel)⟩
theorem ml_X12_244 : Cond.methodLink RX12 244 yX12_reckons ∈ Wd := mW 1654 (by decide +kernel) rfl
theorem mk_X12_reckons : MokV yX12_reckons cX12_reckons 5 (some .int) 1 := ⟨⟨mW 14 (by decide +kernel) rfl, mW 1657 (by decide +kernel) rfl, ⟨by decide, by decide, by decide +kernel⟩, by decide⟩, mW 1656 (by decide +kernel) rfl, mS (q := (yX12_reckons, 46)) 74 (by decide +kernel)⟩
def M_payBy (x1 : Int32) (x2 : Int32) (h : Hp) (Q : Int32 → Hp → Prop) : Prop := M_laysWords x1 x2 h (fun h1 => ∀ J33 : Int32 → Hp → Prop, J33 = (fun s2 h3 => ((-99) ≤ s2 → (s2 ≤ 99 → Q s2 h3) ∧ (¬ s2 ≤ 99 → Q 99 h3)) ∧ (¬ (-99) ≤ s2 → Q (-99) h3)) → (¬ (gI h1 99 4) = 1 → vp_in ((42 : Int32) + x1) 3276 ∧ J33 (gI h1 99 (((42 : Int32) + x1)).toNatClampNeg) h1) ∧ ((gI h1 99 4) = 1 → M_reckons 0 h1 (fun r4 h5 => J33 r4 h5)))
set_option maxHeartbeats 4000000 in
set_option maxRecDepth 20000 in
theorem c_M_payBy {G : Gx}  {x1 : Int32} {x2 : Int32} {h : Hp} {Q : Int32 → Hp → Prop} (hw : M_payBy x1 x2 h Q) : Ct yX12_payBy cX12_payBy 4 (some .int) 3 G [.ref (gAd G 98), .int x1, .int x2] h (QI G Q) := by
  refine ct_go [(0, .ref (gAd G 98)), (1, .int x1), (2, .int x2)] (plainFor_of_name (by decide)) rfl (Nat.le_of_ble_eq_true rfl) rfl ?_
  refine g_aload_n dX12_payBy_0 rfl rfl ?_
  refine g_iload_n dX12_payBy_1 rfl rfl ?_
  refine g_iload_n dX12_payBy_2 rfl rfl ?_
  refine g_callVV [.int x1, .int x2] (ci := 12) dX12_payBy_3 ml_X12_240 mk_X12_laysWords rfl rfl sh98 (Nat.le_of_ble_eq_true rfl) (Nat.le_of_ble_eq_true rfl) rfl (c_M_laysWords hw) (fun h1 hw => ?_)
  refine g_aload_n dX12_payBy_6 rfl rfl ?_
  refine g_getA dX12_payBy_7 fl_X12_13 sh98 rfl ?_
  refine g_iconst (v := 4) dX12_payBy_10 (by decide) ?_
  refine g_ialdK dX12_payBy_11 ia99 al99 (by unfold vp_in; decide) (k := 4) (by decide) ?_
  refine g_iconst (v := 1) dX12_payBy_12 (by decide) ?_
  refine jn_el hw (fun J33 eJ33 hw => ?_)
  have hJ33 : ∀ (s2 : Int32) (h3 : Hp), J33 s2 h3 → Go cX12_payBy 4 RX12 (some .int) 3 G (QI G Q) 33 [] [.int s2] h3 := by
    intro s2 h3 hw
    subst eJ33
    refine g_istore_n dX12_payBy_33 rfl (by decide) (lv1 := [(3, .int s2)]) rfl ?_
    refine g_iload_n dX12_payBy_34 rfl rfl ?_
    refine g_bipush (v := (-99)) dX12_payBy_35 (by decide) ?_
    refine g_icmp_ge 45 dX12_payBy_37 rfl (fun hc => ?_) (fun hc => ?_)
    · have hw := hw.1 hc
      refine g_iload_n dX12_payBy_45 rfl rfl ?_
      refine g_bipush (v := 99) dX12_payBy_46 (by decide) ?_
      refine g_icmp_le 56 dX12_payBy_48 rfl (fun hc => ?_) (fun hc => ?_)
      · have hw := hw.1 hc
        refine g_iload_n dX12_payBy_56 rfl rfl ?_
        exact g_iret dX12_payBy_57 hw
      · have hw := hw.2 hc
        refine g_bipush (v := 99) dX12_payBy_51 (by decide) ?_
        refine g_goto 57 dX12_payBy_53 rfl ?_
        exact g_iret dX12_payBy_57 hw
    · have hw := hw.2 hc
      refine g_bipush (v := (-99)) dX12_payBy_40 (by decide) ?_
      refine g_goto 57 dX12_payBy_42 rfl ?_
      exact g_iret dX12_payBy_57 hw
  refine g_icmp_ne 24 dX12_payBy_13 rfl (fun hc => ?_) (fun hc => ?_)
  · have hw := hw.1 hc
    refine g_aload_n dX12_payBy_24 rfl rfl ?_
    refine g_getA dX12_payBy_25 fl_X12_13 sh98 rfl ?_
    refine g_bipush (v := 42) dX12_payBy_28 (by decide) ?_
    refine g_iload_n dX12_payBy_30 rfl rfl ?_
    refine g_iadd dX12_payBy_31 ?_
    refine g_iald dX12_payBy_32 ia99 al99 hw.1 ?_
    have hw := hw.2
    refine g_lv [] rfl ?_
    exact hJ33 _ _ hw
  · have hw := hw.2 hc
    refine g_aload_n dX12_payBy_16 rfl rfl ?_
    refine g_iconst (v := 0) dX12_payBy_17 (by decide) ?_
    refine g_callVI [.int 0] (ci := 12) dX12_payBy_18 ml_X12_244 mk_X12_reckons rfl rfl sh98 (Nat.le_of_ble_eq_true rfl) (Nat.le_of_ble_eq_true rfl) rfl (c_M_reckons hw) (fun r4 h5 hw => ?_)
    refine g_goto 33 dX12_payBy_21 rfl ?_
    refine g_lv [] rfl ?_
    exact hJ33 _ _ hw
theorem dX12_isOpen_0 : decode cX12_isOpen 0 = .ok (.aload_n 0, 1) := by decide +kernel
theorem dX12_isOpen_1 : decode cX12_isOpen 1 = .ok (.iload_n 1, 1) := by decide +kernel
theorem dX12_isOpen_2 : decode cX12_isOpen 2 = .ok (.aload_n 0, 1) := by decide +kernel
theorem dX12_isOpen_3 : decode cX12_isOpen 3 = .ok (.getfield 13, 3) := by decide +kernel
theorem dX12_isOpen_6 : decode cX12_isOpen 6 = .ok (.bipush 61, 2) := by decide +kernel
theorem dX12_isOpen_8 : decode cX12_isOpen 8 = .ok (.iaload, 1) := by decide +kernel
theorem dX12_isOpen_9 : decode cX12_isOpen 9 = .ok (.invokevirtual 240, 3) := by decide +kernel
theorem dX12_isOpen_12 : decode cX12_isOpen 12 = .ok (.aload_n 0, 1) := by decide +kernel
theorem dX12_isOpen_13 : decode cX12_isOpen 13 = .ok (.getfield 13, 3) := by decide +kernel
theorem dX12_isOpen_16 : decode cX12_isOpen 16 = .ok (.iconst 5, 1) := by decide +kernel
theorem dX12_isOpen_17 : decode cX12_isOpen 17 = .ok (.iaload, 1) := by decide +kernel
theorem dX12_isOpen_18 : decode cX12_isOpen 18 = .ok (.ifCond .eq 12, 3) := by decide +kernel
theorem dX12_isOpen_21 : decode cX12_isOpen 21 = .ok (.aload_n 0, 1) := by decide +kernel
theorem dX12_isOpen_22 : decode cX12_isOpen 22 = .ok (.iconst 1, 1) := by decide +kernel
theorem dX12_isOpen_23 : decode cX12_isOpen 23 = .ok (.invokevirtual 244, 3) := by decide +kernel
theorem dX12_isOpen_26 : decode cX12_isOpen 26 = .ok (.iconst 1, 1) := by decide +kernel
theorem dX12_isOpen_27 : decode cX12_isOpen 27 = .ok (.if_icmp .ne 7, 3) := by decide +kernel
theorem dX12_isOpen_30 : decode cX12_isOpen 30 = .ok (.iconst 1, 1) := by decide +kernel
theorem dX12_isOpen_31 : decode cX12_isOpen 31 = .ok (.goto 4, 3) := by decide +kernel
theorem dX12_isOpen_34 : decode cX12_isOpen 34 = .ok (.iconst 0, 1) := by decide +kernel
theorem dX12_isOpen_35 : decode cX12_isOpen 35 = .ok (.ireturn, 1) := by decide +kernel
def M_isOpen (x1 : Int32) (h : Hp) (Q : Int32 → Hp → Prop) : Prop := M_laysWords x1 (gI h 99 61) h (fun h1 => ∀ J30 : Hp → Prop, J30 = (fun h2 => Q 1 h2) → ((gI h1 99 5) = 0 → J30 h1) ∧ (¬ (gI h1 99 5) = 0 → M_reckons 1 h1 (fun r3 h4 => (¬ r3 = 1 → Q 0 h4) ∧ (r3 = 1 → J30 h4))))
set_option maxHeartbeats 4000000 in
set_option maxRecDepth 20000 in
theorem c_M_isOpen {G : Gx}  {x1 : Int32} {h : Hp} {Q : Int32 → Hp → Prop} (hw : M_isOpen x1 h Q) : Ct yX12_isOpen cX12_isOpen 2 (some .boolean) 3 G [.ref (gAd G 98), .int x1] h (QI G Q) := by
  refine ct_go [(0, .ref (gAd G 98)), (1, .int x1)] (plainFor_of_name (by decide)) rfl (Nat.le_of_ble_eq_true rfl) rfl ?_
  refine g_aload_n dX12_isOpen_0 rfl rfl ?_
  refine g_iload_n dX12_isOpen_1 rfl rfl ?_
  refine g_aload_n dX12_isOpen_2 rfl rfl ?_
  refine g_getA dX12_isOpen_3 fl_X12_13 sh98 rfl ?_
  refine g_bipush (v := 61) dX12_isOpen_6 (by decide) ?_
  refine g_ialdK dX12_isOpen_8 ia99 al99 (by unfold vp_in; decide) (k := 61) (by decide) ?_
  refine g_callVV [.int x1, .int (gI h 99 61)] (ci := 12) dX12_isOpen_9 ml_X12_240 mk_X12_laysWords rfl rfl sh98 (Nat.le_of_ble_eq_true rfl) (Nat.le_of_ble_eq_true rfl) rfl (c_M_laysWords hw) (fun h1 hw => ?_)
  refine g_aload_n dX12_isOpen_12 rfl rfl ?_
  refine g_getA dX12_isOpen_13 fl_X12_13 sh98 rfl ?_
  refine g_iconst (v := 5) dX12_isOpen_16 (by decide) ?_
  refine g_ialdK dX12_isOpen_17 ia99 al99 (by unfold vp_in; decide) (k := 5) (by decide) ?_
  refine jn_el hw (fun J30 eJ30 hw => ?_)
  have hJ30 : ∀ (h2 : Hp), J30 h2 → Go cX12_isOpen 2 RX12 (some .boolean) 3 G (QI G Q) 30 [] [] h2 := by
    intro h2 hw
    subst eJ30
    refine g_iconst (v := 1) dX12_isOpen_30 (by decide) ?_
    refine g_goto 35 dX12_isOpen_31 rfl ?_
    exact g_zret dX12_isOpen_35 rfl hw
  refine g_if_eq 30 dX12_isOpen_18 rfl (fun hc => ?_) (fun hc => ?_)
  · have hw := hw.1 hc
    refine g_lv [] rfl ?_
    exact hJ30 _ hw
  · have hw := hw.2 hc
    refine g_aload_n dX12_isOpen_21 rfl rfl ?_
    refine g_iconst (v := 1) dX12_isOpen_22 (by decide) ?_
    refine g_callVI [.int 1] (ci := 12) dX12_isOpen_23 ml_X12_244 mk_X12_reckons rfl rfl sh98 (Nat.le_of_ble_eq_true rfl) (Nat.le_of_ble_eq_true rfl) rfl (c_M_reckons hw) (fun r3 h4 hw => ?_)
    refine g_iconst (v := 1) dX12_isOpen_26 (by decide) ?_
    refine g_icmp_ne 34 dX12_isOpen_27 rfl (fun hc => ?_) (fun hc => ?_)
    · have hw := hw.1 hc
      refine g_iconst (v := 0) dX12_isOpen_34 (by decide) ?_
      exact g_zret dX12_isOpen_35 rfl hw
    · have hw := hw.2 hc
      refine g_lv [] rfl ?_
      exact hJ30 _ hw
theorem dX12_laysWays_0 : decode cX12_laysWays 0 = .ok (.iconst 0, 1) := by decide +kernel
theorem dX12_laysWays_1 : decode cX12_laysWays 1 = .ok (.istore_n 1, 1) := by decide +kernel
theorem dX12_laysWays_2 : decode cX12_laysWays 2 = .ok (.iload_n 1, 1) := by decide +kernel
theorem dX12_laysWays_3 : decode cX12_laysWays 3 = .ok (.bipush 8, 2) := by decide +kernel
theorem dX12_laysWays_5 : decode cX12_laysWays 5 = .ok (.if_icmp .ge 16, 3) := by decide +kernel
theorem dX12_laysWays_8 : decode cX12_laysWays 8 = .ok (.aload_n 0, 1) := by decide +kernel
theorem dX12_laysWays_9 : decode cX12_laysWays 9 = .ok (.getfield 45, 3) := by decide +kernel
theorem dX12_laysWays_12 : decode cX12_laysWays 12 = .ok (.iload_n 1, 1) := by decide +kernel
theorem dX12_laysWays_13 : decode cX12_laysWays 13 = .ok (.iconst 0, 1) := by decide +kernel
theorem dX12_laysWays_14 : decode cX12_laysWays 14 = .ok (.iastore, 1) := by decide +kernel
theorem dX12_laysWays_15 : decode cX12_laysWays 15 = .ok (.iinc 1 1, 3) := by decide +kernel
theorem dX12_laysWays_18 : decode cX12_laysWays 18 = .ok (.goto (-16), 3) := by decide +kernel
theorem dX12_laysWays_21 : decode cX12_laysWays 21 = .ok (.iconst 0, 1) := by decide +kernel
theorem dX12_laysWays_22 : decode cX12_laysWays 22 = .ok (.istore_n 1, 1) := by decide +kernel
theorem dX12_laysWays_23 : decode cX12_laysWays 23 = .ok (.iload_n 1, 1) := by decide +kernel
theorem dX12_laysWays_24 : decode cX12_laysWays 24 = .ok (.aload_n 0, 1) := by decide +kernel
theorem dX12_laysWays_25 : decode cX12_laysWays 25 = .ok (.getfield 13, 3) := by decide +kernel
theorem dX12_laysWays_28 : decode cX12_laysWays 28 = .ok (.iconst 2, 1) := by decide +kernel
theorem dX12_laysWays_29 : decode cX12_laysWays 29 = .ok (.iaload, 1) := by decide +kernel
theorem dX12_laysWays_30 : decode cX12_laysWays 30 = .ok (.if_icmp .ge 86, 3) := by decide +kernel
theorem dX12_laysWays_33 : decode cX12_laysWays 33 = .ok (.aload_n 0, 1) := by decide +kernel
theorem dX12_laysWays_34 : decode cX12_laysWays 34 = .ok (.getfield 36, 3) := by decide +kernel
theorem dX12_laysWays_37 : decode cX12_laysWays 37 = .ok (.iload_n 1, 1) := by decide +kernel
theorem dX12_laysWays_38 : decode cX12_laysWays 38 = .ok (.aload_n 0, 1) := by decide +kernel
theorem dX12_laysWays_39 : decode cX12_laysWays 39 = .ok (.getfield 13, 3) := by decide +kernel
theorem dX12_laysWays_42 : decode cX12_laysWays 42 = .ok (.bipush 10, 2) := by decide +kernel
theorem dX12_laysWays_44 : decode cX12_laysWays 44 = .ok (.iload_n 1, 1) := by decide +kernel
theorem dX12_laysWays_45 : decode cX12_laysWays 45 = .ok (.iadd, 1) := by decide +kernel
theorem dX12_laysWays_46 : decode cX12_laysWays 46 = .ok (.iaload, 1) := by decide +kernel
theorem dX12_laysWays_47 : decode cX12_laysWays 47 = .ok (.iastore, 1) := by decide +kernel
theorem dX12_laysWays_48 : decode cX12_laysWays 48 = .ok (.aload_n 0, 1) := by decide +kernel
theorem dX12_laysWays_49 : decode cX12_laysWays 49 = .ok (.getfield 39, 3) := by decide +kernel
theorem dX12_laysWays_52 : decode cX12_laysWays 52 = .ok (.iload_n 1, 1) := by decide +kernel
theorem dX12_laysWays_53 : decode cX12_laysWays 53 = .ok (.aload_n 0, 1) := by decide +kernel
theorem dX12_laysWays_54 : decode cX12_laysWays 54 = .ok (.getfield 13, 3) := by decide +kernel
theorem dX12_laysWays_57 : decode cX12_laysWays 57 = .ok (.bipush 26, 2) := by decide +kernel
theorem dX12_laysWays_59 : decode cX12_laysWays 59 = .ok (.iload_n 1, 1) := by decide +kernel
theorem dX12_laysWays_60 : decode cX12_laysWays 60 = .ok (.iadd, 1) := by decide +kernel
theorem dX12_laysWays_61 : decode cX12_laysWays 61 = .ok (.iaload, 1) := by decide +kernel
theorem dX12_laysWays_62 : decode cX12_laysWays 62 = .ok (.iastore, 1) := by decide +kernel
theorem dX12_laysWays_63 : decode cX12_laysWays 63 = .ok (.aload_n 0, 1) := by decide +kernel
theorem dX12_laysWays_64 : decode cX12_laysWays 64 = .ok (.getfield 42, 3) := by decide +kernel
theorem dX12_laysWays_67 : decode cX12_laysWays 67 = .ok (.iload_n 1, 1) := by decide +kernel
theorem dX12_laysWays_68 : decode cX12_laysWays 68 = .ok (.aload_n 0, 1) := by decide +kernel
theorem dX12_laysWays_69 : decode cX12_laysWays 69 = .ok (.iload_n 1, 1) := by decide +kernel
theorem dX12_laysWays_70 : decode cX12_laysWays 70 = .ok (.aload_n 0, 1) := by decide +kernel
theorem dX12_laysWays_71 : decode cX12_laysWays 71 = .ok (.getfield 13, 3) := by decide +kernel
theorem dX12_laysWays_74 : decode cX12_laysWays 74 = .ok (.bipush 61, 2) := by decide +kernel
theorem dX12_laysWays_76 : decode cX12_laysWays 76 = .ok (.iaload, 1) := by decide +kernel
theorem dX12_laysWays_77 : decode cX12_laysWays 77 = .ok (.invokevirtual 247, 3) := by decide +kernel
theorem dX12_laysWays_80 : decode cX12_laysWays 80 = .ok (.iastore, 1) := by decide +kernel
theorem dX12_laysWays_81 : decode cX12_laysWays 81 = .ok (.aload_n 0, 1) := by decide +kernel
theorem dX12_laysWays_82 : decode cX12_laysWays 82 = .ok (.getfield 45, 3) := by decide +kernel
theorem dX12_laysWays_85 : decode cX12_laysWays 85 = .ok (.aload_n 0, 1) := by decide +kernel
theorem dX12_laysWays_86 : decode cX12_laysWays 86 = .ok (.getfield 36, 3) := by decide +kernel
theorem dX12_laysWays_89 : decode cX12_laysWays 89 = .ok (.iload_n 1, 1) := by decide +kernel
theorem dX12_laysWays_90 : decode cX12_laysWays 90 = .ok (.iaload, 1) := by decide +kernel
theorem dX12_laysWays_91 : decode cX12_laysWays 91 = .ok (.dup2, 1) := by decide +kernel
theorem dX12_laysWays_92 : decode cX12_laysWays 92 = .ok (.iaload, 1) := by decide +kernel
theorem dX12_laysWays_93 : decode cX12_laysWays 93 = .ok (.aload_n 0, 1) := by decide +kernel
theorem dX12_laysWays_94 : decode cX12_laysWays 94 = .ok (.iload_n 1, 1) := by decide +kernel
theorem dX12_laysWays_95 : decode cX12_laysWays 95 = .ok (.invokevirtual 250, 3) := by decide +kernel
theorem dX12_laysWays_98 : decode cX12_laysWays 98 = .ok (.ifCond .eq 9, 3) := by decide +kernel
theorem dX12_laysWays_101 : decode cX12_laysWays 101 = .ok (.iconst 1, 1) := by decide +kernel
theorem dX12_laysWays_102 : decode cX12_laysWays 102 = .ok (.iload_n 1, 1) := by decide +kernel
theorem dX12_laysWays_103 : decode cX12_laysWays 103 = .ok (.ishl, 1) := by decide +kernel
theorem dX12_laysWays_104 : decode cX12_laysWays 104 = .ok (.goto 4, 3) := by decide +kernel
theorem dX12_laysWays_107 : decode cX12_laysWays 107 = .ok (.iconst 0, 1) := by decide +kernel
theorem dX12_laysWays_108 : decode cX12_laysWays 108 = .ok (.ior, 1) := by decide +kernel
theorem dX12_laysWays_109 : decode cX12_laysWays 109 = .ok (.iastore, 1) := by decide +kernel
theorem dX12_laysWays_110 : decode cX12_laysWays 110 = .ok (.iinc 1 1, 3) := by decide +kernel
theorem dX12_laysWays_113 : decode cX12_laysWays 113 = .ok (.goto (-90), 3) := by decide +kernel
theorem dX12_laysWays_116 : decode cX12_laysWays 116 = .ok (.iconst 0, 1) := by decide +kernel
theorem dX12_laysWays_117 : decode cX12_laysWays 117 = .ok (.istore_n 1, 1) := by decide +kernel
theorem dX12_laysWays_118 : decode cX12_laysWays 118 = .ok (.iload_n 1, 1) := by decide +kernel
theorem dX12_laysWays_119 : decode cX12_laysWays 119 = .ok (.aload_n 0, 1) := by decide +kernel
theorem dX12_laysWays_120 : decode cX12_laysWays 120 = .ok (.getfield 13, 3) := by decide +kernel
theorem dX12_laysWays_123 : decode cX12_laysWays 123 = .ok (.iconst 1, 1) := by decide +kernel
theorem dX12_laysWays_124 : decode cX12_laysWays 124 = .ok (.iaload, 1) := by decide +kernel
theorem dX12_laysWays_125 : decode cX12_laysWays 125 = .ok (.if_icmp .ge 60, 3) := by decide +kernel
theorem dX12_laysWays_128 : decode cX12_laysWays 128 = .ok (.aload_n 0, 1) := by decide +kernel
theorem dX12_laysWays_129 : decode cX12_laysWays 129 = .ok (.getfield 36, 3) := by decide +kernel
theorem dX12_laysWays_132 : decode cX12_laysWays 132 = .ok (.bipush 16, 2) := by decide +kernel
theorem dX12_laysWays_134 : decode cX12_laysWays 134 = .ok (.iload_n 1, 1) := by decide +kernel
theorem dX12_laysWays_135 : decode cX12_laysWays 135 = .ok (.iadd, 1) := by decide +kernel
theorem dX12_laysWays_136 : decode cX12_laysWays 136 = .ok (.iload_n 1, 1) := by decide +kernel
theorem dX12_laysWays_137 : decode cX12_laysWays 137 = .ok (.iastore, 1) := by decide +kernel
theorem dX12_laysWays_138 : decode cX12_laysWays 138 = .ok (.aload_n 0, 1) := by decide +kernel
theorem dX12_laysWays_139 : decode cX12_laysWays 139 = .ok (.getfield 39, 3) := by decide +kernel
theorem dX12_laysWays_142 : decode cX12_laysWays 142 = .ok (.bipush 16, 2) := by decide +kernel
theorem dX12_laysWays_144 : decode cX12_laysWays 144 = .ok (.iload_n 1, 1) := by decide +kernel
theorem dX12_laysWays_145 : decode cX12_laysWays 145 = .ok (.iadd, 1) := by decide +kernel
theorem dX12_laysWays_146 : decode cX12_laysWays 146 = .ok (.iload_n 1, 1) := by decide +kernel
theorem dX12_laysWays_147 : decode cX12_laysWays 147 = .ok (.iastore, 1) := by decide +kernel
theorem dX12_laysWays_148 : decode cX12_laysWays 148 = .ok (.aload_n 0, 1) := by decide +kernel
theorem dX12_laysWays_149 : decode cX12_laysWays 149 = .ok (.getfield 42, 3) := by decide +kernel
theorem dX12_laysWays_152 : decode cX12_laysWays 152 = .ok (.bipush 16, 2) := by decide +kernel
theorem dX12_laysWays_154 : decode cX12_laysWays 154 = .ok (.iload_n 1, 1) := by decide +kernel
theorem dX12_laysWays_155 : decode cX12_laysWays 155 = .ok (.iadd, 1) := by decide +kernel
theorem dX12_laysWays_156 : decode cX12_laysWays 156 = .ok (.iconst 0, 1) := by decide +kernel
theorem dX12_laysWays_157 : decode cX12_laysWays 157 = .ok (.iastore, 1) := by decide +kernel
theorem dX12_laysWays_158 : decode cX12_laysWays 158 = .ok (.aload_n 0, 1) := by decide +kernel
theorem dX12_laysWays_159 : decode cX12_laysWays 159 = .ok (.getfield 45, 3) := by decide +kernel
theorem dX12_laysWays_162 : decode cX12_laysWays 162 = .ok (.iload_n 1, 1) := by decide +kernel
theorem dX12_laysWays_163 : decode cX12_laysWays 163 = .ok (.iaload, 1) := by decide +kernel
theorem dX12_laysWays_164 : decode cX12_laysWays 164 = .ok (.ifCond .ne 15, 3) := by decide +kernel
theorem dX12_laysWays_167 : decode cX12_laysWays 167 = .ok (.aload_n 0, 1) := by decide +kernel
theorem dX12_laysWays_168 : decode cX12_laysWays 168 = .ok (.getfield 45, 3) := by decide +kernel
theorem dX12_laysWays_171 : decode cX12_laysWays 171 = .ok (.iload_n 1, 1) := by decide +kernel
theorem dX12_laysWays_172 : decode cX12_laysWays 172 = .ok (.iconst 1, 1) := by decide +kernel
theorem dX12_laysWays_173 : decode cX12_laysWays 173 = .ok (.bipush 16, 2) := by decide +kernel
theorem dX12_laysWays_175 : decode cX12_laysWays 175 = .ok (.iload_n 1, 1) := by decide +kernel
theorem dX12_laysWays_176 : decode cX12_laysWays 176 = .ok (.iadd, 1) := by decide +kernel
theorem dX12_laysWays_177 : decode cX12_laysWays 177 = .ok (.ishl, 1) := by decide +kernel
theorem dX12_laysWays_178 : decode cX12_laysWays 178 = .ok (.iastore, 1) := by decide +kernel
theorem dX12_laysWays_179 : decode cX12_laysWays 179 = .ok (.iinc 1 1, 3) := by decide +kernel
theorem dX12_laysWays_182 : decode cX12_laysWays 182 = .ok (.goto (-64), 3) := by decide +kernel
theorem dX12_laysWays_185 : decode cX12_laysWays 185 = .ok (.return_, 1) := by decide +kernel
theorem fl_X12_45 : FLk RX12 45 12 20 := ⟨_, rfl, by decide, mW 1402 (by decide +kernel) rfl⟩
theorem fl_X12_36 : FLk RX12 36 12 17 := ⟨_, rfl, by decide, mW 1399 (by decide +kernel) rfl⟩
theorem fl_X12_39 : FLk RX12 39 12 18 := ⟨_, rfl, by decide, mW 1400 (by decide +kernel) rfl⟩
theorem fl_X12_42 : FLk RX12 42 12 19 := ⟨_, rfl, by decide, mW 1401 (by decide +kernel) rfl⟩
theorem ml_X12_247 : Cond.methodLink RX12 247 yX12_payBy ∈ Wd := mW 1646 (by decide +kernel) rfl
theorem mk_X12_payBy : MokV yX12_payBy cX12_payBy 4 (some .int) 2 := ⟨⟨mW 14 (by decide +kernel) rfl, mW 1649 (by decide +kernel) rfl, ⟨by decide, by decide, by decide +kernel⟩, by decide⟩, mW 1648 (by decide +kernel) rfl, mS (q := (yX12_payBy, 46)) 72 (by decide +kernel)⟩
theorem ml_X12_250 : Cond.methodLink RX12 250 yX12_isOpen ∈ Wd := mW 1663 (by decide +kernel) rfl
theorem mk_X12_isOpen : MokV yX12_isOpen cX12_isOpen 2 (some .boolean) 1 := ⟨⟨mW 14 (by decide +kernel) rfl, mW 1666 (by decide +kernel) rfl, ⟨by decide, by decide, by decide +kernel⟩, by decide⟩, mW 1665 (by decide +kernel) rfl, mS (q := (yX12_isOpen, 46)) 75 (by decide +kernel)⟩
def M_laysWays_L2 (K21 : Hp → Prop) : Nat → Int32 → Hp → Prop
  | 0, _, _ => False
  | n + 1, x1, h => (8 ≤ x1 → K21 h) ∧ (¬ 8 ≤ x1 → vp_in x1 8 ∧ ∀ h1 : Hp, h1 = sI h 108 (x1).toNatClampNeg 0 → ∀ v2 : Int32, v2 = (x1 + 1) → M_laysWays_L2 K21 n v2 h1)
set_option maxHeartbeats 4000000 in
set_option maxRecDepth 20000 in
theorem gl_M_laysWays_L2 {G : Gx}  {Q : Hp → Prop} {K21 : Hp → Prop} (hK21 : ∀  (h1 : Hp), K21  h1 → Go cX12_laysWays 2 RX12 none 4 G (QV G Q) 21 [(0, .ref (gAd G 98))] [] h1) : ∀ (n : Nat) (x1 : Int32) (h : Hp), M_laysWays_L2 K21 n x1 h → Go cX12_laysWays 2 RX12 none 4 G (QV G Q) 2 [(0, .ref (gAd G 98)), (1, .int x1)] [] h := by
  intro n
  induction n with
  | zero => intro _ h hw; exact False.elim hw
  | succ n ih =>
    intro x1 h hw
    refine g_iload_n dX12_laysWays_2 rfl rfl ?_
    refine g_bipush (v := 8) dX12_laysWays_3 (by decide) ?_
    refine g_icmp_ge 21 dX12_laysWays_5 rfl (fun hc => ?_) (fun hc => ?_)
    · have hw := hw.1 hc
      refine g_lv [0] rfl ?_
      exact hK21 _ hw
    · have hw := hw.2 hc
      refine g_aload_n dX12_laysWays_8 rfl rfl ?_
      refine g_getA dX12_laysWays_9 fl_X12_45 sh98 rfl ?_
      refine g_iload_n dX12_laysWays_12 rfl rfl ?_
      refine g_iconst (v := 0) dX12_laysWays_13 (by decide) ?_
      refine g_iast dX12_laysWays_14 ia108 al108 hw.1 ?_
      have hw := hw.2
      refine g_heap (fun h1 eh1 => ?_)
      have hw := hw h1 eh1
      obtain ⟨v2, ev2⟩ : ∃ y : Int32, y = (x1 + 1) := ⟨_, rfl⟩
      have hw := hw v2 ev2
      refine g_iinc dX12_laysWays_15 rfl (by rw [ev2]; rfl) (by decide) (lv1 := [(0, .ref (gAd G 98)), (1, .int v2)]) rfl ?_
      refine g_goto 2 dX12_laysWays_18 rfl ?_
      exact ih _ _ hw
def M_laysWays_L23 (K116 : Hp → Prop) : Nat → Int32 → Hp → Prop
  | 0, _, _ => False
  | n + 1, x1, h => ((gI h 99 2) ≤ x1 → K116 h) ∧ (¬ (gI h 99 2) ≤ x1 → vp_in ((10 : Int32) + x1) 3276 ∧ vp_in x1 24 ∧ ∀ h5 : Hp, h5 = sI h 105 (x1).toNatClampNeg (gI h 99 (((10 : Int32) + x1)).toNatClampNeg) → vp_in ((26 : Int32) + x1) 3276 ∧ vp_in x1 24 ∧ ∀ h6 : Hp, h6 = sI h5 106 (x1).toNatClampNeg (gI h5 99 (((26 : Int32) + x1)).toNatClampNeg) → M_payBy x1 (gI h6 99 61) h6 (fun r7 h8 => vp_in x1 24 ∧ ∀ h9 : Hp, h9 = sI h8 107 (x1).toNatClampNeg r7 → vp_in x1 24 ∧ vp_in (gI h9 105 (x1).toNatClampNeg) 8 ∧ M_isOpen x1 h9 (fun r10 h11 => ∀ J108 : Int32 → Hp → Prop, J108 = (fun s12 h13 => vp_in (gI h9 105 (x1).toNatClampNeg) 8 ∧ ∀ h14 : Hp, h14 = sI h13 108 ((gI h9 105 (x1).toNatClampNeg)).toNatClampNeg ((gI h9 108 ((gI h9 105 (x1).toNatClampNeg)).toNatClampNeg) ||| s12) → ∀ v15 : Int32, v15 = (x1 + 1) → M_laysWays_L23 K116 n v15 h14) → (r10 = 0 → J108 0 h11) ∧ (¬ r10 = 0 → J108 ((1 : Int32) <<< (x1 &&& 31)) h11))))
set_option maxHeartbeats 4000000 in
set_option maxRecDepth 20000 in
theorem gl_M_laysWays_L23 {G : Gx}  {Q : Hp → Prop} {K116 : Hp → Prop} (hK116 : ∀  (h1 : Hp), K116  h1 → Go cX12_laysWays 2 RX12 none 4 G (QV G Q) 116 [(0, .ref (gAd G 98))] [] h1) : ∀ (n : Nat) (x1 : Int32) (h : Hp), M_laysWays_L23 K116 n x1 h → Go cX12_laysWays 2 RX12 none 4 G (QV G Q) 23 [(0, .ref (gAd G 98)), (1, .int x1)] [] h := by
  intro n
  induction n with
  | zero => intro _ h hw; exact False.elim hw
  | succ n ih =>
    intro x1 h hw
    refine g_iload_n dX12_laysWays_23 rfl rfl ?_
    refine g_aload_n dX12_laysWays_24 rfl rfl ?_
    refine g_getA dX12_laysWays_25 fl_X12_13 sh98 rfl ?_
    refine g_iconst (v := 2) dX12_laysWays_28 (by decide) ?_
    refine g_ialdK dX12_laysWays_29 ia99 al99 (by unfold vp_in; decide) (k := 2) (by decide) ?_
    refine g_icmp_ge 116 dX12_laysWays_30 rfl (fun hc => ?_) (fun hc => ?_)
    · have hw := hw.1 hc
      refine g_lv [0] rfl ?_
      exact hK116 _ hw
    · have hw := hw.2 hc
      refine g_aload_n dX12_laysWays_33 rfl rfl ?_
      refine g_getA dX12_laysWays_34 fl_X12_36 sh98 rfl ?_
      refine g_iload_n dX12_laysWays_37 rfl rfl ?_
      refine g_aload_n dX12_laysWays_38 rfl rfl ?_
      refine g_getA dX12_laysWays_39 fl_X12_13 sh98 rfl ?_
      refine g_bipush (v := 10) dX12_laysWays_42 (by decide) ?_
      refine g_iload_n dX12_laysWays_44 rfl rfl ?_
      refine g_iadd dX12_laysWays_45 ?_
      refine g_iald dX12_laysWays_46 ia99 al99 hw.1 ?_
      have hw := hw.2
      refine g_iast dX12_laysWays_47 ia105 al105 hw.1 ?_
      have hw := hw.2
      refine g_heap (fun h5 eh5 => ?_)
      have hw := hw h5 eh5
      refine g_aload_n dX12_laysWays_48 rfl rfl ?_
      refine g_getA dX12_laysWays_49 fl_X12_39 sh98 rfl ?_
      refine g_iload_n dX12_laysWays_52 rfl rfl ?_
      refine g_aload_n dX12_laysWays_53 rfl rfl ?_
      refine g_getA dX12_laysWays_54 fl_X12_13 sh98 rfl ?_
      refine g_bipush (v := 26) dX12_laysWays_57 (by decide) ?_
      refine g_iload_n dX12_laysWays_59 rfl rfl ?_
      refine g_iadd dX12_laysWays_60 ?_
      refine g_iald dX12_laysWays_61 ia99 al99 hw.1 ?_
      have hw := hw.2
      refine g_iast dX12_laysWays_62 ia106 al106 hw.1 ?_
      have hw := hw.2
      refine g_heap (fun h6 eh6 => ?_)
      have hw := hw h6 eh6
      refine g_aload_n dX12_laysWays_63 rfl rfl ?_
      refine g_getA dX12_laysWays_64 fl_X12_42 sh98 rfl ?_
      refine g_iload_n dX12_laysWays_67 rfl rfl ?_
      refine g_aload_n dX12_laysWays_68 rfl rfl ?_
      refine g_iload_n dX12_laysWays_69 rfl rfl ?_
      refine g_aload_n dX12_laysWays_70 rfl rfl ?_
      refine g_getA dX12_laysWays_71 fl_X12_13 sh98 rfl ?_
      refine g_bipush (v := 61) dX12_laysWays_74 (by decide) ?_
      refine g_ialdK dX12_laysWays_76 ia99 al99 (by unfold vp_in; decide) (k := 61) (by decide) ?_
      refine g_callVI [.int x1, .int (gI h6 99 61)] (ci := 12) dX12_laysWays_77 ml_X12_247 mk_X12_payBy rfl rfl sh98 (Nat.le_of_ble_eq_true rfl) (Nat.le_of_ble_eq_true rfl) rfl (c_M_payBy hw) (fun r7 h8 hw => ?_)
      refine g_iast dX12_laysWays_80 ia107 al107 hw.1 ?_
      have hw := hw.2
      refine g_heap (fun h9 eh9 => ?_)
      have hw := hw h9 eh9
      refine g_aload_n dX12_laysWays_81 rfl rfl ?_
      refine g_getA dX12_laysWays_82 fl_X12_45 sh98 rfl ?_
      refine g_aload_n dX12_laysWays_85 rfl rfl ?_
      refine g_getA dX12_laysWays_86 fl_X12_36 sh98 rfl ?_
      refine g_iload_n dX12_laysWays_89 rfl rfl ?_
      refine g_iald dX12_laysWays_90 ia105 al105 hw.1 ?_
      have hw := hw.2
      refine g_dup2_11 dX12_laysWays_91 rfl rfl ?_
      refine g_iald dX12_laysWays_92 ia108 al108 hw.1 ?_
      have hw := hw.2
      refine g_aload_n dX12_laysWays_93 rfl rfl ?_
      refine g_iload_n dX12_laysWays_94 rfl rfl ?_
      refine g_callVI [.int x1] (ci := 12) dX12_laysWays_95 ml_X12_250 mk_X12_isOpen rfl rfl sh98 (Nat.le_of_ble_eq_true rfl) (Nat.le_of_ble_eq_true rfl) rfl (c_M_isOpen hw) (fun r10 h11 hw => ?_)
      refine jn_el hw (fun J108 eJ108 hw => ?_)
      have hJ108 : ∀ (s12 : Int32) (h13 : Hp), J108 s12 h13 → Go cX12_laysWays 2 RX12 none 4 G (QV G Q) 108 [(0, .ref (gAd G 98)), (1, .int x1)] [.int s12, .int (gI h9 108 ((gI h9 105 (x1).toNatClampNeg)).toNatClampNeg), .int (gI h9 105 (x1).toNatClampNeg), .ref (gAd G 108)] h13 := by
        intro s12 h13 hw
        subst eJ108
        refine g_ior dX12_laysWays_108 ?_
        refine g_iast dX12_laysWays_109 ia108 al108 hw.1 ?_
        have hw := hw.2
        refine g_heap (fun h14 eh14 => ?_)
        have hw := hw h14 eh14
        obtain ⟨v15, ev15⟩ : ∃ y : Int32, y = (x1 + 1) := ⟨_, rfl⟩
        have hw := hw v15 ev15
        refine g_iinc dX12_laysWays_110 rfl (by rw [ev15]; rfl) (by decide) (lv1 := [(0, .ref (gAd G 98)), (1, .int v15)]) rfl ?_
        refine g_goto 23 dX12_laysWays_113 rfl ?_
        exact ih _ _ hw
      refine g_if_eq 107 dX12_laysWays_98 rfl (fun hc => ?_) (fun hc => ?_)
      · have hw := hw.1 hc
        refine g_iconst (v := 0) dX12_laysWays_107 (by decide) ?_
        exact hJ108 _ _ hw
      · have hw := hw.2 hc
        refine g_iconst (v := 1) dX12_laysWays_101 (by decide) ?_
        refine g_iload_n dX12_laysWays_102 rfl rfl ?_
        refine g_ishl dX12_laysWays_103 ?_
        refine g_goto 108 dX12_laysWays_104 rfl ?_
        exact hJ108 _ _ hw
def M_laysWays_L118 (Q : Hp → Prop) : Nat → Int32 → Hp → Prop
  | 0, _, _ => False
  | n + 1, x1, h => ((gI h 99 1) ≤ x1 → Q h) ∧ (¬ (gI h 99 1) ≤ x1 → vp_in ((16 : Int32) + x1) 24 ∧ ∀ h18 : Hp, h18 = sI h 105 (((16 : Int32) + x1)).toNatClampNeg x1 → vp_in ((16 : Int32) + x1) 24 ∧ ∀ h19 : Hp, h19 = sI h18 106 (((16 : Int32) + x1)).toNatClampNeg x1 → vp_in ((16 : Int32) + x1) 24 ∧ ∀ h20 : Hp, h20 = sI h19 107 (((16 : Int32) + x1)).toNatClampNeg 0 → vp_in x1 8 ∧ ∀ J179 : Hp → Prop, J179 = (fun h21 => ∀ v22 : Int32, v22 = (x1 + 1) → M_laysWays_L118 Q n v22 h21) → (¬ (gI h20 108 (x1).toNatClampNeg) = 0 → J179 h20) ∧ ((gI h20 108 (x1).toNatClampNeg) = 0 → vp_in x1 8 ∧ ∀ h23 : Hp, h23 = sI h20 108 (x1).toNatClampNeg ((1 : Int32) <<< (((16 : Int32) + x1) &&& 31)) → J179 h23))
set_option maxHeartbeats 4000000 in
set_option maxRecDepth 20000 in
theorem gl_M_laysWays_L118 {G : Gx}  {Q : Hp → Prop} : ∀ (n : Nat) (x1 : Int32) (h : Hp), M_laysWays_L118 Q n x1 h → Go cX12_laysWays 2 RX12 none 4 G (QV G Q) 118 [(0, .ref (gAd G 98)), (1, .int x1)] [] h := by
  intro n
  induction n with
  | zero => intro _ h hw; exact False.elim hw
  | succ n ih =>
    intro x1 h hw
    refine g_iload_n dX12_laysWays_118 rfl rfl ?_
    refine g_aload_n dX12_laysWays_119 rfl rfl ?_
    refine g_getA dX12_laysWays_120 fl_X12_13 sh98 rfl ?_
    refine g_iconst (v := 1) dX12_laysWays_123 (by decide) ?_
    refine g_ialdK dX12_laysWays_124 ia99 al99 (by unfold vp_in; decide) (k := 1) (by decide) ?_
    refine g_icmp_ge 185 dX12_laysWays_125 rfl (fun hc => ?_) (fun hc => ?_)
    · have hw := hw.1 hc
      exact g_vret dX12_laysWays_185 hw
    · have hw := hw.2 hc
      refine g_aload_n dX12_laysWays_128 rfl rfl ?_
      refine g_getA dX12_laysWays_129 fl_X12_36 sh98 rfl ?_
      refine g_bipush (v := 16) dX12_laysWays_132 (by decide) ?_
      refine g_iload_n dX12_laysWays_134 rfl rfl ?_
      refine g_iadd dX12_laysWays_135 ?_
      refine g_iload_n dX12_laysWays_136 rfl rfl ?_
      refine g_iast dX12_laysWays_137 ia105 al105 hw.1 ?_
      have hw := hw.2
      refine g_heap (fun h18 eh18 => ?_)
      have hw := hw h18 eh18
      refine g_aload_n dX12_laysWays_138 rfl rfl ?_
      refine g_getA dX12_laysWays_139 fl_X12_39 sh98 rfl ?_
      refine g_bipush (v := 16) dX12_laysWays_142 (by decide) ?_
      refine g_iload_n dX12_laysWays_144 rfl rfl ?_
      refine g_iadd dX12_laysWays_145 ?_
      refine g_iload_n dX12_laysWays_146 rfl rfl ?_
      refine g_iast dX12_laysWays_147 ia106 al106 hw.1 ?_
      have hw := hw.2
      refine g_heap (fun h19 eh19 => ?_)
      have hw := hw h19 eh19
      refine g_aload_n dX12_laysWays_148 rfl rfl ?_
      refine g_getA dX12_laysWays_149 fl_X12_42 sh98 rfl ?_
      refine g_bipush (v := 16) dX12_laysWays_152 (by decide) ?_
      refine g_iload_n dX12_laysWays_154 rfl rfl ?_
      refine g_iadd dX12_laysWays_155 ?_
      refine g_iconst (v := 0) dX12_laysWays_156 (by decide) ?_
      refine g_iast dX12_laysWays_157 ia107 al107 hw.1 ?_
      have hw := hw.2
      refine g_heap (fun h20 eh20 => ?_)
      have hw := hw h20 eh20
      refine g_aload_n dX12_laysWays_158 rfl rfl ?_
      refine g_getA dX12_laysWays_159 fl_X12_45 sh98 rfl ?_
      refine g_iload_n dX12_laysWays_162 rfl rfl ?_
      refine g_iald dX12_laysWays_163 ia108 al108 hw.1 ?_
      have hw := hw.2
      refine jn_el hw (fun J179 eJ179 hw => ?_)
      have hJ179 : ∀ (h21 : Hp), J179 h21 → Go cX12_laysWays 2 RX12 none 4 G (QV G Q) 179 [(0, .ref (gAd G 98)), (1, .int x1)] [] h21 := by
        intro h21 hw
        subst eJ179
        obtain ⟨v22, ev22⟩ : ∃ y : Int32, y = (x1 + 1) := ⟨_, rfl⟩
        have hw := hw v22 ev22
        refine g_iinc dX12_laysWays_179 rfl (by rw [ev22]; rfl) (by decide) (lv1 := [(0, .ref (gAd G 98)), (1, .int v22)]) rfl ?_
        refine g_goto 118 dX12_laysWays_182 rfl ?_
        exact ih _ _ hw
      refine g_if_ne 179 dX12_laysWays_164 rfl (fun hc => ?_) (fun hc => ?_)
      · have hw := hw.1 hc
        exact hJ179 _ hw
      · have hw := hw.2 hc
        refine g_aload_n dX12_laysWays_167 rfl rfl ?_
        refine g_getA dX12_laysWays_168 fl_X12_45 sh98 rfl ?_
        refine g_iload_n dX12_laysWays_171 rfl rfl ?_
        refine g_iconst (v := 1) dX12_laysWays_172 (by decide) ?_
        refine g_bipush (v := 16) dX12_laysWays_173 (by decide) ?_
        refine g_iload_n dX12_laysWays_175 rfl rfl ?_
        refine g_iadd dX12_laysWays_176 ?_
        refine g_ishl dX12_laysWays_177 ?_
        refine g_iast dX12_laysWays_178 ia108 al108 hw.1 ?_
        have hw := hw.2
        refine g_heap (fun h23 eh23 => ?_)
        have hw := hw h23 eh23
        exact hJ179 _ hw
def M_laysWays  (h : Hp) (Q : Hp → Prop) : Prop := ∃ n3, M_laysWays_L2 (fun h4 => ∃ n16, M_laysWays_L23 (fun h17 => ∃ n24, M_laysWays_L118 Q n24 0 h17) n16 0 h4) n3 0 h
set_option maxHeartbeats 4000000 in
set_option maxRecDepth 20000 in
theorem c_M_laysWays {G : Gx}   {h : Hp} {Q : Hp → Prop} (hw : M_laysWays  h Q) : Ct yX12_laysWays cX12_laysWays 2 none 4 G [.ref (gAd G 98)] h (QV G Q) := by
  refine ct_go [(0, .ref (gAd G 98))] (plainFor_of_name (by decide)) rfl (Nat.le_of_ble_eq_true rfl) rfl ?_
  refine g_iconst (v := 0) dX12_laysWays_0 (by decide) ?_
  refine g_istore_n dX12_laysWays_1 rfl (by decide) (lv1 := [(0, .ref (gAd G 98)), (1, .int 0)]) rfl ?_
  obtain ⟨n3, hw⟩ := hw
  refine gl_M_laysWays_L2  ?_ _ _ _ hw
  · intro h4 hw
    refine g_iconst (v := 0) dX12_laysWays_21 (by decide) ?_
    refine g_istore_n dX12_laysWays_22 rfl (by decide) (lv1 := [(0, .ref (gAd G 98)), (1, .int 0)]) rfl ?_
    obtain ⟨n16, hw⟩ := hw
    refine gl_M_laysWays_L23  ?_ _ _ _ hw
    · intro h17 hw
      refine g_iconst (v := 0) dX12_laysWays_116 (by decide) ?_
      refine g_istore_n dX12_laysWays_117 rfl (by decide) (lv1 := [(0, .ref (gAd G 98)), (1, .int 0)]) rfl ?_
      obtain ⟨n24, hw⟩ := hw
      refine gl_M_laysWays_L118   _ _ _ hw
theorem dX12_isIn_0 : decode cX12_isIn 0 = .ok (.lload_n 0, 1) := by decide +kernel
theorem dX12_isIn_1 : decode cX12_isIn 1 = .ok (.iload_n 2, 1) := by decide +kernel
theorem dX12_isIn_2 : decode cX12_isIn 2 = .ok (.lshr, 1) := by decide +kernel
theorem dX12_isIn_3 : decode cX12_isIn 3 = .ok (.lconst 1, 1) := by decide +kernel
theorem dX12_isIn_4 : decode cX12_isIn 4 = .ok (.land, 1) := by decide +kernel
theorem dX12_isIn_5 : decode cX12_isIn 5 = .ok (.lconst 1, 1) := by decide +kernel
theorem dX12_isIn_6 : decode cX12_isIn 6 = .ok (.lcmp, 1) := by decide +kernel
theorem dX12_isIn_7 : decode cX12_isIn 7 = .ok (.ifCond .ne 7, 3) := by decide +kernel
theorem dX12_isIn_10 : decode cX12_isIn 10 = .ok (.iconst 1, 1) := by decide +kernel
theorem dX12_isIn_11 : decode cX12_isIn 11 = .ok (.goto 4, 3) := by decide +kernel
theorem dX12_isIn_14 : decode cX12_isIn 14 = .ok (.iconst 0, 1) := by decide +kernel
theorem dX12_isIn_15 : decode cX12_isIn 15 = .ok (.ireturn, 1) := by decide +kernel
def M_isIn (x0 : Int64) (x2 : Int32) (h : Hp) (Q : Int32 → Hp → Prop) : Prop := (¬ ((x0 >>> ((x2).toInt64 &&& 63)) &&& (1 : Int64)) = (1 : Int64) → Q 0 h) ∧ (((x0 >>> ((x2).toInt64 &&& 63)) &&& (1 : Int64)) = (1 : Int64) → Q 1 h)
set_option maxHeartbeats 4000000 in
set_option maxRecDepth 20000 in
theorem c_M_isIn {G : Gx}  {x0 : Int64} {x2 : Int32} {h : Hp} {Q : Int32 → Hp → Prop} (hw : M_isIn x0 x2 h Q) : Ct yX12_isIn cX12_isIn 3 (some .boolean) 1 G [.long x0, .int x2] h (QI G Q) := by
  refine ct_go [(0, .long x0), (2, .int x2)] (plainFor_of_name (by decide)) rfl (Nat.le_of_ble_eq_true rfl) rfl ?_
  refine g_lload_n dX12_isIn_0 rfl rfl ?_
  refine g_iload_n dX12_isIn_1 rfl rfl ?_
  refine g_lshr dX12_isIn_2 ?_
  refine g_lconst (v := (1 : Int64)) dX12_isIn_3 (by decide) ?_
  refine g_land dX12_isIn_4 ?_
  refine g_lconst (v := (1 : Int64)) dX12_isIn_5 (by decide) ?_
  refine g_lc_ne 14 dX12_isIn_6 dX12_isIn_7 rfl (fun hc => ?_) (fun hc => ?_)
  · have hw := hw.1 hc
    refine g_iconst (v := 0) dX12_isIn_14 (by decide) ?_
    exact g_zret dX12_isIn_15 rfl hw
  · have hw := hw.2 hc
    refine g_iconst (v := 1) dX12_isIn_10 (by decide) ?_
    refine g_goto 15 dX12_isIn_11 rfl ?_
    exact g_zret dX12_isIn_15 rfl hw
theorem dX12_isMine_0 : decode cX12_isMine 0 = .ok (.aload_n 0, 1) := by decide +kernel
theorem dX12_isMine_1 : decode cX12_isMine 1 = .ok (.getfield 13, 3) := by decide +kernel
theorem dX12_isMine_4 : decode cX12_isMine 4 = .ok (.iconst 3, 1) := by decide +kernel
theorem dX12_isMine_5 : decode cX12_isMine 5 = .ok (.iaload, 1) := by decide +kernel
theorem dX12_isMine_6 : decode cX12_isMine 6 = .ok (.i2l, 1) := by decide +kernel
theorem dX12_isMine_7 : decode cX12_isMine 7 = .ok (.iload_n 1, 1) := by decide +kernel
theorem dX12_isMine_8 : decode cX12_isMine 8 = .ok (.invokestatic 228, 3) := by decide +kernel
theorem dX12_isMine_11 : decode cX12_isMine 11 = .ok (.ireturn, 1) := by decide +kernel
theorem ml_X12_228 : Cond.methodLink RX12 228 yX12_isIn ∈ Wd := mW 1671 (by decide +kernel) rfl
theorem mk_X12_isIn : MokS yX12_isIn cX12_isIn 3 (some .boolean) 2 := ⟨⟨mW 14 (by decide +kernel) rfl, mW 1673 (by decide +kernel) rfl, ⟨by decide, by decide, by decide +kernel⟩, by decide⟩, mW 1672 (by decide +kernel) rfl⟩
def M_isMine (x1 : Int32) (h : Hp) (Q : Int32 → Hp → Prop) : Prop := M_isIn (((gI h 99 3)).toInt64) x1 h (fun r1 h2 => isB r1 ∧ Q r1 h2)
set_option maxHeartbeats 4000000 in
set_option maxRecDepth 20000 in
theorem c_M_isMine {G : Gx}  {x1 : Int32} {h : Hp} {Q : Int32 → Hp → Prop} (hw : M_isMine x1 h Q) : Ct yX12_isMine cX12_isMine 2 (some .boolean) 2 G [.ref (gAd G 98), .int x1] h (QI G Q) := by
  refine ct_go [(0, .ref (gAd G 98)), (1, .int x1)] (plainFor_of_name (by decide)) rfl (Nat.le_of_ble_eq_true rfl) rfl ?_
  refine g_aload_n dX12_isMine_0 rfl rfl ?_
  refine g_getA dX12_isMine_1 fl_X12_13 sh98 rfl ?_
  refine g_iconst (v := 3) dX12_isMine_4 (by decide) ?_
  refine g_ialdK dX12_isMine_5 ia99 al99 (by unfold vp_in; decide) (k := 3) (by decide) ?_
  refine g_i2l dX12_isMine_6 ?_
  refine g_iload_n dX12_isMine_7 rfl rfl ?_
  refine g_callSI [.long (((gI h 99 3)).toInt64), .int x1] dX12_isMine_8 ml_X12_228 mk_X12_isIn rfl (Nat.le_of_ble_eq_true rfl) (Nat.le_of_ble_eq_true rfl) rfl (c_M_isIn hw) (fun r1 h2 hw => ?_)
  exact g_zret dX12_isMine_11 (isB_n hw.1) hw.2
theorem dX12_bitsOf_0 : decode cX12_bitsOf 0 = .ok (.iconst 0, 1) := by decide +kernel
theorem dX12_bitsOf_1 : decode cX12_bitsOf 1 = .ok (.istore_n 1, 1) := by decide +kernel
theorem dX12_bitsOf_2 : decode cX12_bitsOf 2 = .ok (.iconst 0, 1) := by decide +kernel
theorem dX12_bitsOf_3 : decode cX12_bitsOf 3 = .ok (.istore_n 2, 1) := by decide +kernel
theorem dX12_bitsOf_4 : decode cX12_bitsOf 4 = .ok (.iload_n 2, 1) := by decide +kernel
theorem dX12_bitsOf_5 : decode cX12_bitsOf 5 = .ok (.bipush 24, 2) := by decide +kernel
theorem dX12_bitsOf_7 : decode cX12_bitsOf 7 = .ok (.if_icmp .ge 17, 3) := by decide +kernel
theorem dX12_bitsOf_10 : decode cX12_bitsOf 10 = .ok (.iload_n 1, 1) := by decide +kernel
theorem dX12_bitsOf_11 : decode cX12_bitsOf 11 = .ok (.iload_n 0, 1) := by decide +kernel
theorem dX12_bitsOf_12 : decode cX12_bitsOf 12 = .ok (.iload_n 2, 1) := by decide +kernel
theorem dX12_bitsOf_13 : decode cX12_bitsOf 13 = .ok (.ishr, 1) := by decide +kernel
theorem dX12_bitsOf_14 : decode cX12_bitsOf 14 = .ok (.iconst 1, 1) := by decide +kernel
theorem dX12_bitsOf_15 : decode cX12_bitsOf 15 = .ok (.iand, 1) := by decide +kernel
theorem dX12_bitsOf_16 : decode cX12_bitsOf 16 = .ok (.iadd, 1) := by decide +kernel
theorem dX12_bitsOf_17 : decode cX12_bitsOf 17 = .ok (.istore_n 1, 1) := by decide +kernel
theorem dX12_bitsOf_18 : decode cX12_bitsOf 18 = .ok (.iinc 2 1, 3) := by decide +kernel
theorem dX12_bitsOf_21 : decode cX12_bitsOf 21 = .ok (.goto (-17), 3) := by decide +kernel
theorem dX12_bitsOf_24 : decode cX12_bitsOf 24 = .ok (.iload_n 1, 1) := by decide +kernel
theorem dX12_bitsOf_25 : decode cX12_bitsOf 25 = .ok (.ireturn, 1) := by decide +kernel
def M_bitsOf_L4 (x0 : Int32) (Q : Int32 → Hp → Prop) : Nat → Int32 → Int32 → Hp → Prop
  | 0, _, _, _ => False
  | n + 1, x1, x2, h => (24 ≤ x2 → Q x1 h) ∧ (¬ 24 ≤ x2 → ∀ v1 : Int32, v1 = (x1 + ((x0 >>> (x2 &&& 31)) &&& 1)) → ∀ v2 : Int32, v2 = (x2 + 1) → M_bitsOf_L4 x0 Q n v1 v2 h)
set_option maxHeartbeats 4000000 in
set_option maxRecDepth 20000 in
theorem gl_M_bitsOf_L4 {G : Gx}  {x0 : Int32} {Q : Int32 → Hp → Prop} : ∀ (n : Nat) (x1 : Int32) (x2 : Int32) (h : Hp), M_bitsOf_L4 x0 Q n x1 x2 h → Go cX12_bitsOf 3 RX12 (some .int) 1 G (QI G Q) 4 [(0, .int x0), (1, .int x1), (2, .int x2)] [] h := by
  intro n
  induction n with
  | zero => intro _ _ h hw; exact False.elim hw
  | succ n ih =>
    intro x1 x2 h hw
    refine g_iload_n dX12_bitsOf_4 rfl rfl ?_
    refine g_bipush (v := 24) dX12_bitsOf_5 (by decide) ?_
    refine g_icmp_ge 24 dX12_bitsOf_7 rfl (fun hc => ?_) (fun hc => ?_)
    · have hw := hw.1 hc
      refine g_iload_n dX12_bitsOf_24 rfl rfl ?_
      exact g_iret dX12_bitsOf_25 hw
    · have hw := hw.2 hc
      refine g_iload_n dX12_bitsOf_10 rfl rfl ?_
      refine g_iload_n dX12_bitsOf_11 rfl rfl ?_
      refine g_iload_n dX12_bitsOf_12 rfl rfl ?_
      refine g_ishr dX12_bitsOf_13 ?_
      refine g_iconst (v := 1) dX12_bitsOf_14 (by decide) ?_
      refine g_iand dX12_bitsOf_15 ?_
      refine g_iadd dX12_bitsOf_16 ?_
      refine g_topi (fun v1 ev1 => ?_)
      have hw := hw v1 ev1
      refine g_istore_n dX12_bitsOf_17 rfl (by decide) (lv1 := [(0, .int x0), (1, .int v1), (2, .int x2)]) rfl ?_
      obtain ⟨v2, ev2⟩ : ∃ y : Int32, y = (x2 + 1) := ⟨_, rfl⟩
      have hw := hw v2 ev2
      refine g_iinc dX12_bitsOf_18 rfl (by rw [ev2]; rfl) (by decide) (lv1 := [(0, .int x0), (1, .int v1), (2, .int v2)]) rfl ?_
      refine g_goto 4 dX12_bitsOf_21 rfl ?_
      exact ih _ _ _ hw
def M_bitsOf (x0 : Int32) (h : Hp) (Q : Int32 → Hp → Prop) : Prop := ∃ n3, M_bitsOf_L4 x0 Q n3 0 0 h
set_option maxHeartbeats 4000000 in
set_option maxRecDepth 20000 in
theorem c_M_bitsOf {G : Gx}  {x0 : Int32} {h : Hp} {Q : Int32 → Hp → Prop} (hw : M_bitsOf x0 h Q) : Ct yX12_bitsOf cX12_bitsOf 3 (some .int) 1 G [.int x0] h (QI G Q) := by
  refine ct_go [(0, .int x0)] (plainFor_of_name (by decide)) rfl (Nat.le_of_ble_eq_true rfl) rfl ?_
  refine g_iconst (v := 0) dX12_bitsOf_0 (by decide) ?_
  refine g_istore_n dX12_bitsOf_1 rfl (by decide) (lv1 := [(0, .int x0), (1, .int 0)]) rfl ?_
  refine g_iconst (v := 0) dX12_bitsOf_2 (by decide) ?_
  refine g_istore_n dX12_bitsOf_3 rfl (by decide) (lv1 := [(0, .int x0), (1, .int 0), (2, .int 0)]) rfl ?_
  obtain ⟨n3, hw⟩ := hw
  refine gl_M_bitsOf_L4   _ _ _ _ hw
theorem dX12_firstIn_0 : decode cX12_firstIn 0 = .ok (.iconst 0, 1) := by decide +kernel
theorem dX12_firstIn_1 : decode cX12_firstIn 1 = .ok (.istore_n 1, 1) := by decide +kernel
theorem dX12_firstIn_2 : decode cX12_firstIn 2 = .ok (.iload_n 0, 1) := by decide +kernel
theorem dX12_firstIn_3 : decode cX12_firstIn 3 = .ok (.i2l, 1) := by decide +kernel
theorem dX12_firstIn_4 : decode cX12_firstIn 4 = .ok (.iload_n 1, 1) := by decide +kernel
theorem dX12_firstIn_5 : decode cX12_firstIn 5 = .ok (.invokestatic 228, 3) := by decide +kernel
theorem dX12_firstIn_8 : decode cX12_firstIn 8 = .ok (.ifCond .ne 9, 3) := by decide +kernel
theorem dX12_firstIn_11 : decode cX12_firstIn 11 = .ok (.iinc 1 1, 3) := by decide +kernel
theorem dX12_firstIn_14 : decode cX12_firstIn 14 = .ok (.goto (-12), 3) := by decide +kernel
theorem dX12_firstIn_17 : decode cX12_firstIn 17 = .ok (.iload_n 1, 1) := by decide +kernel
theorem dX12_firstIn_18 : decode cX12_firstIn 18 = .ok (.ireturn, 1) := by decide +kernel
def M_firstIn_L2 (x0 : Int32) (Q : Int32 → Hp → Prop) : Nat → Int32 → Hp → Prop
  | 0, _, _ => False
  | n + 1, x1, h => M_isIn ((x0).toInt64) x1 h (fun r1 h2 => (¬ r1 = 0 → Q x1 h2) ∧ (r1 = 0 → ∀ v3 : Int32, v3 = (x1 + 1) → M_firstIn_L2 x0 Q n v3 h2))
set_option maxHeartbeats 4000000 in
set_option maxRecDepth 20000 in
theorem gl_M_firstIn_L2 {G : Gx}  {x0 : Int32} {Q : Int32 → Hp → Prop} : ∀ (n : Nat) (x1 : Int32) (h : Hp), M_firstIn_L2 x0 Q n x1 h → Go cX12_firstIn 2 RX12 (some .int) 2 G (QI G Q) 2 [(0, .int x0), (1, .int x1)] [] h := by
  intro n
  induction n with
  | zero => intro _ h hw; exact False.elim hw
  | succ n ih =>
    intro x1 h hw
    refine g_iload_n dX12_firstIn_2 rfl rfl ?_
    refine g_i2l dX12_firstIn_3 ?_
    refine g_iload_n dX12_firstIn_4 rfl rfl ?_
    refine g_callSI [.long ((x0).toInt64), .int x1] dX12_firstIn_5 ml_X12_228 mk_X12_isIn rfl (Nat.le_of_ble_eq_true rfl) (Nat.le_of_ble_eq_true rfl) rfl (c_M_isIn hw) (fun r1 h2 hw => ?_)
    refine g_if_ne 17 dX12_firstIn_8 rfl (fun hc => ?_) (fun hc => ?_)
    · have hw := hw.1 hc
      refine g_iload_n dX12_firstIn_17 rfl rfl ?_
      exact g_iret dX12_firstIn_18 hw
    · have hw := hw.2 hc
      obtain ⟨v3, ev3⟩ : ∃ y : Int32, y = (x1 + 1) := ⟨_, rfl⟩
      have hw := hw v3 ev3
      refine g_iinc dX12_firstIn_11 rfl (by rw [ev3]; rfl) (by decide) (lv1 := [(0, .int x0), (1, .int v3)]) rfl ?_
      refine g_goto 2 dX12_firstIn_14 rfl ?_
      exact ih _ _ hw
def M_firstIn (x0 : Int32) (h : Hp) (Q : Int32 → Hp → Prop) : Prop := ∃ n4, M_firstIn_L2 x0 Q n4 0 h
set_option maxHeartbeats 4000000 in
set_option maxRecDepth 20000 in
theorem c_M_firstIn {G : Gx}  {x0 : Int32} {h : Hp} {Q : Int32 → Hp → Prop} (hw : M_firstIn x0 h Q) : Ct yX12_firstIn cX12_firstIn 2 (some .int) 2 G [.int x0] h (QI G Q) := by
  refine ct_go [(0, .int x0)] (plainFor_of_name (by decide)) rfl (Nat.le_of_ble_eq_true rfl) rfl ?_
  refine g_iconst (v := 0) dX12_firstIn_0 (by decide) ?_
  refine g_istore_n dX12_firstIn_1 rfl (by decide) (lv1 := [(0, .int x0), (1, .int 0)]) rfl ?_
  obtain ⟨n4, hw⟩ := hw
  refine gl_M_firstIn_L2   _ _ _ hw
theorem dX12_planned_0 : decode cX12_planned 0 = .ok (.aload_n 0, 1) := by decide +kernel
theorem dX12_planned_1 : decode cX12_planned 1 = .ok (.getfield 13, 3) := by decide +kernel
theorem dX12_planned_4 : decode cX12_planned 4 = .ok (.bipush 62, 2) := by decide +kernel
theorem dX12_planned_6 : decode cX12_planned 6 = .ok (.iload_n 1, 1) := by decide +kernel
theorem dX12_planned_7 : decode cX12_planned 7 = .ok (.iadd, 1) := by decide +kernel
theorem dX12_planned_8 : decode cX12_planned 8 = .ok (.iaload, 1) := by decide +kernel
theorem dX12_planned_9 : decode cX12_planned 9 = .ok (.istore_n 2, 1) := by decide +kernel
theorem dX12_planned_10 : decode cX12_planned 10 = .ok (.iload_n 2, 1) := by decide +kernel
theorem dX12_planned_11 : decode cX12_planned 11 = .ok (.iconst (-1), 1) := by decide +kernel
theorem dX12_planned_12 : decode cX12_planned 12 = .ok (.if_icmp .eq 21, 3) := by decide +kernel
theorem dX12_planned_15 : decode cX12_planned 15 = .ok (.aload_n 0, 1) := by decide +kernel
theorem dX12_planned_16 : decode cX12_planned 16 = .ok (.getfield 45, 3) := by decide +kernel
theorem dX12_planned_19 : decode cX12_planned 19 = .ok (.iload_n 1, 1) := by decide +kernel
theorem dX12_planned_20 : decode cX12_planned 20 = .ok (.iaload, 1) := by decide +kernel
theorem dX12_planned_21 : decode cX12_planned 21 = .ok (.i2l, 1) := by decide +kernel
theorem dX12_planned_22 : decode cX12_planned 22 = .ok (.iload_n 2, 1) := by decide +kernel
theorem dX12_planned_23 : decode cX12_planned 23 = .ok (.invokestatic 228, 3) := by decide +kernel
theorem dX12_planned_26 : decode cX12_planned 26 = .ok (.ifCond .eq 7, 3) := by decide +kernel
theorem dX12_planned_29 : decode cX12_planned 29 = .ok (.iload_n 2, 1) := by decide +kernel
theorem dX12_planned_30 : decode cX12_planned 30 = .ok (.goto 12, 3) := by decide +kernel
theorem dX12_planned_33 : decode cX12_planned 33 = .ok (.aload_n 0, 1) := by decide +kernel
theorem dX12_planned_34 : decode cX12_planned 34 = .ok (.getfield 45, 3) := by decide +kernel
theorem dX12_planned_37 : decode cX12_planned 37 = .ok (.iload_n 1, 1) := by decide +kernel
theorem dX12_planned_38 : decode cX12_planned 38 = .ok (.iaload, 1) := by decide +kernel
theorem dX12_planned_39 : decode cX12_planned 39 = .ok (.invokestatic 253, 3) := by decide +kernel
theorem dX12_planned_42 : decode cX12_planned 42 = .ok (.ireturn, 1) := by decide +kernel
theorem ml_X12_253 : Cond.methodLink RX12 253 yX12_firstIn ∈ Wd := mW 1681 (by decide +kernel) rfl
theorem mk_X12_firstIn : MokS yX12_firstIn cX12_firstIn 2 (some .int) 1 := ⟨⟨mW 14 (by decide +kernel) rfl, mW 1683 (by decide +kernel) rfl, ⟨by decide, by decide, by decide +kernel⟩, by decide⟩, mW 1682 (by decide +kernel) rfl⟩
def M_planned (x1 : Int32) (h : Hp) (Q : Int32 → Hp → Prop) : Prop := vp_in ((62 : Int32) + x1) 3276 ∧ ∀ v1 : Int32, v1 = (gI h 99 (((62 : Int32) + x1)).toNatClampNeg) → ∀ J33 : Hp → Prop, J33 = (fun h2 => vp_in x1 8 ∧ M_firstIn (gI h2 108 (x1).toNatClampNeg) h2 (fun r3 h4 => Q r3 h4)) → (v1 = (-1) → J33 h) ∧ (¬ v1 = (-1) → vp_in x1 8 ∧ M_isIn (((gI h 108 (x1).toNatClampNeg)).toInt64) v1 h (fun r5 h6 => (r5 = 0 → J33 h6) ∧ (¬ r5 = 0 → Q v1 h6)))
set_option maxHeartbeats 4000000 in
set_option maxRecDepth 20000 in
theorem c_M_planned {G : Gx}  {x1 : Int32} {h : Hp} {Q : Int32 → Hp → Prop} (hw : M_planned x1 h Q) : Ct yX12_planned cX12_planned 3 (some .int) 3 G [.ref (gAd G 98), .int x1] h (QI G Q) := by
  refine ct_go [(0, .ref (gAd G 98)), (1, .int x1)] (plainFor_of_name (by decide)) rfl (Nat.le_of_ble_eq_true rfl) rfl ?_
  refine g_aload_n dX12_planned_0 rfl rfl ?_
  refine g_getA dX12_planned_1 fl_X12_13 sh98 rfl ?_
  refine g_bipush (v := 62) dX12_planned_4 (by decide) ?_
  refine g_iload_n dX12_planned_6 rfl rfl ?_
  refine g_iadd dX12_planned_7 ?_
  refine g_iald dX12_planned_8 ia99 al99 hw.1 ?_
  have hw := hw.2
  refine g_topi (fun v1 ev1 => ?_)
  have hw := hw v1 ev1
  refine g_istore_n dX12_planned_9 rfl (by decide) (lv1 := [(0, .ref (gAd G 98)), (1, .int x1), (2, .int v1)]) rfl ?_
  refine g_iload_n dX12_planned_10 rfl rfl ?_
  refine g_iconst (v := (-1)) dX12_planned_11 (by decide) ?_
  refine jn_el hw (fun J33 eJ33 hw => ?_)
  have hJ33 : ∀ (h2 : Hp), J33 h2 → Go cX12_planned 3 RX12 (some .int) 3 G (QI G Q) 33 [(0, .ref (gAd G 98)), (1, .int x1)] [] h2 := by
    intro h2 hw
    subst eJ33
    refine g_aload_n dX12_planned_33 rfl rfl ?_
    refine g_getA dX12_planned_34 fl_X12_45 sh98 rfl ?_
    refine g_iload_n dX12_planned_37 rfl rfl ?_
    refine g_iald dX12_planned_38 ia108 al108 hw.1 ?_
    have hw := hw.2
    refine g_callSI [.int (gI h2 108 (x1).toNatClampNeg)] dX12_planned_39 ml_X12_253 mk_X12_firstIn rfl (Nat.le_of_ble_eq_true rfl) (Nat.le_of_ble_eq_true rfl) rfl (c_M_firstIn hw) (fun r3 h4 hw => ?_)
    exact g_iret dX12_planned_42 hw
  refine g_icmp_eq 33 dX12_planned_12 rfl (fun hc => ?_) (fun hc => ?_)
  · have hw := hw.1 hc
    refine g_lv [0, 1] rfl ?_
    exact hJ33 _ hw
  · have hw := hw.2 hc
    refine g_aload_n dX12_planned_15 rfl rfl ?_
    refine g_getA dX12_planned_16 fl_X12_45 sh98 rfl ?_
    refine g_iload_n dX12_planned_19 rfl rfl ?_
    refine g_iald dX12_planned_20 ia108 al108 hw.1 ?_
    have hw := hw.2
    refine g_i2l dX12_planned_21 ?_
    refine g_iload_n dX12_planned_22 rfl rfl ?_
    refine g_callSI [.long (((gI h 108 (x1).toNatClampNeg)).toInt64), .int v1] dX12_planned_23 ml_X12_228 mk_X12_isIn rfl (Nat.le_of_ble_eq_true rfl) (Nat.le_of_ble_eq_true rfl) rfl (c_M_isIn hw) (fun r5 h6 hw => ?_)
    refine g_if_eq 33 dX12_planned_26 rfl (fun hc => ?_) (fun hc => ?_)
    · have hw := hw.1 hc
      refine g_lv [0, 1] rfl ?_
      exact hJ33 _ hw
    · have hw := hw.2 hc
      refine g_iload_n dX12_planned_29 rfl rfl ?_
      refine g_goto 42 dX12_planned_30 rfl ?_
      exact g_iret dX12_planned_42 hw
theorem dX12_toldWay_0 : decode cX12_toldWay 0 = .ok (.iload_n 0, 1) := by decide +kernel
theorem dX12_toldWay_1 : decode cX12_toldWay 1 = .ok (.bipush 16, 2) := by decide +kernel
theorem dX12_toldWay_3 : decode cX12_toldWay 3 = .ok (.if_icmp .ge 7, 3) := by decide +kernel
theorem dX12_toldWay_6 : decode cX12_toldWay 6 = .ok (.iload_n 0, 1) := by decide +kernel
theorem dX12_toldWay_7 : decode cX12_toldWay 7 = .ok (.goto 5, 3) := by decide +kernel
theorem dX12_toldWay_10 : decode cX12_toldWay 10 = .ok (.bipush 16, 2) := by decide +kernel
theorem dX12_toldWay_12 : decode cX12_toldWay 12 = .ok (.ireturn, 1) := by decide +kernel
def M_toldWay (x0 : Int32) (h : Hp) (Q : Int32 → Hp → Prop) : Prop := (16 ≤ x0 → Q 16 h) ∧ (¬ 16 ≤ x0 → Q x0 h)
set_option maxHeartbeats 4000000 in
set_option maxRecDepth 20000 in
theorem c_M_toldWay {G : Gx}  {x0 : Int32} {h : Hp} {Q : Int32 → Hp → Prop} (hw : M_toldWay x0 h Q) : Ct yX12_toldWay cX12_toldWay 1 (some .int) 1 G [.int x0] h (QI G Q) := by
  refine ct_go [(0, .int x0)] (plainFor_of_name (by decide)) rfl (Nat.le_of_ble_eq_true rfl) rfl ?_
  refine g_iload_n dX12_toldWay_0 rfl rfl ?_
  refine g_bipush (v := 16) dX12_toldWay_1 (by decide) ?_
  refine g_icmp_ge 10 dX12_toldWay_3 rfl (fun hc => ?_) (fun hc => ?_)
  · have hw := hw.1 hc
    refine g_bipush (v := 16) dX12_toldWay_10 (by decide) ?_
    exact g_iret dX12_toldWay_12 hw
  · have hw := hw.2 hc
    refine g_iload_n dX12_toldWay_6 rfl rfl ?_
    refine g_goto 12 dX12_toldWay_7 rfl ?_
    exact g_iret dX12_toldWay_12 hw
theorem dX12_place_0 : decode cX12_place 0 = .ok (.aload_n 0, 1) := by decide +kernel
theorem dX12_place_1 : decode cX12_place 1 = .ok (.iconst 0, 1) := by decide +kernel
theorem dX12_place_2 : decode cX12_place 2 = .ok (.putfield 1, 3) := by decide +kernel
theorem dX12_place_5 : decode cX12_place 5 = .ok (.aload_n 0, 1) := by decide +kernel
theorem dX12_place_6 : decode cX12_place 6 = .ok (.iload_n 1, 1) := by decide +kernel
theorem dX12_place_7 : decode cX12_place 7 = .ok (.i2l, 1) := by decide +kernel
theorem dX12_place_8 : decode cX12_place 8 = .ok (.invokevirtual 256, 3) := by decide +kernel
theorem dX12_place_11 : decode cX12_place 11 = .ok (.ifCond .ne 6, 3) := by decide +kernel
theorem dX12_place_14 : decode cX12_place 14 = .ok (.bipush (-2), 2) := by decide +kernel
theorem dX12_place_16 : decode cX12_place 16 = .ok (.ireturn, 1) := by decide +kernel
theorem dX12_place_17 : decode cX12_place 17 = .ok (.aload_n 0, 1) := by decide +kernel
theorem dX12_place_18 : decode cX12_place 18 = .ok (.invokevirtual 260, 3) := by decide +kernel
theorem dX12_place_21 : decode cX12_place 21 = .ok (.iload_n 2, 1) := by decide +kernel
theorem dX12_place_22 : decode cX12_place 22 = .ok (.tableswitch 94 0 3 #[30, 44, 54, 85], 30) := by decide +kernel
theorem dX12_place_52 : decode cX12_place 52 = .ok (.aload_n 0, 1) := by decide +kernel
theorem dX12_place_53 : decode cX12_place 53 = .ok (.iload_n 1, 1) := by decide +kernel
theorem dX12_place_54 : decode cX12_place 54 = .ok (.invokevirtual 263, 3) := by decide +kernel
theorem dX12_place_57 : decode cX12_place 57 = .ok (.ifCond .eq 7, 3) := by decide +kernel
theorem dX12_place_60 : decode cX12_place 60 = .ok (.iconst 1, 1) := by decide +kernel
theorem dX12_place_61 : decode cX12_place 61 = .ok (.goto 4, 3) := by decide +kernel
theorem dX12_place_64 : decode cX12_place 64 = .ok (.iconst 0, 1) := by decide +kernel
theorem dX12_place_65 : decode cX12_place 65 = .ok (.ireturn, 1) := by decide +kernel
theorem dX12_place_66 : decode cX12_place 66 = .ok (.aload_n 0, 1) := by decide +kernel
theorem dX12_place_67 : decode cX12_place 67 = .ok (.getfield 13, 3) := by decide +kernel
theorem dX12_place_70 : decode cX12_place 70 = .ok (.bipush 62, 2) := by decide +kernel
theorem dX12_place_72 : decode cX12_place 72 = .ok (.iload_n 1, 1) := by decide +kernel
theorem dX12_place_73 : decode cX12_place 73 = .ok (.iadd, 1) := by decide +kernel
theorem dX12_place_74 : decode cX12_place 74 = .ok (.iaload, 1) := by decide +kernel
theorem dX12_place_75 : decode cX12_place 75 = .ok (.ireturn, 1) := by decide +kernel
theorem dX12_place_76 : decode cX12_place 76 = .ok (.aload_n 0, 1) := by decide +kernel
theorem dX12_place_77 : decode cX12_place 77 = .ok (.getfield 45, 3) := by decide +kernel
theorem dX12_place_80 : decode cX12_place 80 = .ok (.iload_n 1, 1) := by decide +kernel
theorem dX12_place_81 : decode cX12_place 81 = .ok (.iaload, 1) := by decide +kernel
theorem dX12_place_82 : decode cX12_place 82 = .ok (.i2l, 1) := by decide +kernel
theorem dX12_place_83 : decode cX12_place 83 = .ok (.bipush 16, 2) := by decide +kernel
theorem dX12_place_85 : decode cX12_place 85 = .ok (.iload_n 1, 1) := by decide +kernel
theorem dX12_place_86 : decode cX12_place 86 = .ok (.iadd, 1) := by decide +kernel
theorem dX12_place_87 : decode cX12_place 87 = .ok (.invokestatic 228, 3) := by decide +kernel
theorem dX12_place_90 : decode cX12_place 90 = .ok (.ifCond .eq 7, 3) := by decide +kernel
theorem dX12_place_93 : decode cX12_place 93 = .ok (.iconst 0, 1) := by decide +kernel
theorem dX12_place_94 : decode cX12_place 94 = .ok (.goto 12, 3) := by decide +kernel
theorem dX12_place_97 : decode cX12_place 97 = .ok (.aload_n 0, 1) := by decide +kernel
theorem dX12_place_98 : decode cX12_place 98 = .ok (.getfield 45, 3) := by decide +kernel
theorem dX12_place_101 : decode cX12_place 101 = .ok (.iload_n 1, 1) := by decide +kernel
theorem dX12_place_102 : decode cX12_place 102 = .ok (.iaload, 1) := by decide +kernel
theorem dX12_place_103 : decode cX12_place 103 = .ok (.invokestatic 266, 3) := by decide +kernel
theorem dX12_place_106 : decode cX12_place 106 = .ok (.ireturn, 1) := by decide +kernel
theorem dX12_place_107 : decode cX12_place 107 = .ok (.aload_n 0, 1) := by decide +kernel
theorem dX12_place_108 : decode cX12_place 108 = .ok (.iload_n 1, 1) := by decide +kernel
theorem dX12_place_109 : decode cX12_place 109 = .ok (.invokevirtual 269, 3) := by decide +kernel
theorem dX12_place_112 : decode cX12_place 112 = .ok (.invokestatic 272, 3) := by decide +kernel
theorem dX12_place_115 : decode cX12_place 115 = .ok (.ireturn, 1) := by decide +kernel
theorem dX12_place_116 : decode cX12_place 116 = .ok (.bipush (-2), 2) := by decide +kernel
theorem dX12_place_118 : decode cX12_place 118 = .ok (.ireturn, 1) := by decide +kernel
theorem ml_X12_256 : Cond.methodLink RX12 256 yX12_isPlace ∈ Wd := mW 1638 (by decide +kernel) rfl
theorem mk_X12_isPlace : MokV yX12_isPlace cX12_isPlace 3 (some .boolean) 1 := ⟨⟨mW 14 (by decide +kernel) rfl, mW 1641 (by decide +kernel) rfl, ⟨by decide, by decide, by decide +kernel⟩, by decide⟩, mW 1640 (by decide +kernel) rfl, mS (q := (yX12_isPlace, 46)) 70 (by decide +kernel)⟩
theorem ml_X12_260 : Cond.methodLink RX12 260 yX12_laysWays ∈ Wd := mW 1642 (by decide +kernel) rfl
theorem mk_X12_laysWays : MokV yX12_laysWays cX12_laysWays 2 none 0 := ⟨⟨mW 14 (by decide +kernel) rfl, mW 1645 (by decide +kernel) rfl, ⟨by decide, by decide, by decide +kernel⟩, by decide⟩, mW 1644 (by decide +kernel) rfl, mS (q := (yX12_laysWays, 46)) 71 (by decide +kernel)⟩
theorem ml_X12_263 : Cond.methodLink RX12 263 yX12_isMine ∈ Wd := mW 1667 (by decide +kernel) rfl
theorem mk_X12_isMine : MokV yX12_isMine cX12_isMine 2 (some .boolean) 1 := ⟨⟨mW 14 (by decide +kernel) rfl, mW 1670 (by decide +kernel) rfl, ⟨by decide, by decide, by decide +kernel⟩, by decide⟩, mW 1669 (by decide +kernel) rfl, mS (q := (yX12_isMine, 46)) 76 (by decide +kernel)⟩
theorem ml_X12_266 : Cond.methodLink RX12 266 yX12_bitsOf ∈ Wd := mW 1674 (by decide +kernel) rfl
theorem mk_X12_bitsOf : MokS yX12_bitsOf cX12_bitsOf 3 (some .int) 1 := ⟨⟨mW 14 (by decide +kernel) rfl, mW 1676 (by decide +kernel) rfl, ⟨by decide, by decide, by decide +kernel⟩, by decide⟩, mW 1675 (by decide +kernel) rfl⟩
theorem ml_X12_269 : Cond.methodLink RX12 269 yX12_planned ∈ Wd := mW 1677 (by decide +kernel) rfl
theorem mk_X12_planned : MokV yX12_planned cX12_planned 3 (some .int) 1 := ⟨⟨mW 14 (by decide +kernel) rfl, mW 1680 (by decide +kernel) rfl, ⟨by decide, by decide, by decide +kernel⟩, by decide⟩, mW 1679 (by decide +kernel) rfl, mS (q := (yX12_planned, 46)) 77 (by decide +kernel)⟩
theorem ml_X12_272 : Cond.methodLink RX12 272 yX12_toldWay ∈ Wd := mW 1684 (by decide +kernel) rfl
theorem mk_X12_toldWay : MokS yX12_toldWay cX12_toldWay 1 (some .int) 1 := ⟨⟨mW 14 (by decide +kernel) rfl, mW 1686 (by decide +kernel) rfl, ⟨by decide, by decide, by decide +kernel⟩, by decide⟩, mW 1685 (by decide +kernel) rfl⟩
def M_place (x1 : Int32) (x2 : Int32) (h : Hp) (Q : Int32 → Hp → Prop) : Prop := ∀ h1 : Hp, h1 = sI h 98 0 0 → M_isPlace ((x1).toInt64) h1 (fun r2 h3 => (¬ r2 = 0 → M_laysWays  h3 (fun h4 => (x2.toInt < 0 ∨ 3 < x2.toInt → Q (-2) h4) ∧ (x2 = 0 → M_isMine x1 h4 (fun r5 h6 => (r5 = 0 → Q 0 h6) ∧ (¬ r5 = 0 → Q 1 h6))) ∧ (x2 = 1 → vp_in ((62 : Int32) + x1) 3276 ∧ Q (gI h4 99 (((62 : Int32) + x1)).toNatClampNeg) h4) ∧ (x2 = 2 → vp_in x1 8 ∧ M_isIn (((gI h4 108 (x1).toNatClampNeg)).toInt64) ((16 : Int32) + x1) h4 (fun r7 h8 => (r7 = 0 → vp_in x1 8 ∧ M_bitsOf (gI h8 108 (x1).toNatClampNeg) h8 (fun r9 h10 => Q r9 h10)) ∧ (¬ r7 = 0 → Q 0 h8))) ∧ (x2 = 3 → M_planned x1 h4 (fun r11 h12 => M_toldWay r11 h12 (fun r13 h14 => Q r13 h14))))) ∧ (r2 = 0 → Q (-2) h3))
set_option maxHeartbeats 4000000 in
set_option maxRecDepth 20000 in
theorem c_M_place {G : Gx}  {x1 : Int32} {x2 : Int32} {h : Hp} {Q : Int32 → Hp → Prop} (hw : M_place x1 x2 h Q) : Ct yX12_place cX12_place 3 (some .int) 5 G [.ref (gAd G 98), .int x1, .int x2] h (QI G Q) := by
  refine ct_go [(0, .ref (gAd G 98)), (1, .int x1), (2, .int x2)] (plainFor_of_name (by decide)) rfl (Nat.le_of_ble_eq_true rfl) rfl ?_
  refine g_aload_n dX12_place_0 rfl rfl ?_
  refine g_iconst (v := 0) dX12_place_1 (by decide) ?_
  refine g_putI dX12_place_2 fl_X12_1 sh98 rfl rfl pf_12_0 ?_
  refine g_heap (fun h1 eh1 => ?_)
  have hw := hw h1 eh1
  refine g_aload_n dX12_place_5 rfl rfl ?_
  refine g_iload_n dX12_place_6 rfl rfl ?_
  refine g_i2l dX12_place_7 ?_
  refine g_callVI [.long ((x1).toInt64)] (ci := 12) dX12_place_8 ml_X12_256 mk_X12_isPlace rfl rfl sh98 (Nat.le_of_ble_eq_true rfl) (Nat.le_of_ble_eq_true rfl) rfl (c_M_isPlace hw) (fun r2 h3 hw => ?_)
  refine g_if_ne 17 dX12_place_11 rfl (fun hc => ?_) (fun hc => ?_)
  · have hw := hw.1 hc
    refine g_aload_n dX12_place_17 rfl rfl ?_
    refine g_callVV [] (ci := 12) dX12_place_18 ml_X12_260 mk_X12_laysWays rfl rfl sh98 (Nat.le_of_ble_eq_true rfl) (Nat.le_of_ble_eq_true rfl) rfl (c_M_laysWays hw) (fun h4 hw => ?_)
    refine g_iload_n dX12_place_21 rfl rfl ?_
    rcases tsw_in x2 (0) (3) 4 (by decide) with hc | ⟨j, hj, hc⟩
    · have hw := hw.1 hc
      refine g_tswD 116 dX12_place_22 hc rfl ?_
      refine g_bipush (v := (-2)) dX12_place_116 (by decide) ?_
      exact g_iret dX12_place_118 hw
    · match j, hj, hc with
      | 0, _, hc =>
        have hc : x2 = 0 := tsw_eq hc (by decide)
        have hw := hw.2.1 hc
        refine g_tswI 0 52 dX12_place_22 hc (by decide) (by decide) (off := 30) (by decide) rfl ?_
        refine g_aload_n dX12_place_52 rfl rfl ?_
        refine g_iload_n dX12_place_53 rfl rfl ?_
        refine g_callVI [.int x1] (ci := 12) dX12_place_54 ml_X12_263 mk_X12_isMine rfl rfl sh98 (Nat.le_of_ble_eq_true rfl) (Nat.le_of_ble_eq_true rfl) rfl (c_M_isMine hw) (fun r5 h6 hw => ?_)
        refine g_if_eq 64 dX12_place_57 rfl (fun hc => ?_) (fun hc => ?_)
        · have hw := hw.1 hc
          refine g_iconst (v := 0) dX12_place_64 (by decide) ?_
          exact g_iret dX12_place_65 hw
        · have hw := hw.2 hc
          refine g_iconst (v := 1) dX12_place_60 (by decide) ?_
          refine g_goto 65 dX12_place_61 rfl ?_
          exact g_iret dX12_place_65 hw
      | 1, _, hc =>
        have hc : x2 = 1 := tsw_eq hc (by decide)
        have hw := hw.2.2.1 hc
        refine g_tswI 1 66 dX12_place_22 hc (by decide) (by decide) (off := 44) (by decide) rfl ?_
        refine g_aload_n dX12_place_66 rfl rfl ?_
        refine g_getA dX12_place_67 fl_X12_13 sh98 rfl ?_
        refine g_bipush (v := 62) dX12_place_70 (by decide) ?_
        refine g_iload_n dX12_place_72 rfl rfl ?_
        refine g_iadd dX12_place_73 ?_
        refine g_iald dX12_place_74 ia99 al99 hw.1 ?_
        have hw := hw.2
        exact g_iret dX12_place_75 hw
      | 2, _, hc =>
        have hc : x2 = 2 := tsw_eq hc (by decide)
        have hw := hw.2.2.2.1 hc
        refine g_tswI 2 76 dX12_place_22 hc (by decide) (by decide) (off := 54) (by decide) rfl ?_
        refine g_aload_n dX12_place_76 rfl rfl ?_
        refine g_getA dX12_place_77 fl_X12_45 sh98 rfl ?_
        refine g_iload_n dX12_place_80 rfl rfl ?_
        refine g_iald dX12_place_81 ia108 al108 hw.1 ?_
        have hw := hw.2
        refine g_i2l dX12_place_82 ?_
        refine g_bipush (v := 16) dX12_place_83 (by decide) ?_
        refine g_iload_n dX12_place_85 rfl rfl ?_
        refine g_iadd dX12_place_86 ?_
        refine g_callSI [.long (((gI h4 108 (x1).toNatClampNeg)).toInt64), .int ((16 : Int32) + x1)] dX12_place_87 ml_X12_228 mk_X12_isIn rfl (Nat.le_of_ble_eq_true rfl) (Nat.le_of_ble_eq_true rfl) rfl (c_M_isIn hw) (fun r7 h8 hw => ?_)
        refine g_if_eq 97 dX12_place_90 rfl (fun hc => ?_) (fun hc => ?_)
        · have hw := hw.1 hc
          refine g_aload_n dX12_place_97 rfl rfl ?_
          refine g_getA dX12_place_98 fl_X12_45 sh98 rfl ?_
          refine g_iload_n dX12_place_101 rfl rfl ?_
          refine g_iald dX12_place_102 ia108 al108 hw.1 ?_
          have hw := hw.2
          refine g_callSI [.int (gI h8 108 (x1).toNatClampNeg)] dX12_place_103 ml_X12_266 mk_X12_bitsOf rfl (Nat.le_of_ble_eq_true rfl) (Nat.le_of_ble_eq_true rfl) rfl (c_M_bitsOf hw) (fun r9 h10 hw => ?_)
          exact g_iret dX12_place_106 hw
        · have hw := hw.2 hc
          refine g_iconst (v := 0) dX12_place_93 (by decide) ?_
          refine g_goto 106 dX12_place_94 rfl ?_
          exact g_iret dX12_place_106 hw
      | 3, _, hc =>
        have hc : x2 = 3 := tsw_eq hc (by decide)
        have hw := hw.2.2.2.2 hc
        refine g_tswI 3 107 dX12_place_22 hc (by decide) (by decide) (off := 85) (by decide) rfl ?_
        refine g_aload_n dX12_place_107 rfl rfl ?_
        refine g_iload_n dX12_place_108 rfl rfl ?_
        refine g_callVI [.int x1] (ci := 12) dX12_place_109 ml_X12_269 mk_X12_planned rfl rfl sh98 (Nat.le_of_ble_eq_true rfl) (Nat.le_of_ble_eq_true rfl) rfl (c_M_planned hw) (fun r11 h12 hw => ?_)
        refine g_callSI [.int r11] dX12_place_112 ml_X12_272 mk_X12_toldWay rfl (Nat.le_of_ble_eq_true rfl) (Nat.le_of_ble_eq_true rfl) rfl (c_M_toldWay hw) (fun r13 h14 hw => ?_)
        exact g_iret dX12_place_115 hw
      | k + 4, hj, _ => exact absurd hj (by omega)
  · have hw := hw.2 hc
    refine g_bipush (v := (-2)) dX12_place_14 (by decide) ?_
    exact g_iret dX12_place_16 hw
theorem dX12_isRoad_0 : decode cX12_isRoad 0 = .ok (.lload_n 1, 1) := by decide +kernel
theorem dX12_isRoad_1 : decode cX12_isRoad 1 = .ok (.lconst 0, 1) := by decide +kernel
theorem dX12_isRoad_2 : decode cX12_isRoad 2 = .ok (.aload_n 0, 1) := by decide +kernel
theorem dX12_isRoad_3 : decode cX12_isRoad 3 = .ok (.getfield 13, 3) := by decide +kernel
theorem dX12_isRoad_6 : decode cX12_isRoad 6 = .ok (.iconst 2, 1) := by decide +kernel
theorem dX12_isRoad_7 : decode cX12_isRoad 7 = .ok (.iaload, 1) := by decide +kernel
theorem dX12_isRoad_8 : decode cX12_isRoad 8 = .ok (.iconst 1, 1) := by decide +kernel
theorem dX12_isRoad_9 : decode cX12_isRoad 9 = .ok (.isub, 1) := by decide +kernel
theorem dX12_isRoad_10 : decode cX12_isRoad 10 = .ok (.i2l, 1) := by decide +kernel
theorem dX12_isRoad_11 : decode cX12_isRoad 11 = .ok (.invokestatic 169, 3) := by decide +kernel
theorem dX12_isRoad_14 : decode cX12_isRoad 14 = .ok (.ireturn, 1) := by decide +kernel
def M_isRoad (x1 : Int64) (h : Hp) (Q : Int32 → Hp → Prop) : Prop := M_within x1 (0 : Int64) ((((gI h 99 2) - 1)).toInt64) h (fun r1 h2 => isB r1 ∧ Q r1 h2)
set_option maxHeartbeats 4000000 in
set_option maxRecDepth 20000 in
theorem c_M_isRoad {G : Gx}  {x1 : Int64} {h : Hp} {Q : Int32 → Hp → Prop} (hw : M_isRoad x1 h Q) : Ct yX12_isRoad cX12_isRoad 3 (some .boolean) 2 G [.ref (gAd G 98), .long x1] h (QI G Q) := by
  refine ct_go [(0, .ref (gAd G 98)), (1, .long x1)] (plainFor_of_name (by decide)) rfl (Nat.le_of_ble_eq_true rfl) rfl ?_
  refine g_lload_n dX12_isRoad_0 rfl rfl ?_
  refine g_lconst (v := (0 : Int64)) dX12_isRoad_1 (by decide) ?_
  refine g_aload_n dX12_isRoad_2 rfl rfl ?_
  refine g_getA dX12_isRoad_3 fl_X12_13 sh98 rfl ?_
  refine g_iconst (v := 2) dX12_isRoad_6 (by decide) ?_
  refine g_ialdK dX12_isRoad_7 ia99 al99 (by unfold vp_in; decide) (k := 2) (by decide) ?_
  refine g_iconst (v := 1) dX12_isRoad_8 (by decide) ?_
  refine g_isub dX12_isRoad_9 ?_
  refine g_i2l dX12_isRoad_10 ?_
  refine g_callSI [.long x1, .long (0 : Int64), .long ((((gI h 99 2) - 1)).toInt64)] dX12_isRoad_11 ml_X12_169 mk_X12_within rfl (Nat.le_of_ble_eq_true rfl) (Nat.le_of_ble_eq_true rfl) rfl (c_M_within hw) (fun r1 h2 hw => ?_)
  exact g_zret dX12_isRoad_14 (isB_n hw.1) hw.2
theorem dX12_road_0 : decode cX12_road 0 = .ok (.aload_n 0, 1) := by decide +kernel
theorem dX12_road_1 : decode cX12_road 1 = .ok (.iconst 0, 1) := by decide +kernel
theorem dX12_road_2 : decode cX12_road 2 = .ok (.putfield 1, 3) := by decide +kernel
theorem dX12_road_5 : decode cX12_road 5 = .ok (.aload_n 0, 1) := by decide +kernel
theorem dX12_road_6 : decode cX12_road 6 = .ok (.iload_n 1, 1) := by decide +kernel
theorem dX12_road_7 : decode cX12_road 7 = .ok (.i2l, 1) := by decide +kernel
theorem dX12_road_8 : decode cX12_road 8 = .ok (.invokevirtual 275, 3) := by decide +kernel
theorem dX12_road_11 : decode cX12_road 11 = .ok (.ifCond .ne 6, 3) := by decide +kernel
theorem dX12_road_14 : decode cX12_road 14 = .ok (.bipush (-2), 2) := by decide +kernel
theorem dX12_road_16 : decode cX12_road 16 = .ok (.ireturn, 1) := by decide +kernel
theorem dX12_road_17 : decode cX12_road 17 = .ok (.iload_n 2, 1) := by decide +kernel
theorem dX12_road_18 : decode cX12_road 18 = .ok (.tableswitch 60 0 2 #[26, 36, 46], 26) := by decide +kernel
theorem dX12_road_44 : decode cX12_road 44 = .ok (.aload_n 0, 1) := by decide +kernel
theorem dX12_road_45 : decode cX12_road 45 = .ok (.getfield 13, 3) := by decide +kernel
theorem dX12_road_48 : decode cX12_road 48 = .ok (.bipush 10, 2) := by decide +kernel
theorem dX12_road_50 : decode cX12_road 50 = .ok (.iload_n 1, 1) := by decide +kernel
theorem dX12_road_51 : decode cX12_road 51 = .ok (.iadd, 1) := by decide +kernel
theorem dX12_road_52 : decode cX12_road 52 = .ok (.iaload, 1) := by decide +kernel
theorem dX12_road_53 : decode cX12_road 53 = .ok (.ireturn, 1) := by decide +kernel
theorem dX12_road_54 : decode cX12_road 54 = .ok (.aload_n 0, 1) := by decide +kernel
theorem dX12_road_55 : decode cX12_road 55 = .ok (.getfield 13, 3) := by decide +kernel
theorem dX12_road_58 : decode cX12_road 58 = .ok (.bipush 26, 2) := by decide +kernel
theorem dX12_road_60 : decode cX12_road 60 = .ok (.iload_n 1, 1) := by decide +kernel
theorem dX12_road_61 : decode cX12_road 61 = .ok (.iadd, 1) := by decide +kernel
theorem dX12_road_62 : decode cX12_road 62 = .ok (.iaload, 1) := by decide +kernel
theorem dX12_road_63 : decode cX12_road 63 = .ok (.ireturn, 1) := by decide +kernel
theorem dX12_road_64 : decode cX12_road 64 = .ok (.aload_n 0, 1) := by decide +kernel
theorem dX12_road_65 : decode cX12_road 65 = .ok (.iload_n 1, 1) := by decide +kernel
theorem dX12_road_66 : decode cX12_road 66 = .ok (.invokevirtual 250, 3) := by decide +kernel
theorem dX12_road_69 : decode cX12_road 69 = .ok (.ifCond .eq 7, 3) := by decide +kernel
theorem dX12_road_72 : decode cX12_road 72 = .ok (.iconst 1, 1) := by decide +kernel
theorem dX12_road_73 : decode cX12_road 73 = .ok (.goto 4, 3) := by decide +kernel
theorem dX12_road_76 : decode cX12_road 76 = .ok (.iconst 0, 1) := by decide +kernel
theorem dX12_road_77 : decode cX12_road 77 = .ok (.ireturn, 1) := by decide +kernel
theorem dX12_road_78 : decode cX12_road 78 = .ok (.bipush (-2), 2) := by decide +kernel
theorem dX12_road_80 : decode cX12_road 80 = .ok (.ireturn, 1) := by decide +kernel
theorem ml_X12_275 : Cond.methodLink RX12 275 yX12_isRoad ∈ Wd := mW 1691 (by decide +kernel) rfl
theorem mk_X12_isRoad : MokV yX12_isRoad cX12_isRoad 3 (some .boolean) 1 := ⟨⟨mW 14 (by decide +kernel) rfl, mW 1694 (by decide +kernel) rfl, ⟨by decide, by decide, by decide +kernel⟩, by decide⟩, mW 1693 (by decide +kernel) rfl, mS (q := (yX12_isRoad, 46)) 78 (by decide +kernel)⟩
def M_road (x1 : Int32) (x2 : Int32) (h : Hp) (Q : Int32 → Hp → Prop) : Prop := ∀ h1 : Hp, h1 = sI h 98 0 0 → M_isRoad ((x1).toInt64) h1 (fun r2 h3 => (¬ r2 = 0 → (x2.toInt < 0 ∨ 2 < x2.toInt → Q (-2) h3) ∧ (x2 = 0 → vp_in ((10 : Int32) + x1) 3276 ∧ Q (gI h3 99 (((10 : Int32) + x1)).toNatClampNeg) h3) ∧ (x2 = 1 → vp_in ((26 : Int32) + x1) 3276 ∧ Q (gI h3 99 (((26 : Int32) + x1)).toNatClampNeg) h3) ∧ (x2 = 2 → M_isOpen x1 h3 (fun r4 h5 => (r4 = 0 → Q 0 h5) ∧ (¬ r4 = 0 → Q 1 h5)))) ∧ (r2 = 0 → Q (-2) h3))
set_option maxHeartbeats 4000000 in
set_option maxRecDepth 20000 in
theorem c_M_road {G : Gx}  {x1 : Int32} {x2 : Int32} {h : Hp} {Q : Int32 → Hp → Prop} (hw : M_road x1 x2 h Q) : Ct yX12_road cX12_road 3 (some .int) 4 G [.ref (gAd G 98), .int x1, .int x2] h (QI G Q) := by
  refine ct_go [(0, .ref (gAd G 98)), (1, .int x1), (2, .int x2)] (plainFor_of_name (by decide)) rfl (Nat.le_of_ble_eq_true rfl) rfl ?_
  refine g_aload_n dX12_road_0 rfl rfl ?_
  refine g_iconst (v := 0) dX12_road_1 (by decide) ?_
  refine g_putI dX12_road_2 fl_X12_1 sh98 rfl rfl pf_12_0 ?_
  refine g_heap (fun h1 eh1 => ?_)
  have hw := hw h1 eh1
  refine g_aload_n dX12_road_5 rfl rfl ?_
  refine g_iload_n dX12_road_6 rfl rfl ?_
  refine g_i2l dX12_road_7 ?_
  refine g_callVI [.long ((x1).toInt64)] (ci := 12) dX12_road_8 ml_X12_275 mk_X12_isRoad rfl rfl sh98 (Nat.le_of_ble_eq_true rfl) (Nat.le_of_ble_eq_true rfl) rfl (c_M_isRoad hw) (fun r2 h3 hw => ?_)
  refine g_if_ne 17 dX12_road_11 rfl (fun hc => ?_) (fun hc => ?_)
  · have hw := hw.1 hc
    refine g_iload_n dX12_road_17 rfl rfl ?_
    rcases tsw_in x2 (0) (2) 3 (by decide) with hc | ⟨j, hj, hc⟩
    · have hw := hw.1 hc
      refine g_tswD 78 dX12_road_18 hc rfl ?_
      refine g_bipush (v := (-2)) dX12_road_78 (by decide) ?_
      exact g_iret dX12_road_80 hw
    · match j, hj, hc with
      | 0, _, hc =>
        have hc : x2 = 0 := tsw_eq hc (by decide)
        have hw := hw.2.1 hc
        refine g_tswI 0 44 dX12_road_18 hc (by decide) (by decide) (off := 26) (by decide) rfl ?_
        refine g_aload_n dX12_road_44 rfl rfl ?_
        refine g_getA dX12_road_45 fl_X12_13 sh98 rfl ?_
        refine g_bipush (v := 10) dX12_road_48 (by decide) ?_
        refine g_iload_n dX12_road_50 rfl rfl ?_
        refine g_iadd dX12_road_51 ?_
        refine g_iald dX12_road_52 ia99 al99 hw.1 ?_
        have hw := hw.2
        exact g_iret dX12_road_53 hw
      | 1, _, hc =>
        have hc : x2 = 1 := tsw_eq hc (by decide)
        have hw := hw.2.2.1 hc
        refine g_tswI 1 54 dX12_road_18 hc (by decide) (by decide) (off := 36) (by decide) rfl ?_
        refine g_aload_n dX12_road_54 rfl rfl ?_
        refine g_getA dX12_road_55 fl_X12_13 sh98 rfl ?_
        refine g_bipush (v := 26) dX12_road_58 (by decide) ?_
        refine g_iload_n dX12_road_60 rfl rfl ?_
        refine g_iadd dX12_road_61 ?_
        refine g_iald dX12_road_62 ia99 al99 hw.1 ?_
        have hw := hw.2
        exact g_iret dX12_road_63 hw
      | 2, _, hc =>
        have hc : x2 = 2 := tsw_eq hc (by decide)
        have hw := hw.2.2.2 hc
        refine g_tswI 2 64 dX12_road_18 hc (by decide) (by decide) (off := 46) (by decide) rfl ?_
        refine g_aload_n dX12_road_64 rfl rfl ?_
        refine g_iload_n dX12_road_65 rfl rfl ?_
        refine g_callVI [.int x1] (ci := 12) dX12_road_66 ml_X12_250 mk_X12_isOpen rfl rfl sh98 (Nat.le_of_ble_eq_true rfl) (Nat.le_of_ble_eq_true rfl) rfl (c_M_isOpen hw) (fun r4 h5 hw => ?_)
        refine g_if_eq 76 dX12_road_69 rfl (fun hc => ?_) (fun hc => ?_)
        · have hw := hw.1 hc
          refine g_iconst (v := 0) dX12_road_76 (by decide) ?_
          exact g_iret dX12_road_77 hw
        · have hw := hw.2 hc
          refine g_iconst (v := 1) dX12_road_72 (by decide) ?_
          refine g_goto 77 dX12_road_73 rfl ?_
          exact g_iret dX12_road_77 hw
      | k + 3, hj, _ => exact absurd hj (by omega)
  · have hw := hw.2 hc
    refine g_bipush (v := (-2)) dX12_road_14 (by decide) ?_
    exact g_iret dX12_road_16 hw
theorem dX12_pay_0 : decode cX12_pay 0 = .ok (.aload_n 0, 1) := by decide +kernel
theorem dX12_pay_1 : decode cX12_pay 1 = .ok (.iconst 0, 1) := by decide +kernel
theorem dX12_pay_2 : decode cX12_pay 2 = .ok (.putfield 1, 3) := by decide +kernel
theorem dX12_pay_5 : decode cX12_pay 5 = .ok (.aload_n 0, 1) := by decide +kernel
theorem dX12_pay_6 : decode cX12_pay 6 = .ok (.iload_n 1, 1) := by decide +kernel
theorem dX12_pay_7 : decode cX12_pay 7 = .ok (.i2l, 1) := by decide +kernel
theorem dX12_pay_8 : decode cX12_pay 8 = .ok (.invokevirtual 275, 3) := by decide +kernel
theorem dX12_pay_11 : decode cX12_pay 11 = .ok (.ifCond .eq 19, 3) := by decide +kernel
theorem dX12_pay_14 : decode cX12_pay 14 = .ok (.aload_n 0, 1) := by decide +kernel
theorem dX12_pay_15 : decode cX12_pay 15 = .ok (.iload_n 1, 1) := by decide +kernel
theorem dX12_pay_16 : decode cX12_pay 16 = .ok (.aload_n 0, 1) := by decide +kernel
theorem dX12_pay_17 : decode cX12_pay 17 = .ok (.getfield 13, 3) := by decide +kernel
theorem dX12_pay_20 : decode cX12_pay 20 = .ok (.bipush 61, 2) := by decide +kernel
theorem dX12_pay_22 : decode cX12_pay 22 = .ok (.iaload, 1) := by decide +kernel
theorem dX12_pay_23 : decode cX12_pay 23 = .ok (.invokevirtual 247, 3) := by decide +kernel
theorem dX12_pay_26 : decode cX12_pay 26 = .ok (.i2l, 1) := by decide +kernel
theorem dX12_pay_27 : decode cX12_pay 27 = .ok (.goto 6, 3) := by decide +kernel
theorem dX12_pay_30 : decode cX12_pay 30 = .ok (.ldc2_w 278, 3) := by decide +kernel
theorem dX12_pay_33 : decode cX12_pay 33 = .ok (.lreturn, 1) := by decide +kernel
theorem kl_X12_278 : Cond.constantLong RX12 278 (-9000000000000000002) ∈ Wd := mW 1699 (by decide +kernel) rfl
def M_pay (x1 : Int32) (h : Hp) (Q : Int64 → Hp → Prop) : Prop := ∀ h1 : Hp, h1 = sI h 98 0 0 → M_isRoad ((x1).toInt64) h1 (fun r2 h3 => (r2 = 0 → Q (-9000000000000000002 : Int64) h3) ∧ (¬ r2 = 0 → M_payBy x1 (gI h3 99 61) h3 (fun r4 h5 => Q ((r4).toInt64) h5)))
set_option maxHeartbeats 4000000 in
set_option maxRecDepth 20000 in
theorem c_M_pay {G : Gx}  {x1 : Int32} {h : Hp} {Q : Int64 → Hp → Prop} (hw : M_pay x1 h Q) : Ct yX12_pay cX12_pay 2 (some .long) 4 G [.ref (gAd G 98), .int x1] h (QJ G Q) := by
  refine ct_go [(0, .ref (gAd G 98)), (1, .int x1)] (plainFor_of_name (by decide)) rfl (Nat.le_of_ble_eq_true rfl) rfl ?_
  refine g_aload_n dX12_pay_0 rfl rfl ?_
  refine g_iconst (v := 0) dX12_pay_1 (by decide) ?_
  refine g_putI dX12_pay_2 fl_X12_1 sh98 rfl rfl pf_12_0 ?_
  refine g_heap (fun h1 eh1 => ?_)
  have hw := hw h1 eh1
  refine g_aload_n dX12_pay_5 rfl rfl ?_
  refine g_iload_n dX12_pay_6 rfl rfl ?_
  refine g_i2l dX12_pay_7 ?_
  refine g_callVI [.long ((x1).toInt64)] (ci := 12) dX12_pay_8 ml_X12_275 mk_X12_isRoad rfl rfl sh98 (Nat.le_of_ble_eq_true rfl) (Nat.le_of_ble_eq_true rfl) rfl (c_M_isRoad hw) (fun r2 h3 hw => ?_)
  refine g_if_eq 30 dX12_pay_11 rfl (fun hc => ?_) (fun hc => ?_)
  · have hw := hw.1 hc
    refine g_ldc2 dX12_pay_30 kl_X12_278 ?_
    exact g_lret dX12_pay_33 hw
  · have hw := hw.2 hc
    refine g_aload_n dX12_pay_14 rfl rfl ?_
    refine g_iload_n dX12_pay_15 rfl rfl ?_
    refine g_aload_n dX12_pay_16 rfl rfl ?_
    refine g_getA dX12_pay_17 fl_X12_13 sh98 rfl ?_
    refine g_bipush (v := 61) dX12_pay_20 (by decide) ?_
    refine g_ialdK dX12_pay_22 ia99 al99 (by unfold vp_in; decide) (k := 61) (by decide) ?_
    refine g_callVI [.int x1, .int (gI h3 99 61)] (ci := 12) dX12_pay_23 ml_X12_247 mk_X12_payBy rfl rfl sh98 (Nat.le_of_ble_eq_true rfl) (Nat.le_of_ble_eq_true rfl) rfl (c_M_payBy hw) (fun r4 h5 hw => ?_)
    refine g_i2l dX12_pay_26 ?_
    refine g_goto 33 dX12_pay_27 rfl ?_
    exact g_lret dX12_pay_33 hw
theorem dX12_whyMove_0 : decode cX12_whyMove 0 = .ok (.aload_n 0, 1) := by decide +kernel
theorem dX12_whyMove_1 : decode cX12_whyMove 1 = .ok (.invokevirtual 260, 3) := by decide +kernel
theorem dX12_whyMove_4 : decode cX12_whyMove 4 = .ok (.lload_n 1, 1) := by decide +kernel
theorem dX12_whyMove_5 : decode cX12_whyMove 5 = .ok (.ldc2_w 280, 3) := by decide +kernel
theorem dX12_whyMove_8 : decode cX12_whyMove 8 = .ok (.lcmp, 1) := by decide +kernel
theorem dX12_whyMove_9 : decode cX12_whyMove 9 = .ok (.ifCond .ne 38, 3) := by decide +kernel
theorem dX12_whyMove_12 : decode cX12_whyMove 12 = .ok (.aload_n 0, 1) := by decide +kernel
theorem dX12_whyMove_13 : decode cX12_whyMove 13 = .ok (.getfield 45, 3) := by decide +kernel
theorem dX12_whyMove_16 : decode cX12_whyMove 16 = .ok (.aload_n 0, 1) := by decide +kernel
theorem dX12_whyMove_17 : decode cX12_whyMove 17 = .ok (.getfield 13, 3) := by decide +kernel
theorem dX12_whyMove_20 : decode cX12_whyMove 20 = .ok (.bipush 58, 2) := by decide +kernel
theorem dX12_whyMove_22 : decode cX12_whyMove 22 = .ok (.iaload, 1) := by decide +kernel
theorem dX12_whyMove_23 : decode cX12_whyMove 23 = .ok (.iaload, 1) := by decide +kernel
theorem dX12_whyMove_24 : decode cX12_whyMove 24 = .ok (.i2l, 1) := by decide +kernel
theorem dX12_whyMove_25 : decode cX12_whyMove 25 = .ok (.bipush 16, 2) := by decide +kernel
theorem dX12_whyMove_27 : decode cX12_whyMove 27 = .ok (.aload_n 0, 1) := by decide +kernel
theorem dX12_whyMove_28 : decode cX12_whyMove 28 = .ok (.getfield 13, 3) := by decide +kernel
theorem dX12_whyMove_31 : decode cX12_whyMove 31 = .ok (.bipush 58, 2) := by decide +kernel
theorem dX12_whyMove_33 : decode cX12_whyMove 33 = .ok (.iaload, 1) := by decide +kernel
theorem dX12_whyMove_34 : decode cX12_whyMove 34 = .ok (.iadd, 1) := by decide +kernel
theorem dX12_whyMove_35 : decode cX12_whyMove 35 = .ok (.invokestatic 228, 3) := by decide +kernel
theorem dX12_whyMove_38 : decode cX12_whyMove 38 = .ok (.ifCond .eq 7, 3) := by decide +kernel
theorem dX12_whyMove_41 : decode cX12_whyMove 41 = .ok (.iconst 0, 1) := by decide +kernel
theorem dX12_whyMove_42 : decode cX12_whyMove 42 = .ok (.goto 4, 3) := by decide +kernel
theorem dX12_whyMove_45 : decode cX12_whyMove 45 = .ok (.iconst 1, 1) := by decide +kernel
theorem dX12_whyMove_46 : decode cX12_whyMove 46 = .ok (.ireturn, 1) := by decide +kernel
theorem dX12_whyMove_47 : decode cX12_whyMove 47 = .ok (.aload_n 0, 1) := by decide +kernel
theorem dX12_whyMove_48 : decode cX12_whyMove 48 = .ok (.lload_n 1, 1) := by decide +kernel
theorem dX12_whyMove_49 : decode cX12_whyMove 49 = .ok (.invokevirtual 275, 3) := by decide +kernel
theorem dX12_whyMove_52 : decode cX12_whyMove 52 = .ok (.ifCond .ne 5, 3) := by decide +kernel
theorem dX12_whyMove_55 : decode cX12_whyMove 55 = .ok (.iconst 1, 1) := by decide +kernel
theorem dX12_whyMove_56 : decode cX12_whyMove 56 = .ok (.ireturn, 1) := by decide +kernel
theorem dX12_whyMove_57 : decode cX12_whyMove 57 = .ok (.aload_n 0, 1) := by decide +kernel
theorem dX12_whyMove_58 : decode cX12_whyMove 58 = .ok (.getfield 13, 3) := by decide +kernel
theorem dX12_whyMove_61 : decode cX12_whyMove 61 = .ok (.bipush 10, 2) := by decide +kernel
theorem dX12_whyMove_63 : decode cX12_whyMove 63 = .ok (.lload_n 1, 1) := by decide +kernel
theorem dX12_whyMove_64 : decode cX12_whyMove 64 = .ok (.l2i, 1) := by decide +kernel
theorem dX12_whyMove_65 : decode cX12_whyMove 65 = .ok (.iadd, 1) := by decide +kernel
theorem dX12_whyMove_66 : decode cX12_whyMove 66 = .ok (.iaload, 1) := by decide +kernel
theorem dX12_whyMove_67 : decode cX12_whyMove 67 = .ok (.aload_n 0, 1) := by decide +kernel
theorem dX12_whyMove_68 : decode cX12_whyMove 68 = .ok (.getfield 13, 3) := by decide +kernel
theorem dX12_whyMove_71 : decode cX12_whyMove 71 = .ok (.bipush 58, 2) := by decide +kernel
theorem dX12_whyMove_73 : decode cX12_whyMove 73 = .ok (.iaload, 1) := by decide +kernel
theorem dX12_whyMove_74 : decode cX12_whyMove 74 = .ok (.if_icmp .eq 5, 3) := by decide +kernel
theorem dX12_whyMove_77 : decode cX12_whyMove 77 = .ok (.iconst 2, 1) := by decide +kernel
theorem dX12_whyMove_78 : decode cX12_whyMove 78 = .ok (.ireturn, 1) := by decide +kernel
theorem dX12_whyMove_79 : decode cX12_whyMove 79 = .ok (.aload_n 0, 1) := by decide +kernel
theorem dX12_whyMove_80 : decode cX12_whyMove 80 = .ok (.lload_n 1, 1) := by decide +kernel
theorem dX12_whyMove_81 : decode cX12_whyMove 81 = .ok (.l2i, 1) := by decide +kernel
theorem dX12_whyMove_82 : decode cX12_whyMove 82 = .ok (.invokevirtual 250, 3) := by decide +kernel
theorem dX12_whyMove_85 : decode cX12_whyMove 85 = .ok (.ifCond .eq 7, 3) := by decide +kernel
theorem dX12_whyMove_88 : decode cX12_whyMove 88 = .ok (.iconst 0, 1) := by decide +kernel
theorem dX12_whyMove_89 : decode cX12_whyMove 89 = .ok (.goto 4, 3) := by decide +kernel
theorem dX12_whyMove_92 : decode cX12_whyMove 92 = .ok (.iconst 3, 1) := by decide +kernel
theorem dX12_whyMove_93 : decode cX12_whyMove 93 = .ok (.ireturn, 1) := by decide +kernel
theorem kl_X12_280 : Cond.constantLong RX12 280 (16) ∈ Wd := mW 1708 (by decide +kernel) rfl
def M_whyMove (x1 : Int64) (h : Hp) (Q : Int32 → Hp → Prop) : Prop := M_laysWays  h (fun h1 => (¬ x1 = (16 : Int64) → M_isRoad x1 h1 (fun r2 h3 => (¬ r2 = 0 → vp_in ((10 : Int32) + ((x1).toInt32)) 3276 ∧ ((gI h3 99 (((10 : Int32) + ((x1).toInt32))).toNatClampNeg) = (gI h3 99 58) → M_isOpen ((x1).toInt32) h3 (fun r4 h5 => (r4 = 0 → Q 3 h5) ∧ (¬ r4 = 0 → Q 0 h5))) ∧ (¬ (gI h3 99 (((10 : Int32) + ((x1).toInt32))).toNatClampNeg) = (gI h3 99 58) → Q 2 h3)) ∧ (r2 = 0 → Q 1 h3))) ∧ (x1 = (16 : Int64) → vp_in (gI h1 99 58) 8 ∧ M_isIn (((gI h1 108 ((gI h1 99 58)).toNatClampNeg)).toInt64) ((16 : Int32) + (gI h1 99 58)) h1 (fun r6 h7 => (r6 = 0 → Q 1 h7) ∧ (¬ r6 = 0 → Q 0 h7))))
set_option maxHeartbeats 4000000 in
set_option maxRecDepth 20000 in
theorem c_M_whyMove {G : Gx}  {x1 : Int64} {h : Hp} {Q : Int32 → Hp → Prop} (hw : M_whyMove x1 h Q) : Ct yX12_whyMove cX12_whyMove 3 (some .int) 5 G [.ref (gAd G 98), .long x1] h (QI G Q) := by
  refine ct_go [(0, .ref (gAd G 98)), (1, .long x1)] (plainFor_of_name (by decide)) rfl (Nat.le_of_ble_eq_true rfl) rfl ?_
  refine g_aload_n dX12_whyMove_0 rfl rfl ?_
  refine g_callVV [] (ci := 12) dX12_whyMove_1 ml_X12_260 mk_X12_laysWays rfl rfl sh98 (Nat.le_of_ble_eq_true rfl) (Nat.le_of_ble_eq_true rfl) rfl (c_M_laysWays hw) (fun h1 hw => ?_)
  refine g_lload_n dX12_whyMove_4 rfl rfl ?_
  refine g_ldc2 dX12_whyMove_5 kl_X12_280 ?_
  refine g_lc_ne 47 dX12_whyMove_8 dX12_whyMove_9 rfl (fun hc => ?_) (fun hc => ?_)
  · have hw := hw.1 hc
    refine g_aload_n dX12_whyMove_47 rfl rfl ?_
    refine g_lload_n dX12_whyMove_48 rfl rfl ?_
    refine g_callVI [.long x1] (ci := 12) dX12_whyMove_49 ml_X12_275 mk_X12_isRoad rfl rfl sh98 (Nat.le_of_ble_eq_true rfl) (Nat.le_of_ble_eq_true rfl) rfl (c_M_isRoad hw) (fun r2 h3 hw => ?_)
    refine g_if_ne 57 dX12_whyMove_52 rfl (fun hc => ?_) (fun hc => ?_)
    · have hw := hw.1 hc
      refine g_aload_n dX12_whyMove_57 rfl rfl ?_
      refine g_getA dX12_whyMove_58 fl_X12_13 sh98 rfl ?_
      refine g_bipush (v := 10) dX12_whyMove_61 (by decide) ?_
      refine g_lload_n dX12_whyMove_63 rfl rfl ?_
      refine g_l2i dX12_whyMove_64 ?_
      refine g_iadd dX12_whyMove_65 ?_
      refine g_iald dX12_whyMove_66 ia99 al99 hw.1 ?_
      have hw := hw.2
      refine g_aload_n dX12_whyMove_67 rfl rfl ?_
      refine g_getA dX12_whyMove_68 fl_X12_13 sh98 rfl ?_
      refine g_bipush (v := 58) dX12_whyMove_71 (by decide) ?_
      refine g_ialdK dX12_whyMove_73 ia99 al99 (by unfold vp_in; decide) (k := 58) (by decide) ?_
      refine g_icmp_eq 79 dX12_whyMove_74 rfl (fun hc => ?_) (fun hc => ?_)
      · have hw := hw.1 hc
        refine g_aload_n dX12_whyMove_79 rfl rfl ?_
        refine g_lload_n dX12_whyMove_80 rfl rfl ?_
        refine g_l2i dX12_whyMove_81 ?_
        refine g_callVI [.int ((x1).toInt32)] (ci := 12) dX12_whyMove_82 ml_X12_250 mk_X12_isOpen rfl rfl sh98 (Nat.le_of_ble_eq_true rfl) (Nat.le_of_ble_eq_true rfl) rfl (c_M_isOpen hw) (fun r4 h5 hw => ?_)
        refine g_if_eq 92 dX12_whyMove_85 rfl (fun hc => ?_) (fun hc => ?_)
        · have hw := hw.1 hc
          refine g_iconst (v := 3) dX12_whyMove_92 (by decide) ?_
          exact g_iret dX12_whyMove_93 hw
        · have hw := hw.2 hc
          refine g_iconst (v := 0) dX12_whyMove_88 (by decide) ?_
          refine g_goto 93 dX12_whyMove_89 rfl ?_
          exact g_iret dX12_whyMove_93 hw
      · have hw := hw.2 hc
        refine g_iconst (v := 2) dX12_whyMove_77 (by decide) ?_
        exact g_iret dX12_whyMove_78 hw
    · have hw := hw.2 hc
      refine g_iconst (v := 1) dX12_whyMove_55 (by decide) ?_
      exact g_iret dX12_whyMove_56 hw
  · have hw := hw.2 hc
    refine g_aload_n dX12_whyMove_12 rfl rfl ?_
    refine g_getA dX12_whyMove_13 fl_X12_45 sh98 rfl ?_
    refine g_aload_n dX12_whyMove_16 rfl rfl ?_
    refine g_getA dX12_whyMove_17 fl_X12_13 sh98 rfl ?_
    refine g_bipush (v := 58) dX12_whyMove_20 (by decide) ?_
    refine g_ialdK dX12_whyMove_22 ia99 al99 (by unfold vp_in; decide) (k := 58) (by decide) ?_
    refine g_iald dX12_whyMove_23 ia108 al108 hw.1 ?_
    have hw := hw.2
    refine g_i2l dX12_whyMove_24 ?_
    refine g_bipush (v := 16) dX12_whyMove_25 (by decide) ?_
    refine g_aload_n dX12_whyMove_27 rfl rfl ?_
    refine g_getA dX12_whyMove_28 fl_X12_13 sh98 rfl ?_
    refine g_bipush (v := 58) dX12_whyMove_31 (by decide) ?_
    refine g_ialdK dX12_whyMove_33 ia99 al99 (by unfold vp_in; decide) (k := 58) (by decide) ?_
    refine g_iadd dX12_whyMove_34 ?_
    refine g_callSI [.long (((gI h1 108 ((gI h1 99 58)).toNatClampNeg)).toInt64), .int ((16 : Int32) + (gI h1 99 58))] dX12_whyMove_35 ml_X12_228 mk_X12_isIn rfl (Nat.le_of_ble_eq_true rfl) (Nat.le_of_ble_eq_true rfl) rfl (c_M_isIn hw) (fun r6 h7 hw => ?_)
    refine g_if_eq 45 dX12_whyMove_38 rfl (fun hc => ?_) (fun hc => ?_)
    · have hw := hw.1 hc
      refine g_iconst (v := 1) dX12_whyMove_45 (by decide) ?_
      exact g_iret dX12_whyMove_46 hw
    · have hw := hw.2 hc
      refine g_iconst (v := 0) dX12_whyMove_41 (by decide) ?_
      refine g_goto 46 dX12_whyMove_42 rfl ?_
      exact g_iret dX12_whyMove_46 hw
theorem dX12_stores_0 : decode cX12_stores 0 = .ok (.iconst 0, 1) := by decide +kernel
theorem dX12_stores_1 : decode cX12_stores 1 = .ok (.istore_n 1, 1) := by decide +kernel
theorem dX12_stores_2 : decode cX12_stores 2 = .ok (.iload_n 1, 1) := by decide +kernel
theorem dX12_stores_3 : decode cX12_stores 3 = .ok (.bipush 12, 2) := by decide +kernel
theorem dX12_stores_5 : decode cX12_stores 5 = .ok (.if_icmp .ge 24, 3) := by decide +kernel
theorem dX12_stores_8 : decode cX12_stores 8 = .ok (.aload_n 0, 1) := by decide +kernel
theorem dX12_stores_9 : decode cX12_stores 9 = .ok (.getfield 48, 3) := by decide +kernel
theorem dX12_stores_12 : decode cX12_stores 12 = .ok (.iload_n 1, 1) := by decide +kernel
theorem dX12_stores_13 : decode cX12_stores 13 = .ok (.aload_n 0, 1) := by decide +kernel
theorem dX12_stores_14 : decode cX12_stores 14 = .ok (.getfield 13, 3) := by decide +kernel
theorem dX12_stores_17 : decode cX12_stores 17 = .ok (.bipush 58, 2) := by decide +kernel
theorem dX12_stores_19 : decode cX12_stores 19 = .ok (.iload_n 1, 1) := by decide +kernel
theorem dX12_stores_20 : decode cX12_stores 20 = .ok (.iadd, 1) := by decide +kernel
theorem dX12_stores_21 : decode cX12_stores 21 = .ok (.iaload, 1) := by decide +kernel
theorem dX12_stores_22 : decode cX12_stores 22 = .ok (.iastore, 1) := by decide +kernel
theorem dX12_stores_23 : decode cX12_stores 23 = .ok (.iinc 1 1, 3) := by decide +kernel
theorem dX12_stores_26 : decode cX12_stores 26 = .ok (.goto (-24), 3) := by decide +kernel
theorem dX12_stores_29 : decode cX12_stores 29 = .ok (.return_, 1) := by decide +kernel
theorem fl_X12_48 : FLk RX12 48 12 21 := ⟨_, rfl, by decide, mW 1403 (by decide +kernel) rfl⟩
def M_stores_L2 (Q : Hp → Prop) : Nat → Int32 → Hp → Prop
  | 0, _, _ => False
  | n + 1, x1, h => (12 ≤ x1 → Q h) ∧ (¬ 12 ≤ x1 → vp_in ((58 : Int32) + x1) 3276 ∧ vp_in x1 12 ∧ ∀ h1 : Hp, h1 = sI h 109 (x1).toNatClampNeg (gI h 99 (((58 : Int32) + x1)).toNatClampNeg) → ∀ v2 : Int32, v2 = (x1 + 1) → M_stores_L2 Q n v2 h1)
set_option maxHeartbeats 4000000 in
set_option maxRecDepth 20000 in
theorem gl_M_stores_L2 {G : Gx}  {Q : Hp → Prop} : ∀ (n : Nat) (x1 : Int32) (h : Hp), M_stores_L2 Q n x1 h → Go cX12_stores 2 RX12 none 1 G (QV G Q) 2 [(0, .ref (gAd G 98)), (1, .int x1)] [] h := by
  intro n
  induction n with
  | zero => intro _ h hw; exact False.elim hw
  | succ n ih =>
    intro x1 h hw
    refine g_iload_n dX12_stores_2 rfl rfl ?_
    refine g_bipush (v := 12) dX12_stores_3 (by decide) ?_
    refine g_icmp_ge 29 dX12_stores_5 rfl (fun hc => ?_) (fun hc => ?_)
    · have hw := hw.1 hc
      exact g_vret dX12_stores_29 hw
    · have hw := hw.2 hc
      refine g_aload_n dX12_stores_8 rfl rfl ?_
      refine g_getA dX12_stores_9 fl_X12_48 sh98 rfl ?_
      refine g_iload_n dX12_stores_12 rfl rfl ?_
      refine g_aload_n dX12_stores_13 rfl rfl ?_
      refine g_getA dX12_stores_14 fl_X12_13 sh98 rfl ?_
      refine g_bipush (v := 58) dX12_stores_17 (by decide) ?_
      refine g_iload_n dX12_stores_19 rfl rfl ?_
      refine g_iadd dX12_stores_20 ?_
      refine g_iald dX12_stores_21 ia99 al99 hw.1 ?_
      have hw := hw.2
      refine g_iast dX12_stores_22 ia109 al109 hw.1 ?_
      have hw := hw.2
      refine g_heap (fun h1 eh1 => ?_)
      have hw := hw h1 eh1
      obtain ⟨v2, ev2⟩ : ∃ y : Int32, y = (x1 + 1) := ⟨_, rfl⟩
      have hw := hw v2 ev2
      refine g_iinc dX12_stores_23 rfl (by rw [ev2]; rfl) (by decide) (lv1 := [(0, .ref (gAd G 98)), (1, .int v2)]) rfl ?_
      refine g_goto 2 dX12_stores_26 rfl ?_
      exact ih _ _ hw
def M_stores  (h : Hp) (Q : Hp → Prop) : Prop := ∃ n3, M_stores_L2 Q n3 0 h
set_option maxHeartbeats 4000000 in
set_option maxRecDepth 20000 in
theorem c_M_stores {G : Gx}   {h : Hp} {Q : Hp → Prop} (hw : M_stores  h Q) : Ct yX12_stores cX12_stores 2 none 1 G [.ref (gAd G 98)] h (QV G Q) := by
  refine ct_go [(0, .ref (gAd G 98))] (plainFor_of_name (by decide)) rfl (Nat.le_of_ble_eq_true rfl) rfl ?_
  refine g_iconst (v := 0) dX12_stores_0 (by decide) ?_
  refine g_istore_n dX12_stores_1 rfl (by decide) (lv1 := [(0, .ref (gAd G 98)), (1, .int 0)]) rfl ?_
  obtain ⟨n3, hw⟩ := hw
  refine gl_M_stores_L2   _ _ _ hw
theorem dX12_wayToldBy_0 : decode cX12_wayToldBy 0 = .ok (.iload_n 1, 1) := by decide +kernel
theorem dX12_wayToldBy_1 : decode cX12_wayToldBy 1 = .ok (.bipush 16, 2) := by decide +kernel
theorem dX12_wayToldBy_3 : decode cX12_wayToldBy 3 = .ok (.if_icmp .ge 7, 3) := by decide +kernel
theorem dX12_wayToldBy_6 : decode cX12_wayToldBy 6 = .ok (.iload_n 1, 1) := by decide +kernel
theorem dX12_wayToldBy_7 : decode cX12_wayToldBy 7 = .ok (.goto 13, 3) := by decide +kernel
theorem dX12_wayToldBy_10 : decode cX12_wayToldBy 10 = .ok (.bipush 16, 2) := by decide +kernel
theorem dX12_wayToldBy_12 : decode cX12_wayToldBy 12 = .ok (.aload_n 0, 1) := by decide +kernel
theorem dX12_wayToldBy_13 : decode cX12_wayToldBy 13 = .ok (.getfield 13, 3) := by decide +kernel
theorem dX12_wayToldBy_16 : decode cX12_wayToldBy 16 = .ok (.bipush 58, 2) := by decide +kernel
theorem dX12_wayToldBy_18 : decode cX12_wayToldBy 18 = .ok (.iaload, 1) := by decide +kernel
theorem dX12_wayToldBy_19 : decode cX12_wayToldBy 19 = .ok (.iadd, 1) := by decide +kernel
theorem dX12_wayToldBy_20 : decode cX12_wayToldBy 20 = .ok (.ireturn, 1) := by decide +kernel
def M_wayToldBy (x1 : Int32) (h : Hp) (Q : Int32 → Hp → Prop) : Prop := (16 ≤ x1 → Q ((16 : Int32) + (gI h 99 58)) h) ∧ (¬ 16 ≤ x1 → Q x1 h)
set_option maxHeartbeats 4000000 in
set_option maxRecDepth 20000 in
theorem c_M_wayToldBy {G : Gx}  {x1 : Int32} {h : Hp} {Q : Int32 → Hp → Prop} (hw : M_wayToldBy x1 h Q) : Ct yX12_wayToldBy cX12_wayToldBy 2 (some .int) 1 G [.ref (gAd G 98), .int x1] h (QI G Q) := by
  refine ct_go [(0, .ref (gAd G 98)), (1, .int x1)] (plainFor_of_name (by decide)) rfl (Nat.le_of_ble_eq_true rfl) rfl ?_
  refine g_iload_n dX12_wayToldBy_0 rfl rfl ?_
  refine g_bipush (v := 16) dX12_wayToldBy_1 (by decide) ?_
  refine g_icmp_ge 10 dX12_wayToldBy_3 rfl (fun hc => ?_) (fun hc => ?_)
  · have hw := hw.1 hc
    refine g_bipush (v := 16) dX12_wayToldBy_10 (by decide) ?_
    refine g_aload_n dX12_wayToldBy_12 rfl rfl ?_
    refine g_getA dX12_wayToldBy_13 fl_X12_13 sh98 rfl ?_
    refine g_bipush (v := 58) dX12_wayToldBy_16 (by decide) ?_
    refine g_ialdK dX12_wayToldBy_18 ia99 al99 (by unfold vp_in; decide) (k := 58) (by decide) ?_
    refine g_iadd dX12_wayToldBy_19 ?_
    exact g_iret dX12_wayToldBy_20 hw
  · have hw := hw.2 hc
    refine g_iload_n dX12_wayToldBy_6 rfl rfl ?_
    refine g_goto 20 dX12_wayToldBy_7 rfl ?_
    exact g_iret dX12_wayToldBy_20 hw
theorem dX12_goesWay_0 : decode cX12_goesWay 0 = .ok (.aload_n 0, 1) := by decide +kernel
theorem dX12_goesWay_1 : decode cX12_goesWay 1 = .ok (.getfield 13, 3) := by decide +kernel
theorem dX12_goesWay_4 : decode cX12_goesWay 4 = .ok (.bipush 58, 2) := by decide +kernel
theorem dX12_goesWay_6 : decode cX12_goesWay 6 = .ok (.aload_n 0, 1) := by decide +kernel
theorem dX12_goesWay_7 : decode cX12_goesWay 7 = .ok (.getfield 39, 3) := by decide +kernel
theorem dX12_goesWay_10 : decode cX12_goesWay 10 = .ok (.iload_n 1, 1) := by decide +kernel
theorem dX12_goesWay_11 : decode cX12_goesWay 11 = .ok (.iaload, 1) := by decide +kernel
theorem dX12_goesWay_12 : decode cX12_goesWay 12 = .ok (.iastore, 1) := by decide +kernel
theorem dX12_goesWay_13 : decode cX12_goesWay 13 = .ok (.aload_n 0, 1) := by decide +kernel
theorem dX12_goesWay_14 : decode cX12_goesWay 14 = .ok (.getfield 13, 3) := by decide +kernel
theorem dX12_goesWay_17 : decode cX12_goesWay 17 = .ok (.bipush 59, 2) := by decide +kernel
theorem dX12_goesWay_19 : decode cX12_goesWay 19 = .ok (.dup2, 1) := by decide +kernel
theorem dX12_goesWay_20 : decode cX12_goesWay 20 = .ok (.iaload, 1) := by decide +kernel
theorem dX12_goesWay_21 : decode cX12_goesWay 21 = .ok (.aload_n 0, 1) := by decide +kernel
theorem dX12_goesWay_22 : decode cX12_goesWay 22 = .ok (.getfield 42, 3) := by decide +kernel
theorem dX12_goesWay_25 : decode cX12_goesWay 25 = .ok (.iload_n 1, 1) := by decide +kernel
theorem dX12_goesWay_26 : decode cX12_goesWay 26 = .ok (.iaload, 1) := by decide +kernel
theorem dX12_goesWay_27 : decode cX12_goesWay 27 = .ok (.iadd, 1) := by decide +kernel
theorem dX12_goesWay_28 : decode cX12_goesWay 28 = .ok (.iastore, 1) := by decide +kernel
theorem dX12_goesWay_29 : decode cX12_goesWay 29 = .ok (.aload_n 0, 1) := by decide +kernel
theorem dX12_goesWay_30 : decode cX12_goesWay 30 = .ok (.getfield 13, 3) := by decide +kernel
theorem dX12_goesWay_33 : decode cX12_goesWay 33 = .ok (.bipush 60, 2) := by decide +kernel
theorem dX12_goesWay_35 : decode cX12_goesWay 35 = .ok (.dup2, 1) := by decide +kernel
theorem dX12_goesWay_36 : decode cX12_goesWay 36 = .ok (.iaload, 1) := by decide +kernel
theorem dX12_goesWay_37 : decode cX12_goesWay 37 = .ok (.iconst 1, 1) := by decide +kernel
theorem dX12_goesWay_38 : decode cX12_goesWay 38 = .ok (.iadd, 1) := by decide +kernel
theorem dX12_goesWay_39 : decode cX12_goesWay 39 = .ok (.iastore, 1) := by decide +kernel
theorem dX12_goesWay_40 : decode cX12_goesWay 40 = .ok (.aload_n 0, 1) := by decide +kernel
theorem dX12_goesWay_41 : decode cX12_goesWay 41 = .ok (.getfield 42, 3) := by decide +kernel
theorem dX12_goesWay_44 : decode cX12_goesWay 44 = .ok (.iload_n 1, 1) := by decide +kernel
theorem dX12_goesWay_45 : decode cX12_goesWay 45 = .ok (.iaload, 1) := by decide +kernel
theorem dX12_goesWay_46 : decode cX12_goesWay 46 = .ok (.ireturn, 1) := by decide +kernel
def M_goesWay (x1 : Int32) (h : Hp) (Q : Int32 → Hp → Prop) : Prop := vp_in x1 24 ∧ ∀ h1 : Hp, h1 = sI h 99 58 (gI h 106 (x1).toNatClampNeg) → vp_in x1 24 ∧ ∀ h2 : Hp, h2 = sI h1 99 59 ((gI h1 99 59) + (gI h1 107 (x1).toNatClampNeg)) → ∀ h3 : Hp, h3 = sI h2 99 60 ((gI h2 99 60) + 1) → vp_in x1 24 ∧ Q (gI h3 107 (x1).toNatClampNeg) h3
set_option maxHeartbeats 4000000 in
set_option maxRecDepth 20000 in
theorem c_M_goesWay {G : Gx}  {x1 : Int32} {h : Hp} {Q : Int32 → Hp → Prop} (hw : M_goesWay x1 h Q) : Ct yX12_goesWay cX12_goesWay 2 (some .int) 1 G [.ref (gAd G 98), .int x1] h (QI G Q) := by
  refine ct_go [(0, .ref (gAd G 98)), (1, .int x1)] (plainFor_of_name (by decide)) rfl (Nat.le_of_ble_eq_true rfl) rfl ?_
  refine g_aload_n dX12_goesWay_0 rfl rfl ?_
  refine g_getA dX12_goesWay_1 fl_X12_13 sh98 rfl ?_
  refine g_bipush (v := 58) dX12_goesWay_4 (by decide) ?_
  refine g_aload_n dX12_goesWay_6 rfl rfl ?_
  refine g_getA dX12_goesWay_7 fl_X12_39 sh98 rfl ?_
  refine g_iload_n dX12_goesWay_10 rfl rfl ?_
  refine g_iald dX12_goesWay_11 ia106 al106 hw.1 ?_
  have hw := hw.2
  refine g_iastK dX12_goesWay_12 ia99 al99 (by unfold vp_in; decide) (k := 58) (by decide) ?_
  refine g_heap (fun h1 eh1 => ?_)
  have hw := hw h1 eh1
  refine g_aload_n dX12_goesWay_13 rfl rfl ?_
  refine g_getA dX12_goesWay_14 fl_X12_13 sh98 rfl ?_
  refine g_bipush (v := 59) dX12_goesWay_17 (by decide) ?_
  refine g_dup2_11 dX12_goesWay_19 rfl rfl ?_
  refine g_ialdK dX12_goesWay_20 ia99 al99 (by unfold vp_in; decide) (k := 59) (by decide) ?_
  refine g_aload_n dX12_goesWay_21 rfl rfl ?_
  refine g_getA dX12_goesWay_22 fl_X12_42 sh98 rfl ?_
  refine g_iload_n dX12_goesWay_25 rfl rfl ?_
  refine g_iald dX12_goesWay_26 ia107 al107 hw.1 ?_
  have hw := hw.2
  refine g_iadd dX12_goesWay_27 ?_
  refine g_iastK dX12_goesWay_28 ia99 al99 (by unfold vp_in; decide) (k := 59) (by decide) ?_
  refine g_heap (fun h2 eh2 => ?_)
  have hw := hw h2 eh2
  refine g_aload_n dX12_goesWay_29 rfl rfl ?_
  refine g_getA dX12_goesWay_30 fl_X12_13 sh98 rfl ?_
  refine g_bipush (v := 60) dX12_goesWay_33 (by decide) ?_
  refine g_dup2_11 dX12_goesWay_35 rfl rfl ?_
  refine g_ialdK dX12_goesWay_36 ia99 al99 (by unfold vp_in; decide) (k := 60) (by decide) ?_
  refine g_iconst (v := 1) dX12_goesWay_37 (by decide) ?_
  refine g_iadd dX12_goesWay_38 ?_
  refine g_iastK dX12_goesWay_39 ia99 al99 (by unfold vp_in; decide) (k := 60) (by decide) ?_
  refine g_heap (fun h3 eh3 => ?_)
  have hw := hw h3 eh3
  refine g_aload_n dX12_goesWay_40 rfl rfl ?_
  refine g_getA dX12_goesWay_41 fl_X12_42 sh98 rfl ?_
  refine g_iload_n dX12_goesWay_44 rfl rfl ?_
  refine g_iald dX12_goesWay_45 ia107 al107 hw.1 ?_
  have hw := hw.2
  exact g_iret dX12_goesWay_46 hw
theorem dX12_notes_0 : decode cX12_notes 0 = .ok (.aload_n 0, 1) := by decide +kernel
theorem dX12_notes_1 : decode cX12_notes 1 = .ok (.getfield 13, 3) := by decide +kernel
theorem dX12_notes_4 : decode cX12_notes 4 = .ok (.bipush 70, 2) := by decide +kernel
theorem dX12_notes_6 : decode cX12_notes 6 = .ok (.iaload, 1) := by decide +kernel
theorem dX12_notes_7 : decode cX12_notes 7 = .ok (.bipush 10, 2) := by decide +kernel
theorem dX12_notes_9 : decode cX12_notes 9 = .ok (.if_icmp .ne 46, 3) := by decide +kernel
theorem dX12_notes_12 : decode cX12_notes 12 = .ok (.iconst 0, 1) := by decide +kernel
theorem dX12_notes_13 : decode cX12_notes 13 = .ok (.istore_n 1, 1) := by decide +kernel
theorem dX12_notes_14 : decode cX12_notes 14 = .ok (.iload_n 1, 1) := by decide +kernel
theorem dX12_notes_15 : decode cX12_notes 15 = .ok (.bipush 108, 2) := by decide +kernel
theorem dX12_notes_17 : decode cX12_notes 17 = .ok (.if_icmp .ge 27, 3) := by decide +kernel
theorem dX12_notes_20 : decode cX12_notes 20 = .ok (.aload_n 0, 1) := by decide +kernel
theorem dX12_notes_21 : decode cX12_notes 21 = .ok (.getfield 13, 3) := by decide +kernel
theorem dX12_notes_24 : decode cX12_notes 24 = .ok (.bipush 71, 2) := by decide +kernel
theorem dX12_notes_26 : decode cX12_notes 26 = .ok (.iload_n 1, 1) := by decide +kernel
theorem dX12_notes_27 : decode cX12_notes 27 = .ok (.iadd, 1) := by decide +kernel
theorem dX12_notes_28 : decode cX12_notes 28 = .ok (.aload_n 0, 1) := by decide +kernel
theorem dX12_notes_29 : decode cX12_notes 29 = .ok (.getfield 13, 3) := by decide +kernel
theorem dX12_notes_32 : decode cX12_notes 32 = .ok (.bipush 83, 2) := by decide +kernel
theorem dX12_notes_34 : decode cX12_notes 34 = .ok (.iload_n 1, 1) := by decide +kernel
theorem dX12_notes_35 : decode cX12_notes 35 = .ok (.iadd, 1) := by decide +kernel
theorem dX12_notes_36 : decode cX12_notes 36 = .ok (.iaload, 1) := by decide +kernel
theorem dX12_notes_37 : decode cX12_notes 37 = .ok (.iastore, 1) := by decide +kernel
theorem dX12_notes_38 : decode cX12_notes 38 = .ok (.iinc 1 1, 3) := by decide +kernel
theorem dX12_notes_41 : decode cX12_notes 41 = .ok (.goto (-27), 3) := by decide +kernel
theorem dX12_notes_44 : decode cX12_notes 44 = .ok (.aload_n 0, 1) := by decide +kernel
theorem dX12_notes_45 : decode cX12_notes 45 = .ok (.getfield 13, 3) := by decide +kernel
theorem dX12_notes_48 : decode cX12_notes 48 = .ok (.bipush 70, 2) := by decide +kernel
theorem dX12_notes_50 : decode cX12_notes 50 = .ok (.dup2, 1) := by decide +kernel
theorem dX12_notes_51 : decode cX12_notes 51 = .ok (.iaload, 1) := by decide +kernel
theorem dX12_notes_52 : decode cX12_notes 52 = .ok (.iconst 1, 1) := by decide +kernel
theorem dX12_notes_53 : decode cX12_notes 53 = .ok (.isub, 1) := by decide +kernel
theorem dX12_notes_54 : decode cX12_notes 54 = .ok (.iastore, 1) := by decide +kernel
theorem dX12_notes_55 : decode cX12_notes 55 = .ok (.iconst 0, 1) := by decide +kernel
theorem dX12_notes_56 : decode cX12_notes 56 = .ok (.istore_n 1, 1) := by decide +kernel
theorem dX12_notes_57 : decode cX12_notes 57 = .ok (.iload_n 1, 1) := by decide +kernel
theorem dX12_notes_58 : decode cX12_notes 58 = .ok (.bipush 12, 2) := by decide +kernel
theorem dX12_notes_60 : decode cX12_notes 60 = .ok (.if_icmp .ge 35, 3) := by decide +kernel
theorem dX12_notes_63 : decode cX12_notes 63 = .ok (.aload_n 0, 1) := by decide +kernel
theorem dX12_notes_64 : decode cX12_notes 64 = .ok (.getfield 13, 3) := by decide +kernel
theorem dX12_notes_67 : decode cX12_notes 67 = .ok (.bipush 71, 2) := by decide +kernel
theorem dX12_notes_69 : decode cX12_notes 69 = .ok (.bipush 12, 2) := by decide +kernel
theorem dX12_notes_71 : decode cX12_notes 71 = .ok (.aload_n 0, 1) := by decide +kernel
theorem dX12_notes_72 : decode cX12_notes 72 = .ok (.getfield 13, 3) := by decide +kernel
theorem dX12_notes_75 : decode cX12_notes 75 = .ok (.bipush 70, 2) := by decide +kernel
theorem dX12_notes_77 : decode cX12_notes 77 = .ok (.iaload, 1) := by decide +kernel
theorem dX12_notes_78 : decode cX12_notes 78 = .ok (.imul, 1) := by decide +kernel
theorem dX12_notes_79 : decode cX12_notes 79 = .ok (.iadd, 1) := by decide +kernel
theorem dX12_notes_80 : decode cX12_notes 80 = .ok (.iload_n 1, 1) := by decide +kernel
theorem dX12_notes_81 : decode cX12_notes 81 = .ok (.iadd, 1) := by decide +kernel
theorem dX12_notes_82 : decode cX12_notes 82 = .ok (.aload_n 0, 1) := by decide +kernel
theorem dX12_notes_83 : decode cX12_notes 83 = .ok (.getfield 48, 3) := by decide +kernel
theorem dX12_notes_86 : decode cX12_notes 86 = .ok (.iload_n 1, 1) := by decide +kernel
theorem dX12_notes_87 : decode cX12_notes 87 = .ok (.iaload, 1) := by decide +kernel
theorem dX12_notes_88 : decode cX12_notes 88 = .ok (.iastore, 1) := by decide +kernel
theorem dX12_notes_89 : decode cX12_notes 89 = .ok (.iinc 1 1, 3) := by decide +kernel
theorem dX12_notes_92 : decode cX12_notes 92 = .ok (.goto (-35), 3) := by decide +kernel
theorem dX12_notes_95 : decode cX12_notes 95 = .ok (.aload_n 0, 1) := by decide +kernel
theorem dX12_notes_96 : decode cX12_notes 96 = .ok (.getfield 13, 3) := by decide +kernel
theorem dX12_notes_99 : decode cX12_notes 99 = .ok (.bipush 70, 2) := by decide +kernel
theorem dX12_notes_101 : decode cX12_notes 101 = .ok (.dup2, 1) := by decide +kernel
theorem dX12_notes_102 : decode cX12_notes 102 = .ok (.iaload, 1) := by decide +kernel
theorem dX12_notes_103 : decode cX12_notes 103 = .ok (.iconst 1, 1) := by decide +kernel
theorem dX12_notes_104 : decode cX12_notes 104 = .ok (.iadd, 1) := by decide +kernel
theorem dX12_notes_105 : decode cX12_notes 105 = .ok (.iastore, 1) := by decide +kernel
theorem dX12_notes_106 : decode cX12_notes 106 = .ok (.return_, 1) := by decide +kernel
def M_notes_L57 (Q : Hp → Prop) : Nat → Int32 → Hp → Prop
  | 0, _, _ => False
  | n + 1, x1, h => (12 ≤ x1 → ∀ h2 : Hp, h2 = sI h 99 70 ((gI h 99 70) + 1) → Q h2) ∧ (¬ 12 ≤ x1 → vp_in x1 12 ∧ vp_in (((71 : Int32) + ((12 : Int32) * (gI h 99 70))) + x1) 3276 ∧ ∀ h3 : Hp, h3 = sI h 99 ((((71 : Int32) + ((12 : Int32) * (gI h 99 70))) + x1)).toNatClampNeg (gI h 109 (x1).toNatClampNeg) → ∀ v4 : Int32, v4 = (x1 + 1) → M_notes_L57 Q n v4 h3)
set_option maxHeartbeats 4000000 in
set_option maxRecDepth 20000 in
theorem gl_M_notes_L57 {G : Gx}  {Q : Hp → Prop} : ∀ (n : Nat) (x1 : Int32) (h : Hp), M_notes_L57 Q n x1 h → Go cX12_notes 2 RX12 none 1 G (QV G Q) 57 [(0, .ref (gAd G 98)), (1, .int x1)] [] h := by
  intro n
  induction n with
  | zero => intro _ h hw; exact False.elim hw
  | succ n ih =>
    intro x1 h hw
    refine g_iload_n dX12_notes_57 rfl rfl ?_
    refine g_bipush (v := 12) dX12_notes_58 (by decide) ?_
    refine g_icmp_ge 95 dX12_notes_60 rfl (fun hc => ?_) (fun hc => ?_)
    · have hw := hw.1 hc
      refine g_aload_n dX12_notes_95 rfl rfl ?_
      refine g_getA dX12_notes_96 fl_X12_13 sh98 rfl ?_
      refine g_bipush (v := 70) dX12_notes_99 (by decide) ?_
      refine g_dup2_11 dX12_notes_101 rfl rfl ?_
      refine g_ialdK dX12_notes_102 ia99 al99 (by unfold vp_in; decide) (k := 70) (by decide) ?_
      refine g_iconst (v := 1) dX12_notes_103 (by decide) ?_
      refine g_iadd dX12_notes_104 ?_
      refine g_iastK dX12_notes_105 ia99 al99 (by unfold vp_in; decide) (k := 70) (by decide) ?_
      refine g_heap (fun h2 eh2 => ?_)
      have hw := hw h2 eh2
      exact g_vret dX12_notes_106 hw
    · have hw := hw.2 hc
      refine g_aload_n dX12_notes_63 rfl rfl ?_
      refine g_getA dX12_notes_64 fl_X12_13 sh98 rfl ?_
      refine g_bipush (v := 71) dX12_notes_67 (by decide) ?_
      refine g_bipush (v := 12) dX12_notes_69 (by decide) ?_
      refine g_aload_n dX12_notes_71 rfl rfl ?_
      refine g_getA dX12_notes_72 fl_X12_13 sh98 rfl ?_
      refine g_bipush (v := 70) dX12_notes_75 (by decide) ?_
      refine g_ialdK dX12_notes_77 ia99 al99 (by unfold vp_in; decide) (k := 70) (by decide) ?_
      refine g_imul dX12_notes_78 ?_
      refine g_iadd dX12_notes_79 ?_
      refine g_iload_n dX12_notes_80 rfl rfl ?_
      refine g_iadd dX12_notes_81 ?_
      refine g_aload_n dX12_notes_82 rfl rfl ?_
      refine g_getA dX12_notes_83 fl_X12_48 sh98 rfl ?_
      refine g_iload_n dX12_notes_86 rfl rfl ?_
      refine g_iald dX12_notes_87 ia109 al109 hw.1 ?_
      have hw := hw.2
      refine g_iast dX12_notes_88 ia99 al99 hw.1 ?_
      have hw := hw.2
      refine g_heap (fun h3 eh3 => ?_)
      have hw := hw h3 eh3
      obtain ⟨v4, ev4⟩ : ∃ y : Int32, y = (x1 + 1) := ⟨_, rfl⟩
      have hw := hw v4 ev4
      refine g_iinc dX12_notes_89 rfl (by rw [ev4]; rfl) (by decide) (lv1 := [(0, .ref (gAd G 98)), (1, .int v4)]) rfl ?_
      refine g_goto 57 dX12_notes_92 rfl ?_
      exact ih _ _ hw
def M_notes_L14 (K44 : Hp → Prop) : Nat → Int32 → Hp → Prop
  | 0, _, _ => False
  | n + 1, x1, h => (108 ≤ x1 → K44 h) ∧ (¬ 108 ≤ x1 → vp_in ((83 : Int32) + x1) 3276 ∧ vp_in ((71 : Int32) + x1) 3276 ∧ ∀ h6 : Hp, h6 = sI h 99 (((71 : Int32) + x1)).toNatClampNeg (gI h 99 (((83 : Int32) + x1)).toNatClampNeg) → ∀ v7 : Int32, v7 = (x1 + 1) → M_notes_L14 K44 n v7 h6)
set_option maxHeartbeats 4000000 in
set_option maxRecDepth 20000 in
theorem gl_M_notes_L14 {G : Gx}  {Q : Hp → Prop} {K44 : Hp → Prop} (hK44 : ∀  (h1 : Hp), K44  h1 → Go cX12_notes 2 RX12 none 1 G (QV G Q) 44 [(0, .ref (gAd G 98))] [] h1) : ∀ (n : Nat) (x1 : Int32) (h : Hp), M_notes_L14 K44 n x1 h → Go cX12_notes 2 RX12 none 1 G (QV G Q) 14 [(0, .ref (gAd G 98)), (1, .int x1)] [] h := by
  intro n
  induction n with
  | zero => intro _ h hw; exact False.elim hw
  | succ n ih =>
    intro x1 h hw
    refine g_iload_n dX12_notes_14 rfl rfl ?_
    refine g_bipush (v := 108) dX12_notes_15 (by decide) ?_
    refine g_icmp_ge 44 dX12_notes_17 rfl (fun hc => ?_) (fun hc => ?_)
    · have hw := hw.1 hc
      refine g_lv [0] rfl ?_
      exact hK44 _ hw
    · have hw := hw.2 hc
      refine g_aload_n dX12_notes_20 rfl rfl ?_
      refine g_getA dX12_notes_21 fl_X12_13 sh98 rfl ?_
      refine g_bipush (v := 71) dX12_notes_24 (by decide) ?_
      refine g_iload_n dX12_notes_26 rfl rfl ?_
      refine g_iadd dX12_notes_27 ?_
      refine g_aload_n dX12_notes_28 rfl rfl ?_
      refine g_getA dX12_notes_29 fl_X12_13 sh98 rfl ?_
      refine g_bipush (v := 83) dX12_notes_32 (by decide) ?_
      refine g_iload_n dX12_notes_34 rfl rfl ?_
      refine g_iadd dX12_notes_35 ?_
      refine g_iald dX12_notes_36 ia99 al99 hw.1 ?_
      have hw := hw.2
      refine g_iast dX12_notes_37 ia99 al99 hw.1 ?_
      have hw := hw.2
      refine g_heap (fun h6 eh6 => ?_)
      have hw := hw h6 eh6
      obtain ⟨v7, ev7⟩ : ∃ y : Int32, y = (x1 + 1) := ⟨_, rfl⟩
      have hw := hw v7 ev7
      refine g_iinc dX12_notes_38 rfl (by rw [ev7]; rfl) (by decide) (lv1 := [(0, .ref (gAd G 98)), (1, .int v7)]) rfl ?_
      refine g_goto 14 dX12_notes_41 rfl ?_
      exact ih _ _ hw
def M_notes  (h : Hp) (Q : Hp → Prop) : Prop := ∀ J55 : Hp → Prop, J55 = (fun h1 => ∃ n5, M_notes_L57 Q n5 0 h1) → (¬ (gI h 99 70) = 10 → J55 h) ∧ ((gI h 99 70) = 10 → ∃ n8, M_notes_L14 (fun h9 => ∀ h10 : Hp, h10 = sI h9 99 70 ((gI h9 99 70) - 1) → J55 h10) n8 0 h)
set_option maxHeartbeats 4000000 in
set_option maxRecDepth 20000 in
theorem c_M_notes {G : Gx}   {h : Hp} {Q : Hp → Prop} (hw : M_notes  h Q) : Ct yX12_notes cX12_notes 2 none 1 G [.ref (gAd G 98)] h (QV G Q) := by
  refine ct_go [(0, .ref (gAd G 98))] (plainFor_of_name (by decide)) rfl (Nat.le_of_ble_eq_true rfl) rfl ?_
  refine g_aload_n dX12_notes_0 rfl rfl ?_
  refine g_getA dX12_notes_1 fl_X12_13 sh98 rfl ?_
  refine g_bipush (v := 70) dX12_notes_4 (by decide) ?_
  refine g_ialdK dX12_notes_6 ia99 al99 (by unfold vp_in; decide) (k := 70) (by decide) ?_
  refine g_bipush (v := 10) dX12_notes_7 (by decide) ?_
  refine jn_el hw (fun J55 eJ55 hw => ?_)
  have hJ55 : ∀ (h1 : Hp), J55 h1 → Go cX12_notes 2 RX12 none 1 G (QV G Q) 55 [(0, .ref (gAd G 98))] [] h1 := by
    intro h1 hw
    subst eJ55
    refine g_iconst (v := 0) dX12_notes_55 (by decide) ?_
    refine g_istore_n dX12_notes_56 rfl (by decide) (lv1 := [(0, .ref (gAd G 98)), (1, .int 0)]) rfl ?_
    obtain ⟨n5, hw⟩ := hw
    refine gl_M_notes_L57   _ _ _ hw
  refine g_icmp_ne 55 dX12_notes_9 rfl (fun hc => ?_) (fun hc => ?_)
  · have hw := hw.1 hc
    exact hJ55 _ hw
  · have hw := hw.2 hc
    refine g_iconst (v := 0) dX12_notes_12 (by decide) ?_
    refine g_istore_n dX12_notes_13 rfl (by decide) (lv1 := [(0, .ref (gAd G 98)), (1, .int 0)]) rfl ?_
    obtain ⟨n8, hw⟩ := hw
    refine gl_M_notes_L14  ?_ _ _ _ hw
    · intro h9 hw
      refine g_aload_n dX12_notes_44 rfl rfl ?_
      refine g_getA dX12_notes_45 fl_X12_13 sh98 rfl ?_
      refine g_bipush (v := 70) dX12_notes_48 (by decide) ?_
      refine g_dup2_11 dX12_notes_50 rfl rfl ?_
      refine g_ialdK dX12_notes_51 ia99 al99 (by unfold vp_in; decide) (k := 70) (by decide) ?_
      refine g_iconst (v := 1) dX12_notes_52 (by decide) ?_
      refine g_isub dX12_notes_53 ?_
      refine g_iastK dX12_notes_54 ia99 al99 (by unfold vp_in; decide) (k := 70) (by decide) ?_
      refine g_heap (fun h10 eh10 => ?_)
      have hw := hw h10 eh10
      exact hJ55 _ hw
theorem dX12_move_0 : decode cX12_move 0 = .ok (.aload_n 0, 1) := by decide +kernel
theorem dX12_move_1 : decode cX12_move 1 = .ok (.iconst 0, 1) := by decide +kernel
theorem dX12_move_2 : decode cX12_move 2 = .ok (.putfield 1, 3) := by decide +kernel
theorem dX12_move_5 : decode cX12_move 5 = .ok (.aload_n 0, 1) := by decide +kernel
theorem dX12_move_6 : decode cX12_move 6 = .ok (.iload_n 1, 1) := by decide +kernel
theorem dX12_move_7 : decode cX12_move 7 = .ok (.i2l, 1) := by decide +kernel
theorem dX12_move_8 : decode cX12_move 8 = .ok (.invokevirtual 282, 3) := by decide +kernel
theorem dX12_move_11 : decode cX12_move 11 = .ok (.istore_n 2, 1) := by decide +kernel
theorem dX12_move_12 : decode cX12_move 12 = .ok (.iload_n 2, 1) := by decide +kernel
theorem dX12_move_13 : decode cX12_move 13 = .ok (.ifCond .eq 10, 3) := by decide +kernel
theorem dX12_move_16 : decode cX12_move 16 = .ok (.ldc2_w 286, 3) := by decide +kernel
theorem dX12_move_19 : decode cX12_move 19 = .ok (.iload_n 2, 1) := by decide +kernel
theorem dX12_move_20 : decode cX12_move 20 = .ok (.i2l, 1) := by decide +kernel
theorem dX12_move_21 : decode cX12_move 21 = .ok (.lsub, 1) := by decide +kernel
theorem dX12_move_22 : decode cX12_move 22 = .ok (.lreturn, 1) := by decide +kernel
theorem dX12_move_23 : decode cX12_move 23 = .ok (.aload_n 0, 1) := by decide +kernel
theorem dX12_move_24 : decode cX12_move 24 = .ok (.invokevirtual 288, 3) := by decide +kernel
theorem dX12_move_27 : decode cX12_move 27 = .ok (.aload_n 0, 1) := by decide +kernel
theorem dX12_move_28 : decode cX12_move 28 = .ok (.aload_n 0, 1) := by decide +kernel
theorem dX12_move_29 : decode cX12_move 29 = .ok (.iload_n 1, 1) := by decide +kernel
theorem dX12_move_30 : decode cX12_move 30 = .ok (.invokevirtual 291, 3) := by decide +kernel
theorem dX12_move_33 : decode cX12_move 33 = .ok (.invokevirtual 294, 3) := by decide +kernel
theorem dX12_move_36 : decode cX12_move 36 = .ok (.istore_n 3, 1) := by decide +kernel
theorem dX12_move_37 : decode cX12_move 37 = .ok (.aload_n 0, 1) := by decide +kernel
theorem dX12_move_38 : decode cX12_move 38 = .ok (.invokevirtual 297, 3) := by decide +kernel
theorem dX12_move_41 : decode cX12_move 41 = .ok (.iload_n 3, 1) := by decide +kernel
theorem dX12_move_42 : decode cX12_move 42 = .ok (.i2l, 1) := by decide +kernel
theorem dX12_move_43 : decode cX12_move 43 = .ok (.lreturn, 1) := by decide +kernel
theorem ml_X12_282 : Cond.methodLink RX12 282 yX12_whyMove ∈ Wd := mW 1704 (by decide +kernel) rfl
theorem mk_X12_whyMove : MokV yX12_whyMove cX12_whyMove 3 (some .int) 1 := ⟨⟨mW 14 (by decide +kernel) rfl, mW 1707 (by decide +kernel) rfl, ⟨by decide, by decide, by decide +kernel⟩, by decide⟩, mW 1706 (by decide +kernel) rfl, mS (q := (yX12_whyMove, 46)) 79 (by decide +kernel)⟩
theorem ml_X12_288 : Cond.methodLink RX12 288 yX12_stores ∈ Wd := mW 1710 (by decide +kernel) rfl
theorem mk_X12_stores : MokV yX12_stores cX12_stores 2 none 0 := ⟨⟨mW 14 (by decide +kernel) rfl, mW 1713 (by decide +kernel) rfl, ⟨by decide, by decide, by decide +kernel⟩, by decide⟩, mW 1712 (by decide +kernel) rfl, mS (q := (yX12_stores, 46)) 80 (by decide +kernel)⟩
theorem ml_X12_291 : Cond.methodLink RX12 291 yX12_wayToldBy ∈ Wd := mW 1714 (by decide +kernel) rfl
theorem mk_X12_wayToldBy : MokV yX12_wayToldBy cX12_wayToldBy 2 (some .int) 1 := ⟨⟨mW 14 (by decide +kernel) rfl, mW 1717 (by decide +kernel) rfl, ⟨by decide, by decide, by decide +kernel⟩, by decide⟩, mW 1716 (by decide +kernel) rfl, mS (q := (yX12_wayToldBy, 46)) 81 (by decide +kernel)⟩
theorem ml_X12_294 : Cond.methodLink RX12 294 yX12_goesWay ∈ Wd := mW 1718 (by decide +kernel) rfl
theorem mk_X12_goesWay : MokV yX12_goesWay cX12_goesWay 2 (some .int) 1 := ⟨⟨mW 14 (by decide +kernel) rfl, mW 1721 (by decide +kernel) rfl, ⟨by decide, by decide, by decide +kernel⟩, by decide⟩, mW 1720 (by decide +kernel) rfl, mS (q := (yX12_goesWay, 46)) 82 (by decide +kernel)⟩
theorem ml_X12_297 : Cond.methodLink RX12 297 yX12_notes ∈ Wd := mW 1722 (by decide +kernel) rfl
theorem mk_X12_notes : MokV yX12_notes cX12_notes 2 none 0 := ⟨⟨mW 14 (by decide +kernel) rfl, mW 1725 (by decide +kernel) rfl, ⟨by decide, by decide, by decide +kernel⟩, by decide⟩, mW 1724 (by decide +kernel) rfl, mS (q := (yX12_notes, 46)) 83 (by decide +kernel)⟩
theorem kl_X12_286 : Cond.constantLong RX12 286 (-9000000000000000010) ∈ Wd := mW 1709 (by decide +kernel) rfl
def M_move (x1 : Int32) (h : Hp) (Q : Int64 → Hp → Prop) : Prop := ∀ h1 : Hp, h1 = sI h 98 0 0 → M_whyMove ((x1).toInt64) h1 (fun r2 h3 => (r2 = 0 → M_stores  h3 (fun h4 => M_wayToldBy x1 h4 (fun r5 h6 => M_goesWay r5 h6 (fun r7 h8 => M_notes  h8 (fun h9 => Q ((r7).toInt64) h9))))) ∧ (¬ r2 = 0 → Q ((-9000000000000000010 : Int64) - ((r2).toInt64)) h3))
set_option maxHeartbeats 4000000 in
set_option maxRecDepth 20000 in
theorem c_M_move {G : Gx}  {x1 : Int32} {h : Hp} {Q : Int64 → Hp → Prop} (hw : M_move x1 h Q) : Ct yX12_move cX12_move 4 (some .long) 6 G [.ref (gAd G 98), .int x1] h (QJ G Q) := by
  refine ct_go [(0, .ref (gAd G 98)), (1, .int x1)] (plainFor_of_name (by decide)) rfl (Nat.le_of_ble_eq_true rfl) rfl ?_
  refine g_aload_n dX12_move_0 rfl rfl ?_
  refine g_iconst (v := 0) dX12_move_1 (by decide) ?_
  refine g_putI dX12_move_2 fl_X12_1 sh98 rfl rfl pf_12_0 ?_
  refine g_heap (fun h1 eh1 => ?_)
  have hw := hw h1 eh1
  refine g_aload_n dX12_move_5 rfl rfl ?_
  refine g_iload_n dX12_move_6 rfl rfl ?_
  refine g_i2l dX12_move_7 ?_
  refine g_callVI [.long ((x1).toInt64)] (ci := 12) dX12_move_8 ml_X12_282 mk_X12_whyMove rfl rfl sh98 (Nat.le_of_ble_eq_true rfl) (Nat.le_of_ble_eq_true rfl) rfl (c_M_whyMove hw) (fun r2 h3 hw => ?_)
  refine g_istore_n dX12_move_11 rfl (by decide) (lv1 := [(0, .ref (gAd G 98)), (1, .int x1), (2, .int r2)]) rfl ?_
  refine g_iload_n dX12_move_12 rfl rfl ?_
  refine g_if_eq 23 dX12_move_13 rfl (fun hc => ?_) (fun hc => ?_)
  · have hw := hw.1 hc
    refine g_aload_n dX12_move_23 rfl rfl ?_
    refine g_callVV [] (ci := 12) dX12_move_24 ml_X12_288 mk_X12_stores rfl rfl sh98 (Nat.le_of_ble_eq_true rfl) (Nat.le_of_ble_eq_true rfl) rfl (c_M_stores hw) (fun h4 hw => ?_)
    refine g_aload_n dX12_move_27 rfl rfl ?_
    refine g_aload_n dX12_move_28 rfl rfl ?_
    refine g_iload_n dX12_move_29 rfl rfl ?_
    refine g_callVI [.int x1] (ci := 12) dX12_move_30 ml_X12_291 mk_X12_wayToldBy rfl rfl sh98 (Nat.le_of_ble_eq_true rfl) (Nat.le_of_ble_eq_true rfl) rfl (c_M_wayToldBy hw) (fun r5 h6 hw => ?_)
    refine g_callVI [.int r5] (ci := 12) dX12_move_33 ml_X12_294 mk_X12_goesWay rfl rfl sh98 (Nat.le_of_ble_eq_true rfl) (Nat.le_of_ble_eq_true rfl) rfl (c_M_goesWay hw) (fun r7 h8 hw => ?_)
    refine g_istore_n dX12_move_36 rfl (by decide) (lv1 := [(0, .ref (gAd G 98)), (1, .int x1), (2, .int r2), (3, .int r7)]) rfl ?_
    refine g_aload_n dX12_move_37 rfl rfl ?_
    refine g_callVV [] (ci := 12) dX12_move_38 ml_X12_297 mk_X12_notes rfl rfl sh98 (Nat.le_of_ble_eq_true rfl) (Nat.le_of_ble_eq_true rfl) rfl (c_M_notes hw) (fun h9 hw => ?_)
    refine g_iload_n dX12_move_41 rfl rfl ?_
    refine g_i2l dX12_move_42 ?_
    exact g_lret dX12_move_43 hw
  · have hw := hw.2 hc
    refine g_ldc2 dX12_move_16 kl_X12_286 ?_
    refine g_iload_n dX12_move_19 rfl rfl ?_
    refine g_i2l dX12_move_20 ?_
    refine g_lsub dX12_move_21 ?_
    exact g_lret dX12_move_22 hw
theorem dX12_moves_0 : decode cX12_moves 0 = .ok (.aload_n 0, 1) := by decide +kernel
theorem dX12_moves_1 : decode cX12_moves 1 = .ok (.iconst 0, 1) := by decide +kernel
theorem dX12_moves_2 : decode cX12_moves 2 = .ok (.putfield 1, 3) := by decide +kernel
theorem dX12_moves_5 : decode cX12_moves 5 = .ok (.iload_n 1, 1) := by decide +kernel
theorem dX12_moves_6 : decode cX12_moves 6 = .ok (.i2l, 1) := by decide +kernel
theorem dX12_moves_7 : decode cX12_moves 7 = .ok (.lconst 1, 1) := by decide +kernel
theorem dX12_moves_8 : decode cX12_moves 8 = .ok (.ldc2_w 300, 3) := by decide +kernel
theorem dX12_moves_11 : decode cX12_moves 11 = .ok (.invokestatic 169, 3) := by decide +kernel
theorem dX12_moves_14 : decode cX12_moves 14 = .ok (.ifCond .ne 7, 3) := by decide +kernel
theorem dX12_moves_17 : decode cX12_moves 17 = .ok (.ldc2_w 302, 3) := by decide +kernel
theorem dX12_moves_20 : decode cX12_moves 20 = .ok (.lreturn, 1) := by decide +kernel
theorem dX12_moves_21 : decode cX12_moves 21 = .ok (.aload_n 0, 1) := by decide +kernel
theorem dX12_moves_22 : decode cX12_moves 22 = .ok (.invokevirtual 288, 3) := by decide +kernel
theorem dX12_moves_25 : decode cX12_moves 25 = .ok (.aload_n 0, 1) := by decide +kernel
theorem dX12_moves_26 : decode cX12_moves 26 = .ok (.invokevirtual 260, 3) := by decide +kernel
theorem dX12_moves_29 : decode cX12_moves 29 = .ok (.iconst 0, 1) := by decide +kernel
theorem dX12_moves_30 : decode cX12_moves 30 = .ok (.istore_n 2, 1) := by decide +kernel
theorem dX12_moves_31 : decode cX12_moves 31 = .ok (.iload_n 2, 1) := by decide +kernel
theorem dX12_moves_32 : decode cX12_moves 32 = .ok (.iload_n 1, 1) := by decide +kernel
theorem dX12_moves_33 : decode cX12_moves 33 = .ok (.if_icmp .ge 25, 3) := by decide +kernel
theorem dX12_moves_36 : decode cX12_moves 36 = .ok (.aload_n 0, 1) := by decide +kernel
theorem dX12_moves_37 : decode cX12_moves 37 = .ok (.aload_n 0, 1) := by decide +kernel
theorem dX12_moves_38 : decode cX12_moves 38 = .ok (.aload_n 0, 1) := by decide +kernel
theorem dX12_moves_39 : decode cX12_moves 39 = .ok (.getfield 13, 3) := by decide +kernel
theorem dX12_moves_42 : decode cX12_moves 42 = .ok (.bipush 58, 2) := by decide +kernel
theorem dX12_moves_44 : decode cX12_moves 44 = .ok (.iaload, 1) := by decide +kernel
theorem dX12_moves_45 : decode cX12_moves 45 = .ok (.invokevirtual 269, 3) := by decide +kernel
theorem dX12_moves_48 : decode cX12_moves 48 = .ok (.invokevirtual 294, 3) := by decide +kernel
theorem dX12_moves_51 : decode cX12_moves 51 = .ok (.pop, 1) := by decide +kernel
theorem dX12_moves_52 : decode cX12_moves 52 = .ok (.iinc 2 1, 3) := by decide +kernel
theorem dX12_moves_55 : decode cX12_moves 55 = .ok (.goto (-24), 3) := by decide +kernel
theorem dX12_moves_58 : decode cX12_moves 58 = .ok (.aload_n 0, 1) := by decide +kernel
theorem dX12_moves_59 : decode cX12_moves 59 = .ok (.invokevirtual 297, 3) := by decide +kernel
theorem dX12_moves_62 : decode cX12_moves 62 = .ok (.aload_n 0, 1) := by decide +kernel
theorem dX12_moves_63 : decode cX12_moves 63 = .ok (.getfield 13, 3) := by decide +kernel
theorem dX12_moves_66 : decode cX12_moves 66 = .ok (.bipush 59, 2) := by decide +kernel
theorem dX12_moves_68 : decode cX12_moves 68 = .ok (.iaload, 1) := by decide +kernel
theorem dX12_moves_69 : decode cX12_moves 69 = .ok (.i2l, 1) := by decide +kernel
theorem dX12_moves_70 : decode cX12_moves 70 = .ok (.aload_n 0, 1) := by decide +kernel
theorem dX12_moves_71 : decode cX12_moves 71 = .ok (.getfield 48, 3) := by decide +kernel
theorem dX12_moves_74 : decode cX12_moves 74 = .ok (.iconst 1, 1) := by decide +kernel
theorem dX12_moves_75 : decode cX12_moves 75 = .ok (.iaload, 1) := by decide +kernel
theorem dX12_moves_76 : decode cX12_moves 76 = .ok (.i2l, 1) := by decide +kernel
theorem dX12_moves_77 : decode cX12_moves 77 = .ok (.lsub, 1) := by decide +kernel
theorem dX12_moves_78 : decode cX12_moves 78 = .ok (.lreturn, 1) := by decide +kernel
theorem kl_X12_300 : Cond.constantLong RX12 300 (99) ∈ Wd := mW 1730 (by decide +kernel) rfl
theorem kl_X12_302 : Cond.constantLong RX12 302 (-9000000000000000003) ∈ Wd := mW 1731 (by decide +kernel) rfl
def M_moves_L31 (x1 : Int32) (Q : Int64 → Hp → Prop) : Nat → Int32 → Hp → Prop
  | 0, _, _ => False
  | n + 1, x2, h => (x1 ≤ x2 → M_notes  h (fun h6 => Q ((((gI h6 99 59)).toInt64) - (((gI h6 109 1)).toInt64)) h6)) ∧ (¬ x1 ≤ x2 → M_planned (gI h 99 58) h (fun r7 h8 => M_goesWay r7 h8 (fun r9 h10 => ∀ v11 : Int32, v11 = (x2 + 1) → M_moves_L31 x1 Q n v11 h10)))
set_option maxHeartbeats 4000000 in
set_option maxRecDepth 20000 in
theorem gl_M_moves_L31 {G : Gx}  {x1 : Int32} {Q : Int64 → Hp → Prop} : ∀ (n : Nat) (x2 : Int32) (h : Hp), M_moves_L31 x1 Q n x2 h → Go cX12_moves 3 RX12 (some .long) 5 G (QJ G Q) 31 [(0, .ref (gAd G 98)), (1, .int x1), (2, .int x2)] [] h := by
  intro n
  induction n with
  | zero => intro _ h hw; exact False.elim hw
  | succ n ih =>
    intro x2 h hw
    refine g_iload_n dX12_moves_31 rfl rfl ?_
    refine g_iload_n dX12_moves_32 rfl rfl ?_
    refine g_icmp_ge 58 dX12_moves_33 rfl (fun hc => ?_) (fun hc => ?_)
    · have hw := hw.1 hc
      refine g_aload_n dX12_moves_58 rfl rfl ?_
      refine g_callVV [] (ci := 12) dX12_moves_59 ml_X12_297 mk_X12_notes rfl rfl sh98 (Nat.le_of_ble_eq_true rfl) (Nat.le_of_ble_eq_true rfl) rfl (c_M_notes hw) (fun h6 hw => ?_)
      refine g_aload_n dX12_moves_62 rfl rfl ?_
      refine g_getA dX12_moves_63 fl_X12_13 sh98 rfl ?_
      refine g_bipush (v := 59) dX12_moves_66 (by decide) ?_
      refine g_ialdK dX12_moves_68 ia99 al99 (by unfold vp_in; decide) (k := 59) (by decide) ?_
      refine g_i2l dX12_moves_69 ?_
      refine g_aload_n dX12_moves_70 rfl rfl ?_
      refine g_getA dX12_moves_71 fl_X12_48 sh98 rfl ?_
      refine g_iconst (v := 1) dX12_moves_74 (by decide) ?_
      refine g_ialdK dX12_moves_75 ia109 al109 (by unfold vp_in; decide) (k := 1) (by decide) ?_
      refine g_i2l dX12_moves_76 ?_
      refine g_lsub dX12_moves_77 ?_
      exact g_lret dX12_moves_78 hw
    · have hw := hw.2 hc
      refine g_aload_n dX12_moves_36 rfl rfl ?_
      refine g_aload_n dX12_moves_37 rfl rfl ?_
      refine g_aload_n dX12_moves_38 rfl rfl ?_
      refine g_getA dX12_moves_39 fl_X12_13 sh98 rfl ?_
      refine g_bipush (v := 58) dX12_moves_42 (by decide) ?_
      refine g_ialdK dX12_moves_44 ia99 al99 (by unfold vp_in; decide) (k := 58) (by decide) ?_
      refine g_callVI [.int (gI h 99 58)] (ci := 12) dX12_moves_45 ml_X12_269 mk_X12_planned rfl rfl sh98 (Nat.le_of_ble_eq_true rfl) (Nat.le_of_ble_eq_true rfl) rfl (c_M_planned hw) (fun r7 h8 hw => ?_)
      refine g_callVI [.int r7] (ci := 12) dX12_moves_48 ml_X12_294 mk_X12_goesWay rfl rfl sh98 (Nat.le_of_ble_eq_true rfl) (Nat.le_of_ble_eq_true rfl) rfl (c_M_goesWay hw) (fun r9 h10 hw => ?_)
      refine g_pop dX12_moves_51 rfl ?_
      obtain ⟨v11, ev11⟩ : ∃ y : Int32, y = (x2 + 1) := ⟨_, rfl⟩
      have hw := hw v11 ev11
      refine g_iinc dX12_moves_52 rfl (by rw [ev11]; rfl) (by decide) (lv1 := [(0, .ref (gAd G 98)), (1, .int x1), (2, .int v11)]) rfl ?_
      refine g_goto 31 dX12_moves_55 rfl ?_
      exact ih _ _ hw
def M_moves (x1 : Int32) (h : Hp) (Q : Int64 → Hp → Prop) : Prop := ∀ h1 : Hp, h1 = sI h 98 0 0 → M_within ((x1).toInt64) (1 : Int64) (99 : Int64) h1 (fun r2 h3 => (¬ r2 = 0 → M_stores  h3 (fun h4 => M_laysWays  h4 (fun h5 => ∃ n12, M_moves_L31 x1 Q n12 0 h5))) ∧ (r2 = 0 → Q (-9000000000000000003 : Int64) h3))
set_option maxHeartbeats 4000000 in
set_option maxRecDepth 20000 in
theorem c_M_moves {G : Gx}  {x1 : Int32} {h : Hp} {Q : Int64 → Hp → Prop} (hw : M_moves x1 h Q) : Ct yX12_moves cX12_moves 3 (some .long) 5 G [.ref (gAd G 98), .int x1] h (QJ G Q) := by
  refine ct_go [(0, .ref (gAd G 98)), (1, .int x1)] (plainFor_of_name (by decide)) rfl (Nat.le_of_ble_eq_true rfl) rfl ?_
  refine g_aload_n dX12_moves_0 rfl rfl ?_
  refine g_iconst (v := 0) dX12_moves_1 (by decide) ?_
  refine g_putI dX12_moves_2 fl_X12_1 sh98 rfl rfl pf_12_0 ?_
  refine g_heap (fun h1 eh1 => ?_)
  have hw := hw h1 eh1
  refine g_iload_n dX12_moves_5 rfl rfl ?_
  refine g_i2l dX12_moves_6 ?_
  refine g_lconst (v := (1 : Int64)) dX12_moves_7 (by decide) ?_
  refine g_ldc2 dX12_moves_8 kl_X12_300 ?_
  refine g_callSI [.long ((x1).toInt64), .long (1 : Int64), .long (99 : Int64)] dX12_moves_11 ml_X12_169 mk_X12_within rfl (Nat.le_of_ble_eq_true rfl) (Nat.le_of_ble_eq_true rfl) rfl (c_M_within hw) (fun r2 h3 hw => ?_)
  refine g_if_ne 21 dX12_moves_14 rfl (fun hc => ?_) (fun hc => ?_)
  · have hw := hw.1 hc
    refine g_aload_n dX12_moves_21 rfl rfl ?_
    refine g_callVV [] (ci := 12) dX12_moves_22 ml_X12_288 mk_X12_stores rfl rfl sh98 (Nat.le_of_ble_eq_true rfl) (Nat.le_of_ble_eq_true rfl) rfl (c_M_stores hw) (fun h4 hw => ?_)
    refine g_aload_n dX12_moves_25 rfl rfl ?_
    refine g_callVV [] (ci := 12) dX12_moves_26 ml_X12_260 mk_X12_laysWays rfl rfl sh98 (Nat.le_of_ble_eq_true rfl) (Nat.le_of_ble_eq_true rfl) rfl (c_M_laysWays hw) (fun h5 hw => ?_)
    refine g_iconst (v := 0) dX12_moves_29 (by decide) ?_
    refine g_istore_n dX12_moves_30 rfl (by decide) (lv1 := [(0, .ref (gAd G 98)), (1, .int x1), (2, .int 0)]) rfl ?_
    obtain ⟨n12, hw⟩ := hw
    refine gl_M_moves_L31   _ _ _ hw
  · have hw := hw.2 hc
    refine g_ldc2 dX12_moves_17 kl_X12_302 ?_
    exact g_lret dX12_moves_20 hw
theorem dX12_whyPlan_0 : decode cX12_whyPlan 0 = .ok (.aload_n 0, 1) := by decide +kernel
theorem dX12_whyPlan_1 : decode cX12_whyPlan 1 = .ok (.lload_n 1, 1) := by decide +kernel
theorem dX12_whyPlan_2 : decode cX12_whyPlan 2 = .ok (.invokevirtual 256, 3) := by decide +kernel
theorem dX12_whyPlan_5 : decode cX12_whyPlan 5 = .ok (.ifCond .eq 19, 3) := by decide +kernel
theorem dX12_whyPlan_8 : decode cX12_whyPlan 8 = .ok (.lload_n 3, 1) := by decide +kernel
theorem dX12_whyPlan_9 : decode cX12_whyPlan 9 = .ok (.ldc2_w 304, 3) := by decide +kernel
theorem dX12_whyPlan_12 : decode cX12_whyPlan 12 = .ok (.lcmp, 1) := by decide +kernel
theorem dX12_whyPlan_13 : decode cX12_whyPlan 13 = .ok (.ifCond .eq 13, 3) := by decide +kernel
theorem dX12_whyPlan_16 : decode cX12_whyPlan 16 = .ok (.aload_n 0, 1) := by decide +kernel
theorem dX12_whyPlan_17 : decode cX12_whyPlan 17 = .ok (.lload_n 3, 1) := by decide +kernel
theorem dX12_whyPlan_18 : decode cX12_whyPlan 18 = .ok (.invokevirtual 275, 3) := by decide +kernel
theorem dX12_whyPlan_21 : decode cX12_whyPlan 21 = .ok (.ifCond .ne 5, 3) := by decide +kernel
theorem dX12_whyPlan_24 : decode cX12_whyPlan 24 = .ok (.iconst 1, 1) := by decide +kernel
theorem dX12_whyPlan_25 : decode cX12_whyPlan 25 = .ok (.ireturn, 1) := by decide +kernel
theorem dX12_whyPlan_26 : decode cX12_whyPlan 26 = .ok (.lload_n 3, 1) := by decide +kernel
theorem dX12_whyPlan_27 : decode cX12_whyPlan 27 = .ok (.ldc2_w 304, 3) := by decide +kernel
theorem dX12_whyPlan_30 : decode cX12_whyPlan 30 = .ok (.lcmp, 1) := by decide +kernel
theorem dX12_whyPlan_31 : decode cX12_whyPlan 31 = .ok (.ifCond .eq 19, 3) := by decide +kernel
theorem dX12_whyPlan_34 : decode cX12_whyPlan 34 = .ok (.aload_n 0, 1) := by decide +kernel
theorem dX12_whyPlan_35 : decode cX12_whyPlan 35 = .ok (.getfield 13, 3) := by decide +kernel
theorem dX12_whyPlan_38 : decode cX12_whyPlan 38 = .ok (.bipush 10, 2) := by decide +kernel
theorem dX12_whyPlan_40 : decode cX12_whyPlan 40 = .ok (.lload_n 3, 1) := by decide +kernel
theorem dX12_whyPlan_41 : decode cX12_whyPlan 41 = .ok (.l2i, 1) := by decide +kernel
theorem dX12_whyPlan_42 : decode cX12_whyPlan 42 = .ok (.iadd, 1) := by decide +kernel
theorem dX12_whyPlan_43 : decode cX12_whyPlan 43 = .ok (.iaload, 1) := by decide +kernel
theorem dX12_whyPlan_44 : decode cX12_whyPlan 44 = .ok (.i2l, 1) := by decide +kernel
theorem dX12_whyPlan_45 : decode cX12_whyPlan 45 = .ok (.lload_n 1, 1) := by decide +kernel
theorem dX12_whyPlan_46 : decode cX12_whyPlan 46 = .ok (.lcmp, 1) := by decide +kernel
theorem dX12_whyPlan_47 : decode cX12_whyPlan 47 = .ok (.ifCond .ne 7, 3) := by decide +kernel
theorem dX12_whyPlan_50 : decode cX12_whyPlan 50 = .ok (.iconst 0, 1) := by decide +kernel
theorem dX12_whyPlan_51 : decode cX12_whyPlan 51 = .ok (.goto 4, 3) := by decide +kernel
theorem dX12_whyPlan_54 : decode cX12_whyPlan 54 = .ok (.iconst 2, 1) := by decide +kernel
theorem dX12_whyPlan_55 : decode cX12_whyPlan 55 = .ok (.ireturn, 1) := by decide +kernel
theorem kl_X12_304 : Cond.constantLong RX12 304 (-1) ∈ Wd := mW 1740 (by decide +kernel) rfl
def M_whyPlan (x1 : Int64) (x3 : Int64) (h : Hp) (Q : Int32 → Hp → Prop) : Prop := M_isPlace x1 h (fun r1 h2 => (r1 = 0 → Q 1 h2) ∧ (¬ r1 = 0 → ∀ J26 : Hp → Prop, J26 = (fun h3 => ∀ J50 : Hp → Prop, J50 = (fun h4 => Q 0 h4) → (x3 = (-1 : Int64) → J50 h3) ∧ (¬ x3 = (-1 : Int64) → vp_in ((10 : Int32) + ((x3).toInt32)) 3276 ∧ (¬ (((gI h3 99 (((10 : Int32) + ((x3).toInt32))).toNatClampNeg)).toInt64) = x1 → Q 2 h3) ∧ ((((gI h3 99 (((10 : Int32) + ((x3).toInt32))).toNatClampNeg)).toInt64) = x1 → J50 h3))) → (x3 = (-1 : Int64) → J26 h2) ∧ (¬ x3 = (-1 : Int64) → M_isRoad x3 h2 (fun r5 h6 => (¬ r5 = 0 → J26 h6) ∧ (r5 = 0 → Q 1 h6)))))
set_option maxHeartbeats 4000000 in
set_option maxRecDepth 20000 in
theorem c_M_whyPlan {G : Gx}  {x1 : Int64} {x3 : Int64} {h : Hp} {Q : Int32 → Hp → Prop} (hw : M_whyPlan x1 x3 h Q) : Ct yX12_whyPlan cX12_whyPlan 5 (some .int) 3 G [.ref (gAd G 98), .long x1, .long x3] h (QI G Q) := by
  refine ct_go [(0, .ref (gAd G 98)), (1, .long x1), (3, .long x3)] (plainFor_of_name (by decide)) rfl (Nat.le_of_ble_eq_true rfl) rfl ?_
  refine g_aload_n dX12_whyPlan_0 rfl rfl ?_
  refine g_lload_n dX12_whyPlan_1 rfl rfl ?_
  refine g_callVI [.long x1] (ci := 12) dX12_whyPlan_2 ml_X12_256 mk_X12_isPlace rfl rfl sh98 (Nat.le_of_ble_eq_true rfl) (Nat.le_of_ble_eq_true rfl) rfl (c_M_isPlace hw) (fun r1 h2 hw => ?_)
  refine g_if_eq 24 dX12_whyPlan_5 rfl (fun hc => ?_) (fun hc => ?_)
  · have hw := hw.1 hc
    refine g_iconst (v := 1) dX12_whyPlan_24 (by decide) ?_
    exact g_iret dX12_whyPlan_25 hw
  · have hw := hw.2 hc
    refine g_lload_n dX12_whyPlan_8 rfl rfl ?_
    refine g_ldc2 dX12_whyPlan_9 kl_X12_304 ?_
    refine jn_el hw (fun J26 eJ26 hw => ?_)
    have hJ26 : ∀ (h3 : Hp), J26 h3 → Go cX12_whyPlan 5 RX12 (some .int) 3 G (QI G Q) 26 [(0, .ref (gAd G 98)), (1, .long x1), (3, .long x3)] [] h3 := by
      intro h3 hw
      subst eJ26
      refine g_lload_n dX12_whyPlan_26 rfl rfl ?_
      refine g_ldc2 dX12_whyPlan_27 kl_X12_304 ?_
      refine jn_el hw (fun J50 eJ50 hw => ?_)
      have hJ50 : ∀ (h4 : Hp), J50 h4 → Go cX12_whyPlan 5 RX12 (some .int) 3 G (QI G Q) 50 [] [] h4 := by
        intro h4 hw
        subst eJ50
        refine g_iconst (v := 0) dX12_whyPlan_50 (by decide) ?_
        refine g_goto 55 dX12_whyPlan_51 rfl ?_
        exact g_iret dX12_whyPlan_55 hw
      refine g_lc_eq 50 dX12_whyPlan_30 dX12_whyPlan_31 rfl (fun hc => ?_) (fun hc => ?_)
      · have hw := hw.1 hc
        refine g_lv [] rfl ?_
        exact hJ50 _ hw
      · have hw := hw.2 hc
        refine g_aload_n dX12_whyPlan_34 rfl rfl ?_
        refine g_getA dX12_whyPlan_35 fl_X12_13 sh98 rfl ?_
        refine g_bipush (v := 10) dX12_whyPlan_38 (by decide) ?_
        refine g_lload_n dX12_whyPlan_40 rfl rfl ?_
        refine g_l2i dX12_whyPlan_41 ?_
        refine g_iadd dX12_whyPlan_42 ?_
        refine g_iald dX12_whyPlan_43 ia99 al99 hw.1 ?_
        have hw := hw.2
        refine g_i2l dX12_whyPlan_44 ?_
        refine g_lload_n dX12_whyPlan_45 rfl rfl ?_
        refine g_lc_ne 54 dX12_whyPlan_46 dX12_whyPlan_47 rfl (fun hc => ?_) (fun hc => ?_)
        · have hw := hw.1 hc
          refine g_iconst (v := 2) dX12_whyPlan_54 (by decide) ?_
          exact g_iret dX12_whyPlan_55 hw
        · have hw := hw.2 hc
          refine g_lv [] rfl ?_
          exact hJ50 _ hw
    refine g_lc_eq 26 dX12_whyPlan_12 dX12_whyPlan_13 rfl (fun hc => ?_) (fun hc => ?_)
    · have hw := hw.1 hc
      exact hJ26 _ hw
    · have hw := hw.2 hc
      refine g_aload_n dX12_whyPlan_16 rfl rfl ?_
      refine g_lload_n dX12_whyPlan_17 rfl rfl ?_
      refine g_callVI [.long x3] (ci := 12) dX12_whyPlan_18 ml_X12_275 mk_X12_isRoad rfl rfl sh98 (Nat.le_of_ble_eq_true rfl) (Nat.le_of_ble_eq_true rfl) rfl (c_M_isRoad hw) (fun r5 h6 hw => ?_)
      refine g_if_ne 26 dX12_whyPlan_21 rfl (fun hc => ?_) (fun hc => ?_)
      · have hw := hw.1 hc
        exact hJ26 _ hw
      · have hw := hw.2 hc
        refine g_iconst (v := 1) dX12_whyPlan_24 (by decide) ?_
        exact g_iret dX12_whyPlan_25 hw
theorem dX12_plan_0 : decode cX12_plan 0 = .ok (.aload_n 0, 1) := by decide +kernel
theorem dX12_plan_1 : decode cX12_plan 1 = .ok (.iconst 0, 1) := by decide +kernel
theorem dX12_plan_2 : decode cX12_plan 2 = .ok (.putfield 1, 3) := by decide +kernel
theorem dX12_plan_5 : decode cX12_plan 5 = .ok (.aload_n 0, 1) := by decide +kernel
theorem dX12_plan_6 : decode cX12_plan 6 = .ok (.iload_n 1, 1) := by decide +kernel
theorem dX12_plan_7 : decode cX12_plan 7 = .ok (.i2l, 1) := by decide +kernel
theorem dX12_plan_8 : decode cX12_plan 8 = .ok (.iload_n 2, 1) := by decide +kernel
theorem dX12_plan_9 : decode cX12_plan 9 = .ok (.i2l, 1) := by decide +kernel
theorem dX12_plan_10 : decode cX12_plan 10 = .ok (.invokevirtual 306, 3) := by decide +kernel
theorem dX12_plan_13 : decode cX12_plan 13 = .ok (.istore_n 3, 1) := by decide +kernel
theorem dX12_plan_14 : decode cX12_plan 14 = .ok (.iload_n 3, 1) := by decide +kernel
theorem dX12_plan_15 : decode cX12_plan 15 = .ok (.ifCond .eq 8, 3) := by decide +kernel
theorem dX12_plan_18 : decode cX12_plan 18 = .ok (.bipush (-10), 2) := by decide +kernel
theorem dX12_plan_20 : decode cX12_plan 20 = .ok (.iload_n 3, 1) := by decide +kernel
theorem dX12_plan_21 : decode cX12_plan 21 = .ok (.isub, 1) := by decide +kernel
theorem dX12_plan_22 : decode cX12_plan 22 = .ok (.ireturn, 1) := by decide +kernel
theorem dX12_plan_23 : decode cX12_plan 23 = .ok (.aload_n 0, 1) := by decide +kernel
theorem dX12_plan_24 : decode cX12_plan 24 = .ok (.invokevirtual 288, 3) := by decide +kernel
theorem dX12_plan_27 : decode cX12_plan 27 = .ok (.aload_n 0, 1) := by decide +kernel
theorem dX12_plan_28 : decode cX12_plan 28 = .ok (.getfield 13, 3) := by decide +kernel
theorem dX12_plan_31 : decode cX12_plan 31 = .ok (.bipush 62, 2) := by decide +kernel
theorem dX12_plan_33 : decode cX12_plan 33 = .ok (.iload_n 1, 1) := by decide +kernel
theorem dX12_plan_34 : decode cX12_plan 34 = .ok (.iadd, 1) := by decide +kernel
theorem dX12_plan_35 : decode cX12_plan 35 = .ok (.iload_n 2, 1) := by decide +kernel
theorem dX12_plan_36 : decode cX12_plan 36 = .ok (.iastore, 1) := by decide +kernel
theorem dX12_plan_37 : decode cX12_plan 37 = .ok (.aload_n 0, 1) := by decide +kernel
theorem dX12_plan_38 : decode cX12_plan 38 = .ok (.invokevirtual 297, 3) := by decide +kernel
theorem dX12_plan_41 : decode cX12_plan 41 = .ok (.aload_n 0, 1) := by decide +kernel
theorem dX12_plan_42 : decode cX12_plan 42 = .ok (.getfield 48, 3) := by decide +kernel
theorem dX12_plan_45 : decode cX12_plan 45 = .ok (.iconst 4, 1) := by decide +kernel
theorem dX12_plan_46 : decode cX12_plan 46 = .ok (.iload_n 1, 1) := by decide +kernel
theorem dX12_plan_47 : decode cX12_plan 47 = .ok (.iadd, 1) := by decide +kernel
theorem dX12_plan_48 : decode cX12_plan 48 = .ok (.iaload, 1) := by decide +kernel
theorem dX12_plan_49 : decode cX12_plan 49 = .ok (.ireturn, 1) := by decide +kernel
theorem ml_X12_306 : Cond.methodLink RX12 306 yX12_whyPlan ∈ Wd := mW 1736 (by decide +kernel) rfl
theorem mk_X12_whyPlan : MokV yX12_whyPlan cX12_whyPlan 5 (some .int) 2 := ⟨⟨mW 14 (by decide +kernel) rfl, mW 1739 (by decide +kernel) rfl, ⟨by decide, by decide, by decide +kernel⟩, by decide⟩, mW 1738 (by decide +kernel) rfl, mS (q := (yX12_whyPlan, 46)) 84 (by decide +kernel)⟩
def M_plan (x1 : Int32) (x2 : Int32) (h : Hp) (Q : Int32 → Hp → Prop) : Prop := ∀ h1 : Hp, h1 = sI h 98 0 0 → M_whyPlan ((x1).toInt64) ((x2).toInt64) h1 (fun r2 h3 => (r2 = 0 → M_stores  h3 (fun h4 => vp_in ((62 : Int32) + x1) 3276 ∧ ∀ h5 : Hp, h5 = sI h4 99 (((62 : Int32) + x1)).toNatClampNeg x2 → M_notes  h5 (fun h6 => vp_in ((4 : Int32) + x1) 12 ∧ Q (gI h6 109 (((4 : Int32) + x1)).toNatClampNeg) h6))) ∧ (¬ r2 = 0 → Q ((-10 : Int32) - r2) h3))
set_option maxHeartbeats 4000000 in
set_option maxRecDepth 20000 in
theorem c_M_plan {G : Gx}  {x1 : Int32} {x2 : Int32} {h : Hp} {Q : Int32 → Hp → Prop} (hw : M_plan x1 x2 h Q) : Ct yX12_plan cX12_plan 4 (some .int) 4 G [.ref (gAd G 98), .int x1, .int x2] h (QI G Q) := by
  refine ct_go [(0, .ref (gAd G 98)), (1, .int x1), (2, .int x2)] (plainFor_of_name (by decide)) rfl (Nat.le_of_ble_eq_true rfl) rfl ?_
  refine g_aload_n dX12_plan_0 rfl rfl ?_
  refine g_iconst (v := 0) dX12_plan_1 (by decide) ?_
  refine g_putI dX12_plan_2 fl_X12_1 sh98 rfl rfl pf_12_0 ?_
  refine g_heap (fun h1 eh1 => ?_)
  have hw := hw h1 eh1
  refine g_aload_n dX12_plan_5 rfl rfl ?_
  refine g_iload_n dX12_plan_6 rfl rfl ?_
  refine g_i2l dX12_plan_7 ?_
  refine g_iload_n dX12_plan_8 rfl rfl ?_
  refine g_i2l dX12_plan_9 ?_
  refine g_callVI [.long ((x1).toInt64), .long ((x2).toInt64)] (ci := 12) dX12_plan_10 ml_X12_306 mk_X12_whyPlan rfl rfl sh98 (Nat.le_of_ble_eq_true rfl) (Nat.le_of_ble_eq_true rfl) rfl (c_M_whyPlan hw) (fun r2 h3 hw => ?_)
  refine g_istore_n dX12_plan_13 rfl (by decide) (lv1 := [(0, .ref (gAd G 98)), (1, .int x1), (2, .int x2), (3, .int r2)]) rfl ?_
  refine g_iload_n dX12_plan_14 rfl rfl ?_
  refine g_if_eq 23 dX12_plan_15 rfl (fun hc => ?_) (fun hc => ?_)
  · have hw := hw.1 hc
    refine g_aload_n dX12_plan_23 rfl rfl ?_
    refine g_callVV [] (ci := 12) dX12_plan_24 ml_X12_288 mk_X12_stores rfl rfl sh98 (Nat.le_of_ble_eq_true rfl) (Nat.le_of_ble_eq_true rfl) rfl (c_M_stores hw) (fun h4 hw => ?_)
    refine g_aload_n dX12_plan_27 rfl rfl ?_
    refine g_getA dX12_plan_28 fl_X12_13 sh98 rfl ?_
    refine g_bipush (v := 62) dX12_plan_31 (by decide) ?_
    refine g_iload_n dX12_plan_33 rfl rfl ?_
    refine g_iadd dX12_plan_34 ?_
    refine g_iload_n dX12_plan_35 rfl rfl ?_
    refine g_iast dX12_plan_36 ia99 al99 hw.1 ?_
    have hw := hw.2
    refine g_heap (fun h5 eh5 => ?_)
    have hw := hw h5 eh5
    refine g_aload_n dX12_plan_37 rfl rfl ?_
    refine g_callVV [] (ci := 12) dX12_plan_38 ml_X12_297 mk_X12_notes rfl rfl sh98 (Nat.le_of_ble_eq_true rfl) (Nat.le_of_ble_eq_true rfl) rfl (c_M_notes hw) (fun h6 hw => ?_)
    refine g_aload_n dX12_plan_41 rfl rfl ?_
    refine g_getA dX12_plan_42 fl_X12_48 sh98 rfl ?_
    refine g_iconst (v := 4) dX12_plan_45 (by decide) ?_
    refine g_iload_n dX12_plan_46 rfl rfl ?_
    refine g_iadd dX12_plan_47 ?_
    refine g_iald dX12_plan_48 ia109 al109 hw.1 ?_
    have hw := hw.2
    exact g_iret dX12_plan_49 hw
  · have hw := hw.2 hc
    refine g_bipush (v := (-10)) dX12_plan_18 (by decide) ?_
    refine g_iload_n dX12_plan_20 rfl rfl ?_
    refine g_isub dX12_plan_21 ?_
    exact g_iret dX12_plan_22 hw
theorem dX12_goesRing_0 : decode cX12_goesRing 0 = .ok (.iconst 0, 1) := by decide +kernel
theorem dX12_goesRing_1 : decode cX12_goesRing 1 = .ok (.istore 7, 2) := by decide +kernel
theorem dX12_goesRing_3 : decode cX12_goesRing 3 = .ok (.iload 7, 2) := by decide +kernel
theorem dX12_goesRing_5 : decode cX12_goesRing 5 = .ok (.bipush 24, 2) := by decide +kernel
theorem dX12_goesRing_7 : decode cX12_goesRing 7 = .ok (.if_icmp .ge 164, 3) := by decide +kernel
theorem dX12_goesRing_10 : decode cX12_goesRing 10 = .ok (.aload_n 0, 1) := by decide +kernel
theorem dX12_goesRing_11 : decode cX12_goesRing 11 = .ok (.getfield 45, 3) := by decide +kernel
theorem dX12_goesRing_14 : decode cX12_goesRing 14 = .ok (.iload_n 2, 1) := by decide +kernel
theorem dX12_goesRing_15 : decode cX12_goesRing 15 = .ok (.iaload, 1) := by decide +kernel
theorem dX12_goesRing_16 : decode cX12_goesRing 16 = .ok (.i2l, 1) := by decide +kernel
theorem dX12_goesRing_17 : decode cX12_goesRing 17 = .ok (.iload 7, 2) := by decide +kernel
theorem dX12_goesRing_19 : decode cX12_goesRing 19 = .ok (.invokestatic 228, 3) := by decide +kernel
theorem dX12_goesRing_22 : decode cX12_goesRing 22 = .ok (.ifCond .ne 6, 3) := by decide +kernel
theorem dX12_goesRing_25 : decode cX12_goesRing 25 = .ok (.goto 140, 3) := by decide +kernel
theorem dX12_goesRing_28 : decode cX12_goesRing 28 = .ok (.aload_n 0, 1) := by decide +kernel
theorem dX12_goesRing_29 : decode cX12_goesRing 29 = .ok (.getfield 39, 3) := by decide +kernel
theorem dX12_goesRing_32 : decode cX12_goesRing 32 = .ok (.iload 7, 2) := by decide +kernel
theorem dX12_goesRing_34 : decode cX12_goesRing 34 = .ok (.iaload, 1) := by decide +kernel
theorem dX12_goesRing_35 : decode cX12_goesRing 35 = .ok (.istore 8, 2) := by decide +kernel
theorem dX12_goesRing_37 : decode cX12_goesRing 37 = .ok (.iload 8, 2) := by decide +kernel
theorem dX12_goesRing_39 : decode cX12_goesRing 39 = .ok (.iload_n 1, 1) := by decide +kernel
theorem dX12_goesRing_40 : decode cX12_goesRing 40 = .ok (.if_icmp .ne 74, 3) := by decide +kernel
theorem dX12_goesRing_43 : decode cX12_goesRing 43 = .ok (.aload_n 0, 1) := by decide +kernel
theorem dX12_goesRing_44 : decode cX12_goesRing 44 = .ok (.getfield 51, 3) := by decide +kernel
theorem dX12_goesRing_47 : decode cX12_goesRing 47 = .ok (.aload_n 0, 1) := by decide +kernel
theorem dX12_goesRing_48 : decode cX12_goesRing 48 = .ok (.getfield 360, 3) := by decide +kernel
theorem dX12_goesRing_51 : decode cX12_goesRing 51 = .ok (.iload_n 3, 1) := by decide +kernel
theorem dX12_goesRing_52 : decode cX12_goesRing 52 = .ok (.iconst 1, 1) := by decide +kernel
theorem dX12_goesRing_53 : decode cX12_goesRing 53 = .ok (.iload 7, 2) := by decide +kernel
theorem dX12_goesRing_55 : decode cX12_goesRing 55 = .ok (.ishl, 1) := by decide +kernel
theorem dX12_goesRing_56 : decode cX12_goesRing 56 = .ok (.ior, 1) := by decide +kernel
theorem dX12_goesRing_57 : decode cX12_goesRing 57 = .ok (.iastore, 1) := by decide +kernel
theorem dX12_goesRing_58 : decode cX12_goesRing 58 = .ok (.aload_n 0, 1) := by decide +kernel
theorem dX12_goesRing_59 : decode cX12_goesRing 59 = .ok (.getfield 54, 3) := by decide +kernel
theorem dX12_goesRing_62 : decode cX12_goesRing 62 = .ok (.aload_n 0, 1) := by decide +kernel
theorem dX12_goesRing_63 : decode cX12_goesRing 63 = .ok (.getfield 360, 3) := by decide +kernel
theorem dX12_goesRing_66 : decode cX12_goesRing 66 = .ok (.iload 4, 2) := by decide +kernel
theorem dX12_goesRing_68 : decode cX12_goesRing 68 = .ok (.iastore, 1) := by decide +kernel
theorem dX12_goesRing_69 : decode cX12_goesRing 69 = .ok (.aload_n 0, 1) := by decide +kernel
theorem dX12_goesRing_70 : decode cX12_goesRing 70 = .ok (.getfield 57, 3) := by decide +kernel
theorem dX12_goesRing_73 : decode cX12_goesRing 73 = .ok (.aload_n 0, 1) := by decide +kernel
theorem dX12_goesRing_74 : decode cX12_goesRing 74 = .ok (.getfield 360, 3) := by decide +kernel
theorem dX12_goesRing_77 : decode cX12_goesRing 77 = .ok (.iload 5, 2) := by decide +kernel
theorem dX12_goesRing_79 : decode cX12_goesRing 79 = .ok (.aload_n 0, 1) := by decide +kernel
theorem dX12_goesRing_80 : decode cX12_goesRing 80 = .ok (.getfield 42, 3) := by decide +kernel
theorem dX12_goesRing_83 : decode cX12_goesRing 83 = .ok (.iload 7, 2) := by decide +kernel
theorem dX12_goesRing_85 : decode cX12_goesRing 85 = .ok (.iaload, 1) := by decide +kernel
theorem dX12_goesRing_86 : decode cX12_goesRing 86 = .ok (.iadd, 1) := by decide +kernel
theorem dX12_goesRing_87 : decode cX12_goesRing 87 = .ok (.iastore, 1) := by decide +kernel
theorem dX12_goesRing_88 : decode cX12_goesRing 88 = .ok (.aload_n 0, 1) := by decide +kernel
theorem dX12_goesRing_89 : decode cX12_goesRing 89 = .ok (.getfield 60, 3) := by decide +kernel
theorem dX12_goesRing_92 : decode cX12_goesRing 92 = .ok (.aload_n 0, 1) := by decide +kernel
theorem dX12_goesRing_93 : decode cX12_goesRing 93 = .ok (.getfield 360, 3) := by decide +kernel
theorem dX12_goesRing_96 : decode cX12_goesRing 96 = .ok (.iload 6, 2) := by decide +kernel
theorem dX12_goesRing_98 : decode cX12_goesRing 98 = .ok (.iconst 1, 1) := by decide +kernel
theorem dX12_goesRing_99 : decode cX12_goesRing 99 = .ok (.iadd, 1) := by decide +kernel
theorem dX12_goesRing_100 : decode cX12_goesRing 100 = .ok (.iastore, 1) := by decide +kernel
theorem dX12_goesRing_101 : decode cX12_goesRing 101 = .ok (.aload_n 0, 1) := by decide +kernel
theorem dX12_goesRing_102 : decode cX12_goesRing 102 = .ok (.dup, 1) := by decide +kernel
theorem dX12_goesRing_103 : decode cX12_goesRing 103 = .ok (.getfield 360, 3) := by decide +kernel
theorem dX12_goesRing_106 : decode cX12_goesRing 106 = .ok (.iconst 1, 1) := by decide +kernel
theorem dX12_goesRing_107 : decode cX12_goesRing 107 = .ok (.iadd, 1) := by decide +kernel
theorem dX12_goesRing_108 : decode cX12_goesRing 108 = .ok (.putfield 360, 3) := by decide +kernel
theorem dX12_goesRing_111 : decode cX12_goesRing 111 = .ok (.goto 54, 3) := by decide +kernel
theorem dX12_goesRing_114 : decode cX12_goesRing 114 = .ok (.iload 8, 2) := by decide +kernel
theorem dX12_goesRing_116 : decode cX12_goesRing 116 = .ok (.iload_n 1, 1) := by decide +kernel
theorem dX12_goesRing_117 : decode cX12_goesRing 117 = .ok (.if_icmp .le 48, 3) := by decide +kernel
theorem dX12_goesRing_120 : decode cX12_goesRing 120 = .ok (.iload 4, 2) := by decide +kernel
theorem dX12_goesRing_122 : decode cX12_goesRing 122 = .ok (.i2l, 1) := by decide +kernel
theorem dX12_goesRing_123 : decode cX12_goesRing 123 = .ok (.iload 8, 2) := by decide +kernel
theorem dX12_goesRing_125 : decode cX12_goesRing 125 = .ok (.invokestatic 228, 3) := by decide +kernel
theorem dX12_goesRing_128 : decode cX12_goesRing 128 = .ok (.ifCond .ne 37, 3) := by decide +kernel
theorem dX12_goesRing_131 : decode cX12_goesRing 131 = .ok (.aload_n 0, 1) := by decide +kernel
theorem dX12_goesRing_132 : decode cX12_goesRing 132 = .ok (.iload_n 1, 1) := by decide +kernel
theorem dX12_goesRing_133 : decode cX12_goesRing 133 = .ok (.iload 8, 2) := by decide +kernel
theorem dX12_goesRing_135 : decode cX12_goesRing 135 = .ok (.iload_n 3, 1) := by decide +kernel
theorem dX12_goesRing_136 : decode cX12_goesRing 136 = .ok (.iconst 1, 1) := by decide +kernel
theorem dX12_goesRing_137 : decode cX12_goesRing 137 = .ok (.iload 7, 2) := by decide +kernel
theorem dX12_goesRing_139 : decode cX12_goesRing 139 = .ok (.ishl, 1) := by decide +kernel
theorem dX12_goesRing_140 : decode cX12_goesRing 140 = .ok (.ior, 1) := by decide +kernel
theorem dX12_goesRing_141 : decode cX12_goesRing 141 = .ok (.iload 4, 2) := by decide +kernel
theorem dX12_goesRing_143 : decode cX12_goesRing 143 = .ok (.iconst 1, 1) := by decide +kernel
theorem dX12_goesRing_144 : decode cX12_goesRing 144 = .ok (.iload 8, 2) := by decide +kernel
theorem dX12_goesRing_146 : decode cX12_goesRing 146 = .ok (.ishl, 1) := by decide +kernel
theorem dX12_goesRing_147 : decode cX12_goesRing 147 = .ok (.ior, 1) := by decide +kernel
theorem dX12_goesRing_148 : decode cX12_goesRing 148 = .ok (.iload 5, 2) := by decide +kernel
theorem dX12_goesRing_150 : decode cX12_goesRing 150 = .ok (.aload_n 0, 1) := by decide +kernel
theorem dX12_goesRing_151 : decode cX12_goesRing 151 = .ok (.getfield 42, 3) := by decide +kernel
theorem dX12_goesRing_154 : decode cX12_goesRing 154 = .ok (.iload 7, 2) := by decide +kernel
theorem dX12_goesRing_156 : decode cX12_goesRing 156 = .ok (.iaload, 1) := by decide +kernel
theorem dX12_goesRing_157 : decode cX12_goesRing 157 = .ok (.iadd, 1) := by decide +kernel
theorem dX12_goesRing_158 : decode cX12_goesRing 158 = .ok (.iload 6, 2) := by decide +kernel
theorem dX12_goesRing_160 : decode cX12_goesRing 160 = .ok (.iconst 1, 1) := by decide +kernel
theorem dX12_goesRing_161 : decode cX12_goesRing 161 = .ok (.iadd, 1) := by decide +kernel
theorem dX12_goesRing_162 : decode cX12_goesRing 162 = .ok (.invokevirtual 363, 3) := by decide +kernel
theorem dX12_goesRing_165 : decode cX12_goesRing 165 = .ok (.iinc 7 1, 3) := by decide +kernel
theorem dX12_goesRing_168 : decode cX12_goesRing 168 = .ok (.goto (-165), 3) := by decide +kernel
theorem dX12_goesRing_171 : decode cX12_goesRing 171 = .ok (.return_, 1) := by decide +kernel
theorem ml_X12_363 : Cond.methodLink RX12 363 yX12_goesRing ∈ Wd := mW 1753 (by decide +kernel) rfl
theorem mk_X12_goesRing : MokV yX12_goesRing cX12_goesRing 9 none 6 := ⟨⟨mW 14 (by decide +kernel) rfl, mW 1756 (by decide +kernel) rfl, ⟨by decide, by decide, by decide +kernel⟩, by decide⟩, mW 1755 (by decide +kernel) rfl, mS (q := (yX12_goesRing, 46)) 87 (by decide +kernel)⟩
theorem fl_X12_51 : FLk RX12 51 12 24 := ⟨_, rfl, by decide, mW 1406 (by decide +kernel) rfl⟩
theorem fl_X12_360 : FLk RX12 360 12 28 := ⟨_, rfl, by decide, mW 1410 (by decide +kernel) rfl⟩
theorem fl_X12_54 : FLk RX12 54 12 25 := ⟨_, rfl, by decide, mW 1407 (by decide +kernel) rfl⟩
theorem fl_X12_57 : FLk RX12 57 12 26 := ⟨_, rfl, by decide, mW 1408 (by decide +kernel) rfl⟩
theorem fl_X12_60 : FLk RX12 60 12 27 := ⟨_, rfl, by decide, mW 1409 (by decide +kernel) rfl⟩
theorem pf_12_28 : parseFieldDescriptor (uD 12 28) = some .int := by decide +kernel
def M_goesRing_L3 (x1 : Int32) (x2 : Int32) (x3 : Int32) (x4 : Int32) (x5 : Int32) (x6 : Int32) (R_goesRing : Int32 → Int32 → Int32 → Int32 → Int32 → Int32 → Hp → (Hp → Prop) → Prop) (Q : Hp → Prop) : Nat → Int32 → Hp → Prop
  | 0, _, _ => False
  | n + 1, x7, h => (24 ≤ x7 → Q h) ∧ (¬ 24 ≤ x7 → vp_in x2 8 ∧ M_isIn (((gI h 108 (x2).toNatClampNeg)).toInt64) x7 h (fun r1 h2 => ∀ J165 : Hp → Prop, J165 = (fun h3 => ∀ v4 : Int32, v4 = (x7 + 1) → M_goesRing_L3 x1 x2 x3 x4 x5 x6 R_goesRing Q n v4 h3) → (¬ r1 = 0 → vp_in x7 24 ∧ ∀ v5 : Int32, v5 = (gI h2 106 (x7).toNatClampNeg) → (¬ v5 = x1 → (v5 ≤ x1 → J165 h2) ∧ (¬ v5 ≤ x1 → M_isIn ((x4).toInt64) v5 h2 (fun r6 h7 => (¬ r6 = 0 → J165 h7) ∧ (r6 = 0 → vp_in x7 24 ∧ R_goesRing x1 v5 (x3 ||| ((1 : Int32) <<< (x7 &&& 31))) (x4 ||| ((1 : Int32) <<< (v5 &&& 31))) (x5 + (gI h7 107 (x7).toNatClampNeg)) (x6 + 1) h7 (fun h8 => J165 h8))))) ∧ (v5 = x1 → vp_in (gI h2 98 28) 1024 ∧ ∀ h9 : Hp, h9 = sI h2 110 ((gI h2 98 28)).toNatClampNeg (x3 ||| ((1 : Int32) <<< (x7 &&& 31))) → vp_in (gI h9 98 28) 1024 ∧ ∀ h10 : Hp, h10 = sI h9 111 ((gI h9 98 28)).toNatClampNeg x4 → vp_in x7 24 ∧ vp_in (gI h10 98 28) 1024 ∧ ∀ h11 : Hp, h11 = sI h10 112 ((gI h10 98 28)).toNatClampNeg (x5 + (gI h10 107 (x7).toNatClampNeg)) → vp_in (gI h11 98 28) 1024 ∧ ∀ h12 : Hp, h12 = sI h11 113 ((gI h11 98 28)).toNatClampNeg (x6 + 1) → ∀ h13 : Hp, h13 = sI h12 98 28 ((gI h12 98 28) + 1) → J165 h13)) ∧ (r1 = 0 → J165 h2)))
set_option maxHeartbeats 4000000 in
set_option maxRecDepth 20000 in
theorem gl_M_goesRing_L3 {G : Gx}  {d d1 : Nat} (hdd : d1 + 1 ≤ d) (hD : 2 ≤ d) {R_goesRing : Int32 → Int32 → Int32 → Int32 → Int32 → Int32 → Hp → (Hp → Prop) → Prop} (hR_goesRing : ∀ (y0 : Int32) (y1 : Int32) (y2 : Int32) (y3 : Int32) (y4 : Int32) (y5 : Int32) (h : Hp) (Q : Hp → Prop), R_goesRing y0 y1 y2 y3 y4 y5 h Q → Ct yX12_goesRing cX12_goesRing 9 none d1 G [.ref (gAd G 98), .int y0, .int y1, .int y2, .int y3, .int y4, .int y5] h (QV G Q)) {x1 : Int32} {x2 : Int32} {x3 : Int32} {x4 : Int32} {x5 : Int32} {x6 : Int32} {Q : Hp → Prop} : ∀ (n : Nat) (x7 : Int32) (h : Hp), M_goesRing_L3 x1 x2 x3 x4 x5 x6 R_goesRing Q n x7 h → Go cX12_goesRing 9 RX12 none d G (QV G Q) 3 [(0, .ref (gAd G 98)), (1, .int x1), (2, .int x2), (3, .int x3), (4, .int x4), (5, .int x5), (6, .int x6), (7, .int x7)] [] h := by
  intro n
  induction n with
  | zero => intro _ h hw; exact False.elim hw
  | succ n ih =>
    intro x7 h hw
    refine g_iload dX12_goesRing_3 rfl ?_
    refine g_bipush (v := 24) dX12_goesRing_5 (by decide) ?_
    refine g_icmp_ge 171 dX12_goesRing_7 rfl (fun hc => ?_) (fun hc => ?_)
    · have hw := hw.1 hc
      exact g_vret dX12_goesRing_171 hw
    · have hw := hw.2 hc
      refine g_aload_n dX12_goesRing_10 rfl rfl ?_
      refine g_getA dX12_goesRing_11 fl_X12_45 sh98 rfl ?_
      refine g_iload_n dX12_goesRing_14 rfl rfl ?_
      refine g_iald dX12_goesRing_15 ia108 al108 hw.1 ?_
      have hw := hw.2
      refine g_i2l dX12_goesRing_16 ?_
      refine g_iload dX12_goesRing_17 rfl ?_
      refine g_callSI [.long (((gI h 108 (x2).toNatClampNeg)).toInt64), .int x7] dX12_goesRing_19 ml_X12_228 mk_X12_isIn rfl (by omega) (Nat.le_of_ble_eq_true rfl) rfl (c_M_isIn hw) (fun r1 h2 hw => ?_)
      refine jn_el hw (fun J165 eJ165 hw => ?_)
      have hJ165 : ∀ (h3 : Hp), J165 h3 → Go cX12_goesRing 9 RX12 none d G (QV G Q) 165 [(0, .ref (gAd G 98)), (1, .int x1), (2, .int x2), (3, .int x3), (4, .int x4), (5, .int x5), (6, .int x6), (7, .int x7)] [] h3 := by
        intro h3 hw
        subst eJ165
        obtain ⟨v4, ev4⟩ : ∃ y : Int32, y = (x7 + 1) := ⟨_, rfl⟩
        have hw := hw v4 ev4
        refine g_iinc dX12_goesRing_165 rfl (by rw [ev4]; rfl) (by decide) (lv1 := [(0, .ref (gAd G 98)), (1, .int x1), (2, .int x2), (3, .int x3), (4, .int x4), (5, .int x5), (6, .int x6), (7, .int v4)]) rfl ?_
        refine g_goto 3 dX12_goesRing_168 rfl ?_
        exact ih _ _ hw
      refine g_if_ne 28 dX12_goesRing_22 rfl (fun hc => ?_) (fun hc => ?_)
      · have hw := hw.1 hc
        refine g_aload_n dX12_goesRing_28 rfl rfl ?_
        refine g_getA dX12_goesRing_29 fl_X12_39 sh98 rfl ?_
        refine g_iload dX12_goesRing_32 rfl ?_
        refine g_iald dX12_goesRing_34 ia106 al106 hw.1 ?_
        have hw := hw.2
        refine g_topi (fun v5 ev5 => ?_)
        have hw := hw v5 ev5
        refine g_istore dX12_goesRing_35 (by decide) (lv1 := [(0, .ref (gAd G 98)), (1, .int x1), (2, .int x2), (3, .int x3), (4, .int x4), (5, .int x5), (6, .int x6), (7, .int x7), (8, .int v5)]) rfl ?_
        refine g_iload dX12_goesRing_37 rfl ?_
        refine g_iload_n dX12_goesRing_39 rfl rfl ?_
        refine g_icmp_ne 114 dX12_goesRing_40 rfl (fun hc => ?_) (fun hc => ?_)
        · have hw := hw.1 hc
          refine g_iload dX12_goesRing_114 rfl ?_
          refine g_iload_n dX12_goesRing_116 rfl rfl ?_
          refine g_icmp_le 165 dX12_goesRing_117 rfl (fun hc => ?_) (fun hc => ?_)
          · have hw := hw.1 hc
            refine g_lv [0, 1, 2, 3, 4, 5, 6, 7] rfl ?_
            exact hJ165 _ hw
          · have hw := hw.2 hc
            refine g_iload dX12_goesRing_120 rfl ?_
            refine g_i2l dX12_goesRing_122 ?_
            refine g_iload dX12_goesRing_123 rfl ?_
            refine g_callSI [.long ((x4).toInt64), .int v5] dX12_goesRing_125 ml_X12_228 mk_X12_isIn rfl (by omega) (Nat.le_of_ble_eq_true rfl) rfl (c_M_isIn hw) (fun r6 h7 hw => ?_)
            refine g_if_ne 165 dX12_goesRing_128 rfl (fun hc => ?_) (fun hc => ?_)
            · have hw := hw.1 hc
              refine g_lv [0, 1, 2, 3, 4, 5, 6, 7] rfl ?_
              exact hJ165 _ hw
            · have hw := hw.2 hc
              refine g_aload_n dX12_goesRing_131 rfl rfl ?_
              refine g_iload_n dX12_goesRing_132 rfl rfl ?_
              refine g_iload dX12_goesRing_133 rfl ?_
              refine g_iload_n dX12_goesRing_135 rfl rfl ?_
              refine g_iconst (v := 1) dX12_goesRing_136 (by decide) ?_
              refine g_iload dX12_goesRing_137 rfl ?_
              refine g_ishl dX12_goesRing_139 ?_
              refine g_ior dX12_goesRing_140 ?_
              refine g_iload dX12_goesRing_141 rfl ?_
              refine g_iconst (v := 1) dX12_goesRing_143 (by decide) ?_
              refine g_iload dX12_goesRing_144 rfl ?_
              refine g_ishl dX12_goesRing_146 ?_
              refine g_ior dX12_goesRing_147 ?_
              refine g_iload dX12_goesRing_148 rfl ?_
              refine g_aload_n dX12_goesRing_150 rfl rfl ?_
              refine g_getA dX12_goesRing_151 fl_X12_42 sh98 rfl ?_
              refine g_iload dX12_goesRing_154 rfl ?_
              refine g_iald dX12_goesRing_156 ia107 al107 hw.1 ?_
              have hw := hw.2
              refine g_iadd dX12_goesRing_157 ?_
              refine g_iload dX12_goesRing_158 rfl ?_
              refine g_iconst (v := 1) dX12_goesRing_160 (by decide) ?_
              refine g_iadd dX12_goesRing_161 ?_
              refine g_callVV [.int x1, .int v5, .int (x3 ||| ((1 : Int32) <<< (x7 &&& 31))), .int (x4 ||| ((1 : Int32) <<< (v5 &&& 31))), .int (x5 + (gI h7 107 (x7).toNatClampNeg)), .int (x6 + 1)] (ci := 12) dX12_goesRing_162 ml_X12_363 mk_X12_goesRing rfl rfl sh98 hdd (Nat.le_of_ble_eq_true rfl) rfl (hR_goesRing _ _ _ _ _ _ _ _ hw) (fun h8 hw => ?_)
              refine g_lv [0, 1, 2, 3, 4, 5, 6, 7] rfl ?_
              exact hJ165 _ hw
        · have hw := hw.2 hc
          refine g_aload_n dX12_goesRing_43 rfl rfl ?_
          refine g_getA dX12_goesRing_44 fl_X12_51 sh98 rfl ?_
          refine g_aload_n dX12_goesRing_47 rfl rfl ?_
          refine g_getI dX12_goesRing_48 fl_X12_360 sh98 rfl ?_
          refine g_iload_n dX12_goesRing_51 rfl rfl ?_
          refine g_iconst (v := 1) dX12_goesRing_52 (by decide) ?_
          refine g_iload dX12_goesRing_53 rfl ?_
          refine g_ishl dX12_goesRing_55 ?_
          refine g_ior dX12_goesRing_56 ?_
          refine g_iast dX12_goesRing_57 ia110 al110 hw.1 ?_
          have hw := hw.2
          refine g_heap (fun h9 eh9 => ?_)
          have hw := hw h9 eh9
          refine g_aload_n dX12_goesRing_58 rfl rfl ?_
          refine g_getA dX12_goesRing_59 fl_X12_54 sh98 rfl ?_
          refine g_aload_n dX12_goesRing_62 rfl rfl ?_
          refine g_getI dX12_goesRing_63 fl_X12_360 sh98 rfl ?_
          refine g_iload dX12_goesRing_66 rfl ?_
          refine g_iast dX12_goesRing_68 ia111 al111 hw.1 ?_
          have hw := hw.2
          refine g_heap (fun h10 eh10 => ?_)
          have hw := hw h10 eh10
          refine g_aload_n dX12_goesRing_69 rfl rfl ?_
          refine g_getA dX12_goesRing_70 fl_X12_57 sh98 rfl ?_
          refine g_aload_n dX12_goesRing_73 rfl rfl ?_
          refine g_getI dX12_goesRing_74 fl_X12_360 sh98 rfl ?_
          refine g_iload dX12_goesRing_77 rfl ?_
          refine g_aload_n dX12_goesRing_79 rfl rfl ?_
          refine g_getA dX12_goesRing_80 fl_X12_42 sh98 rfl ?_
          refine g_iload dX12_goesRing_83 rfl ?_
          refine g_iald dX12_goesRing_85 ia107 al107 hw.1 ?_
          have hw := hw.2
          refine g_iadd dX12_goesRing_86 ?_
          refine g_iast dX12_goesRing_87 ia112 al112 hw.1 ?_
          have hw := hw.2
          refine g_heap (fun h11 eh11 => ?_)
          have hw := hw h11 eh11
          refine g_aload_n dX12_goesRing_88 rfl rfl ?_
          refine g_getA dX12_goesRing_89 fl_X12_60 sh98 rfl ?_
          refine g_aload_n dX12_goesRing_92 rfl rfl ?_
          refine g_getI dX12_goesRing_93 fl_X12_360 sh98 rfl ?_
          refine g_iload dX12_goesRing_96 rfl ?_
          refine g_iconst (v := 1) dX12_goesRing_98 (by decide) ?_
          refine g_iadd dX12_goesRing_99 ?_
          refine g_iast dX12_goesRing_100 ia113 al113 hw.1 ?_
          have hw := hw.2
          refine g_heap (fun h12 eh12 => ?_)
          have hw := hw h12 eh12
          refine g_aload_n dX12_goesRing_101 rfl rfl ?_
          refine g_dup dX12_goesRing_102 rfl ?_
          refine g_getI dX12_goesRing_103 fl_X12_360 sh98 rfl ?_
          refine g_iconst (v := 1) dX12_goesRing_106 (by decide) ?_
          refine g_iadd dX12_goesRing_107 ?_
          refine g_putI dX12_goesRing_108 fl_X12_360 sh98 rfl rfl pf_12_28 ?_
          refine g_heap (fun h13 eh13 => ?_)
          have hw := hw h13 eh13
          refine g_goto 165 dX12_goesRing_111 rfl ?_
          refine g_lv [0, 1, 2, 3, 4, 5, 6, 7] rfl ?_
          exact hJ165 _ hw
      · have hw := hw.2 hc
        refine g_goto 165 dX12_goesRing_25 rfl ?_
        exact hJ165 _ hw
def M_goesRing_B  (R_goesRing : Int32 → Int32 → Int32 → Int32 → Int32 → Int32 → Hp → (Hp → Prop) → Prop) (x1 : Int32) (x2 : Int32) (x3 : Int32) (x4 : Int32) (x5 : Int32) (x6 : Int32) (h : Hp) (Q : Hp → Prop) : Prop := ∃ n14, M_goesRing_L3 x1 x2 x3 x4 x5 x6 R_goesRing Q n14 0 h
set_option maxHeartbeats 4000000 in
set_option maxRecDepth 20000 in
theorem cb_M_goesRing {G : Gx}  {d d1 : Nat} (hdd : d1 + 1 ≤ d) (hD : 2 ≤ d) {R_goesRing : Int32 → Int32 → Int32 → Int32 → Int32 → Int32 → Hp → (Hp → Prop) → Prop} (hR_goesRing : ∀ (y0 : Int32) (y1 : Int32) (y2 : Int32) (y3 : Int32) (y4 : Int32) (y5 : Int32) (h : Hp) (Q : Hp → Prop), R_goesRing y0 y1 y2 y3 y4 y5 h Q → Ct yX12_goesRing cX12_goesRing 9 none d1 G [.ref (gAd G 98), .int y0, .int y1, .int y2, .int y3, .int y4, .int y5] h (QV G Q)) {x1 : Int32} {x2 : Int32} {x3 : Int32} {x4 : Int32} {x5 : Int32} {x6 : Int32} {h : Hp} {Q : Hp → Prop} (hw : M_goesRing_B  R_goesRing x1 x2 x3 x4 x5 x6 h Q) : Ct yX12_goesRing cX12_goesRing 9 none d G [.ref (gAd G 98), .int x1, .int x2, .int x3, .int x4, .int x5, .int x6] h (QV G Q) := by
  refine ct_go [(0, .ref (gAd G 98)), (1, .int x1), (2, .int x2), (3, .int x3), (4, .int x4), (5, .int x5), (6, .int x6)] (plainFor_of_name (by decide)) rfl (Nat.le_of_ble_eq_true rfl) rfl ?_
  refine g_iconst (v := 0) dX12_goesRing_0 (by decide) ?_
  refine g_istore dX12_goesRing_1 (by decide) (lv1 := [(0, .ref (gAd G 98)), (1, .int x1), (2, .int x2), (3, .int x3), (4, .int x4), (5, .int x5), (6, .int x6), (7, .int 0)]) rfl ?_
  obtain ⟨n14, hw⟩ := hw
  refine gl_M_goesRing_L3  hdd hD hR_goesRing  _ _ _ hw
def M_goesRing  : Nat → Int32 → Int32 → Int32 → Int32 → Int32 → Int32 → Hp → (Hp → Prop) → Prop
  | 0, _, _, _, _, _, _, _, _ => False
  | n + 1, x1, x2, x3, x4, x5, x6, h, Q => M_goesRing_B  (M_goesRing  n) x1 x2 x3 x4 x5 x6 h Q
theorem cn_M_goesRing {G : Gx}  : ∀ (n : Nat) (x1 : Int32) (x2 : Int32) (x3 : Int32) (x4 : Int32) (x5 : Int32) (x6 : Int32) (h : Hp) (Q : Hp → Prop), M_goesRing  n x1 x2 x3 x4 x5 x6 h Q → Ct yX12_goesRing cX12_goesRing 9 none (2 + n) G [.ref (gAd G 98), .int x1, .int x2, .int x3, .int x4, .int x5, .int x6] h (QV G Q) := by
  intro n
  induction n with
  | zero => intro _ _ _ _ _ _ _ _ hw; exact False.elim hw
  | succ n ih =>
    intro x1 x2 x3 x4 x5 x6 h Q hw
    exact cb_M_goesRing  (d := 2 + (n + 1)) (d1 := 2 + n) (by omega) (by omega) ih hw
theorem c_M_goesRing {G : Gx}  {x1 : Int32} {x2 : Int32} {x3 : Int32} {x4 : Int32} {x5 : Int32} {x6 : Int32} {h : Hp} {Q : Hp → Prop} (hw : M_goesRing  10 x1 x2 x3 x4 x5 x6 h Q) : Ct yX12_goesRing cX12_goesRing 9 none 12 G [.ref (gAd G 98), .int x1, .int x2, .int x3, .int x4, .int x5, .int x6] h (QV G Q) := cn_M_goesRing  10 _ _ _ _ _ _ _ _ hw
theorem dX12_laysRings_0 : decode cX12_laysRings 0 = .ok (.aload_n 0, 1) := by decide +kernel
theorem dX12_laysRings_1 : decode cX12_laysRings 1 = .ok (.invokevirtual 260, 3) := by decide +kernel
theorem dX12_laysRings_4 : decode cX12_laysRings 4 = .ok (.aload_n 0, 1) := by decide +kernel
theorem dX12_laysRings_5 : decode cX12_laysRings 5 = .ok (.iconst 0, 1) := by decide +kernel
theorem dX12_laysRings_6 : decode cX12_laysRings 6 = .ok (.putfield 360, 3) := by decide +kernel
theorem dX12_laysRings_9 : decode cX12_laysRings 9 = .ok (.iconst 0, 1) := by decide +kernel
theorem dX12_laysRings_10 : decode cX12_laysRings 10 = .ok (.istore_n 1, 1) := by decide +kernel
theorem dX12_laysRings_11 : decode cX12_laysRings 11 = .ok (.iload_n 1, 1) := by decide +kernel
theorem dX12_laysRings_12 : decode cX12_laysRings 12 = .ok (.aload_n 0, 1) := by decide +kernel
theorem dX12_laysRings_13 : decode cX12_laysRings 13 = .ok (.getfield 13, 3) := by decide +kernel
theorem dX12_laysRings_16 : decode cX12_laysRings 16 = .ok (.iconst 1, 1) := by decide +kernel
theorem dX12_laysRings_17 : decode cX12_laysRings 17 = .ok (.iaload, 1) := by decide +kernel
theorem dX12_laysRings_18 : decode cX12_laysRings 18 = .ok (.if_icmp .ge 21, 3) := by decide +kernel
theorem dX12_laysRings_21 : decode cX12_laysRings 21 = .ok (.aload_n 0, 1) := by decide +kernel
theorem dX12_laysRings_22 : decode cX12_laysRings 22 = .ok (.iload_n 1, 1) := by decide +kernel
theorem dX12_laysRings_23 : decode cX12_laysRings 23 = .ok (.iload_n 1, 1) := by decide +kernel
theorem dX12_laysRings_24 : decode cX12_laysRings 24 = .ok (.iconst 0, 1) := by decide +kernel
theorem dX12_laysRings_25 : decode cX12_laysRings 25 = .ok (.iconst 1, 1) := by decide +kernel
theorem dX12_laysRings_26 : decode cX12_laysRings 26 = .ok (.iload_n 1, 1) := by decide +kernel
theorem dX12_laysRings_27 : decode cX12_laysRings 27 = .ok (.ishl, 1) := by decide +kernel
theorem dX12_laysRings_28 : decode cX12_laysRings 28 = .ok (.iconst 0, 1) := by decide +kernel
theorem dX12_laysRings_29 : decode cX12_laysRings 29 = .ok (.iconst 0, 1) := by decide +kernel
theorem dX12_laysRings_30 : decode cX12_laysRings 30 = .ok (.invokevirtual 363, 3) := by decide +kernel
theorem dX12_laysRings_33 : decode cX12_laysRings 33 = .ok (.iinc 1 1, 3) := by decide +kernel
theorem dX12_laysRings_36 : decode cX12_laysRings 36 = .ok (.goto (-25), 3) := by decide +kernel
theorem dX12_laysRings_39 : decode cX12_laysRings 39 = .ok (.return_, 1) := by decide +kernel
def M_laysRings_L11 (Q : Hp → Prop) : Nat → Int32 → Hp → Prop
  | 0, _, _ => False
  | n + 1, x1, h => ((gI h 99 1) ≤ x1 → Q h) ∧ (¬ (gI h 99 1) ≤ x1 → M_goesRing 10 x1 x1 0 ((1 : Int32) <<< (x1 &&& 31)) 0 0 h (fun h3 => ∀ v4 : Int32, v4 = (x1 + 1) → M_laysRings_L11 Q n v4 h3))
set_option maxHeartbeats 4000000 in
set_option maxRecDepth 20000 in
theorem gl_M_laysRings_L11 {G : Gx}  {Q : Hp → Prop} : ∀ (n : Nat) (x1 : Int32) (h : Hp), M_laysRings_L11 Q n x1 h → Go cX12_laysRings 2 RX12 none 13 G (QV G Q) 11 [(0, .ref (gAd G 98)), (1, .int x1)] [] h := by
  intro n
  induction n with
  | zero => intro _ h hw; exact False.elim hw
  | succ n ih =>
    intro x1 h hw
    refine g_iload_n dX12_laysRings_11 rfl rfl ?_
    refine g_aload_n dX12_laysRings_12 rfl rfl ?_
    refine g_getA dX12_laysRings_13 fl_X12_13 sh98 rfl ?_
    refine g_iconst (v := 1) dX12_laysRings_16 (by decide) ?_
    refine g_ialdK dX12_laysRings_17 ia99 al99 (by unfold vp_in; decide) (k := 1) (by decide) ?_
    refine g_icmp_ge 39 dX12_laysRings_18 rfl (fun hc => ?_) (fun hc => ?_)
    · have hw := hw.1 hc
      exact g_vret dX12_laysRings_39 hw
    · have hw := hw.2 hc
      refine g_aload_n dX12_laysRings_21 rfl rfl ?_
      refine g_iload_n dX12_laysRings_22 rfl rfl ?_
      refine g_iload_n dX12_laysRings_23 rfl rfl ?_
      refine g_iconst (v := 0) dX12_laysRings_24 (by decide) ?_
      refine g_iconst (v := 1) dX12_laysRings_25 (by decide) ?_
      refine g_iload_n dX12_laysRings_26 rfl rfl ?_
      refine g_ishl dX12_laysRings_27 ?_
      refine g_iconst (v := 0) dX12_laysRings_28 (by decide) ?_
      refine g_iconst (v := 0) dX12_laysRings_29 (by decide) ?_
      refine g_callVV [.int x1, .int x1, .int 0, .int ((1 : Int32) <<< (x1 &&& 31)), .int 0, .int 0] (ci := 12) dX12_laysRings_30 ml_X12_363 mk_X12_goesRing rfl rfl sh98 (Nat.le_of_ble_eq_true rfl) (Nat.le_of_ble_eq_true rfl) rfl (c_M_goesRing hw) (fun h3 hw => ?_)
      obtain ⟨v4, ev4⟩ : ∃ y : Int32, y = (x1 + 1) := ⟨_, rfl⟩
      have hw := hw v4 ev4
      refine g_iinc dX12_laysRings_33 rfl (by rw [ev4]; rfl) (by decide) (lv1 := [(0, .ref (gAd G 98)), (1, .int v4)]) rfl ?_
      refine g_goto 11 dX12_laysRings_36 rfl ?_
      exact ih _ _ hw
def M_laysRings  (h : Hp) (Q : Hp → Prop) : Prop := M_laysWays  h (fun h1 => ∀ h2 : Hp, h2 = sI h1 98 28 0 → ∃ n5, M_laysRings_L11 Q n5 0 h2)
set_option maxHeartbeats 4000000 in
set_option maxRecDepth 20000 in
theorem c_M_laysRings {G : Gx}   {h : Hp} {Q : Hp → Prop} (hw : M_laysRings  h Q) : Ct yX12_laysRings cX12_laysRings 2 none 13 G [.ref (gAd G 98)] h (QV G Q) := by
  refine ct_go [(0, .ref (gAd G 98))] (plainFor_of_name (by decide)) rfl (Nat.le_of_ble_eq_true rfl) rfl ?_
  refine g_aload_n dX12_laysRings_0 rfl rfl ?_
  refine g_callVV [] (ci := 12) dX12_laysRings_1 ml_X12_260 mk_X12_laysWays rfl rfl sh98 (Nat.le_of_ble_eq_true rfl) (Nat.le_of_ble_eq_true rfl) rfl (c_M_laysWays hw) (fun h1 hw => ?_)
  refine g_aload_n dX12_laysRings_4 rfl rfl ?_
  refine g_iconst (v := 0) dX12_laysRings_5 (by decide) ?_
  refine g_putI dX12_laysRings_6 fl_X12_360 sh98 rfl rfl pf_12_28 ?_
  refine g_heap (fun h2 eh2 => ?_)
  have hw := hw h2 eh2
  refine g_iconst (v := 0) dX12_laysRings_9 (by decide) ?_
  refine g_istore_n dX12_laysRings_10 rfl (by decide) (lv1 := [(0, .ref (gAd G 98)), (1, .int 0)]) rfl ?_
  obtain ⟨n5, hw⟩ := hw
  refine gl_M_laysRings_L11   _ _ _ hw
theorem dX12_comesBy_0 : decode cX12_comesBy 0 = .ok (.iconst 1, 1) := by decide +kernel
theorem dX12_comesBy_1 : decode cX12_comesBy 1 = .ok (.iload_n 1, 1) := by decide +kernel
theorem dX12_comesBy_2 : decode cX12_comesBy 2 = .ok (.ishl, 1) := by decide +kernel
theorem dX12_comesBy_3 : decode cX12_comesBy 3 = .ok (.istore_n 3, 1) := by decide +kernel
theorem dX12_comesBy_4 : decode cX12_comesBy 4 = .ok (.iconst 0, 1) := by decide +kernel
theorem dX12_comesBy_5 : decode cX12_comesBy 5 = .ok (.istore 4, 2) := by decide +kernel
theorem dX12_comesBy_7 : decode cX12_comesBy 7 = .ok (.iload 4, 2) := by decide +kernel
theorem dX12_comesBy_9 : decode cX12_comesBy 9 = .ok (.bipush 8, 2) := by decide +kernel
theorem dX12_comesBy_11 : decode cX12_comesBy 11 = .ok (.if_icmp .ge 62, 3) := by decide +kernel
theorem dX12_comesBy_14 : decode cX12_comesBy 14 = .ok (.iconst 0, 1) := by decide +kernel
theorem dX12_comesBy_15 : decode cX12_comesBy 15 = .ok (.istore 5, 2) := by decide +kernel
theorem dX12_comesBy_17 : decode cX12_comesBy 17 = .ok (.iload 5, 2) := by decide +kernel
theorem dX12_comesBy_19 : decode cX12_comesBy 19 = .ok (.bipush 24, 2) := by decide +kernel
theorem dX12_comesBy_21 : decode cX12_comesBy 21 = .ok (.if_icmp .ge 46, 3) := by decide +kernel
theorem dX12_comesBy_24 : decode cX12_comesBy 24 = .ok (.iload_n 2, 1) := by decide +kernel
theorem dX12_comesBy_25 : decode cX12_comesBy 25 = .ok (.i2l, 1) := by decide +kernel
theorem dX12_comesBy_26 : decode cX12_comesBy 26 = .ok (.iload 5, 2) := by decide +kernel
theorem dX12_comesBy_28 : decode cX12_comesBy 28 = .ok (.invokestatic 228, 3) := by decide +kernel
theorem dX12_comesBy_31 : decode cX12_comesBy 31 = .ok (.ifCond .eq 30, 3) := by decide +kernel
theorem dX12_comesBy_34 : decode cX12_comesBy 34 = .ok (.iload_n 3, 1) := by decide +kernel
theorem dX12_comesBy_35 : decode cX12_comesBy 35 = .ok (.i2l, 1) := by decide +kernel
theorem dX12_comesBy_36 : decode cX12_comesBy 36 = .ok (.aload_n 0, 1) := by decide +kernel
theorem dX12_comesBy_37 : decode cX12_comesBy 37 = .ok (.getfield 36, 3) := by decide +kernel
theorem dX12_comesBy_40 : decode cX12_comesBy 40 = .ok (.iload 5, 2) := by decide +kernel
theorem dX12_comesBy_42 : decode cX12_comesBy 42 = .ok (.iaload, 1) := by decide +kernel
theorem dX12_comesBy_43 : decode cX12_comesBy 43 = .ok (.invokestatic 228, 3) := by decide +kernel
theorem dX12_comesBy_46 : decode cX12_comesBy 46 = .ok (.ifCond .eq 15, 3) := by decide +kernel
theorem dX12_comesBy_49 : decode cX12_comesBy 49 = .ok (.iload_n 3, 1) := by decide +kernel
theorem dX12_comesBy_50 : decode cX12_comesBy 50 = .ok (.iconst 1, 1) := by decide +kernel
theorem dX12_comesBy_51 : decode cX12_comesBy 51 = .ok (.aload_n 0, 1) := by decide +kernel
theorem dX12_comesBy_52 : decode cX12_comesBy 52 = .ok (.getfield 39, 3) := by decide +kernel
theorem dX12_comesBy_55 : decode cX12_comesBy 55 = .ok (.iload 5, 2) := by decide +kernel
theorem dX12_comesBy_57 : decode cX12_comesBy 57 = .ok (.iaload, 1) := by decide +kernel
theorem dX12_comesBy_58 : decode cX12_comesBy 58 = .ok (.ishl, 1) := by decide +kernel
theorem dX12_comesBy_59 : decode cX12_comesBy 59 = .ok (.ior, 1) := by decide +kernel
theorem dX12_comesBy_60 : decode cX12_comesBy 60 = .ok (.istore_n 3, 1) := by decide +kernel
theorem dX12_comesBy_61 : decode cX12_comesBy 61 = .ok (.iinc 5 1, 3) := by decide +kernel
theorem dX12_comesBy_64 : decode cX12_comesBy 64 = .ok (.goto (-47), 3) := by decide +kernel
theorem dX12_comesBy_67 : decode cX12_comesBy 67 = .ok (.iinc 4 1, 3) := by decide +kernel
theorem dX12_comesBy_70 : decode cX12_comesBy 70 = .ok (.goto (-63), 3) := by decide +kernel
theorem dX12_comesBy_73 : decode cX12_comesBy 73 = .ok (.iload_n 3, 1) := by decide +kernel
theorem dX12_comesBy_74 : decode cX12_comesBy 74 = .ok (.ireturn, 1) := by decide +kernel
def M_comesBy_L17 (x2 : Int32) (x4 : Int32) (K67 : Int32 → Hp → Prop) : Nat → Int32 → Int32 → Hp → Prop
  | 0, _, _, _ => False
  | n + 1, x3, x5, h => (24 ≤ x5 → K67 x3 h) ∧ (¬ 24 ≤ x5 → M_isIn ((x2).toInt64) x5 h (fun r2 h3 => ∀ J61 : Int32 → Hp → Prop, J61 = (fun x3_4 h5 => ∀ v6 : Int32, v6 = (x5 + 1) → M_comesBy_L17 x2 x4 K67 n x3_4 v6 h5) → (r2 = 0 → J61 x3 h3) ∧ (¬ r2 = 0 → vp_in x5 24 ∧ M_isIn ((x3).toInt64) (gI h3 105 (x5).toNatClampNeg) h3 (fun r7 h8 => (r7 = 0 → J61 x3 h8) ∧ (¬ r7 = 0 → vp_in x5 24 ∧ ∀ v9 : Int32, v9 = (x3 ||| ((1 : Int32) <<< ((gI h8 106 (x5).toNatClampNeg) &&& 31))) → J61 v9 h8)))))
set_option maxHeartbeats 4000000 in
set_option maxRecDepth 20000 in
theorem gl_M_comesBy_L17 {G : Gx}  {x2 : Int32} {x4 : Int32} {Q : Int32 → Hp → Prop} {K67 : Int32 → Hp → Prop} (hK67 : ∀ (y3 : Int32) (h1 : Hp), K67 y3 h1 → Go cX12_comesBy 6 RX12 (some .int) 2 G (QI G Q) 67 [(0, .ref (gAd G 98)), (2, .int x2), (3, .int y3), (4, .int x4)] [] h1) : ∀ (n : Nat) (x3 : Int32) (x5 : Int32) (h : Hp), M_comesBy_L17 x2 x4 K67 n x3 x5 h → Go cX12_comesBy 6 RX12 (some .int) 2 G (QI G Q) 17 [(0, .ref (gAd G 98)), (2, .int x2), (3, .int x3), (4, .int x4), (5, .int x5)] [] h := by
  intro n
  induction n with
  | zero => intro _ _ h hw; exact False.elim hw
  | succ n ih =>
    intro x3 x5 h hw
    refine g_iload dX12_comesBy_17 rfl ?_
    refine g_bipush (v := 24) dX12_comesBy_19 (by decide) ?_
    refine g_icmp_ge 67 dX12_comesBy_21 rfl (fun hc => ?_) (fun hc => ?_)
    · have hw := hw.1 hc
      refine g_lv [0, 1, 2, 3] rfl ?_
      exact hK67 _ _ hw
    · have hw := hw.2 hc
      refine g_iload_n dX12_comesBy_24 rfl rfl ?_
      refine g_i2l dX12_comesBy_25 ?_
      refine g_iload dX12_comesBy_26 rfl ?_
      refine g_callSI [.long ((x2).toInt64), .int x5] dX12_comesBy_28 ml_X12_228 mk_X12_isIn rfl (Nat.le_of_ble_eq_true rfl) (Nat.le_of_ble_eq_true rfl) rfl (c_M_isIn hw) (fun r2 h3 hw => ?_)
      refine jn_el hw (fun J61 eJ61 hw => ?_)
      have hJ61 : ∀ (x3_4 : Int32) (h5 : Hp), J61 x3_4 h5 → Go cX12_comesBy 6 RX12 (some .int) 2 G (QI G Q) 61 [(0, .ref (gAd G 98)), (2, .int x2), (3, .int x3_4), (4, .int x4), (5, .int x5)] [] h5 := by
        intro x3_4 h5 hw
        subst eJ61
        obtain ⟨v6, ev6⟩ : ∃ y : Int32, y = (x5 + 1) := ⟨_, rfl⟩
        have hw := hw v6 ev6
        refine g_iinc dX12_comesBy_61 rfl (by rw [ev6]; rfl) (by decide) (lv1 := [(0, .ref (gAd G 98)), (2, .int x2), (3, .int x3_4), (4, .int x4), (5, .int v6)]) rfl ?_
        refine g_goto 17 dX12_comesBy_64 rfl ?_
        exact ih _ _ _ hw
      refine g_if_eq 61 dX12_comesBy_31 rfl (fun hc => ?_) (fun hc => ?_)
      · have hw := hw.1 hc
        exact hJ61 _ _ hw
      · have hw := hw.2 hc
        refine g_iload_n dX12_comesBy_34 rfl rfl ?_
        refine g_i2l dX12_comesBy_35 ?_
        refine g_aload_n dX12_comesBy_36 rfl rfl ?_
        refine g_getA dX12_comesBy_37 fl_X12_36 sh98 rfl ?_
        refine g_iload dX12_comesBy_40 rfl ?_
        refine g_iald dX12_comesBy_42 ia105 al105 hw.1 ?_
        have hw := hw.2
        refine g_callSI [.long ((x3).toInt64), .int (gI h3 105 (x5).toNatClampNeg)] dX12_comesBy_43 ml_X12_228 mk_X12_isIn rfl (Nat.le_of_ble_eq_true rfl) (Nat.le_of_ble_eq_true rfl) rfl (c_M_isIn hw) (fun r7 h8 hw => ?_)
        refine g_if_eq 61 dX12_comesBy_46 rfl (fun hc => ?_) (fun hc => ?_)
        · have hw := hw.1 hc
          exact hJ61 _ _ hw
        · have hw := hw.2 hc
          refine g_iload_n dX12_comesBy_49 rfl rfl ?_
          refine g_iconst (v := 1) dX12_comesBy_50 (by decide) ?_
          refine g_aload_n dX12_comesBy_51 rfl rfl ?_
          refine g_getA dX12_comesBy_52 fl_X12_39 sh98 rfl ?_
          refine g_iload dX12_comesBy_55 rfl ?_
          refine g_iald dX12_comesBy_57 ia106 al106 hw.1 ?_
          have hw := hw.2
          refine g_ishl dX12_comesBy_58 ?_
          refine g_ior dX12_comesBy_59 ?_
          refine g_topi (fun v9 ev9 => ?_)
          have hw := hw v9 ev9
          refine g_istore_n dX12_comesBy_60 rfl (by decide) (lv1 := [(0, .ref (gAd G 98)), (2, .int x2), (3, .int v9), (4, .int x4), (5, .int x5)]) rfl ?_
          exact hJ61 _ _ hw
def M_comesBy_L7 (x2 : Int32) (Q : Int32 → Hp → Prop) : Nat → Int32 → Int32 → Hp → Prop
  | 0, _, _, _ => False
  | n + 1, x3, x4, h => (8 ≤ x4 → Q x3 h) ∧ (¬ 8 ≤ x4 → ∃ n10, M_comesBy_L17 x2 x4 (fun x3_11 h12 => ∀ v13 : Int32, v13 = (x4 + 1) → M_comesBy_L7 x2 Q n x3_11 v13 h12) n10 x3 0 h)
set_option maxHeartbeats 4000000 in
set_option maxRecDepth 20000 in
theorem gl_M_comesBy_L7 {G : Gx}  {x2 : Int32} {Q : Int32 → Hp → Prop} : ∀ (n : Nat) (x3 : Int32) (x4 : Int32) (h : Hp), M_comesBy_L7 x2 Q n x3 x4 h → Go cX12_comesBy 6 RX12 (some .int) 2 G (QI G Q) 7 [(0, .ref (gAd G 98)), (2, .int x2), (3, .int x3), (4, .int x4)] [] h := by
  intro n
  induction n with
  | zero => intro _ _ h hw; exact False.elim hw
  | succ n ih =>
    intro x3 x4 h hw
    refine g_iload dX12_comesBy_7 rfl ?_
    refine g_bipush (v := 8) dX12_comesBy_9 (by decide) ?_
    refine g_icmp_ge 73 dX12_comesBy_11 rfl (fun hc => ?_) (fun hc => ?_)
    · have hw := hw.1 hc
      refine g_iload_n dX12_comesBy_73 rfl rfl ?_
      exact g_iret dX12_comesBy_74 hw
    · have hw := hw.2 hc
      refine g_iconst (v := 0) dX12_comesBy_14 (by decide) ?_
      refine g_istore dX12_comesBy_15 (by decide) (lv1 := [(0, .ref (gAd G 98)), (2, .int x2), (3, .int x3), (4, .int x4), (5, .int 0)]) rfl ?_
      obtain ⟨n10, hw⟩ := hw
      refine gl_M_comesBy_L17  ?_ _ _ _ _ hw
      · intro x3_11 h12 hw
        obtain ⟨v13, ev13⟩ : ∃ y : Int32, y = (x4 + 1) := ⟨_, rfl⟩
        have hw := hw v13 ev13
        refine g_iinc dX12_comesBy_67 rfl (by rw [ev13]; rfl) (by decide) (lv1 := [(0, .ref (gAd G 98)), (2, .int x2), (3, .int x3_11), (4, .int v13)]) rfl ?_
        refine g_goto 7 dX12_comesBy_70 rfl ?_
        exact ih _ _ _ hw
def M_comesBy (x1 : Int32) (x2 : Int32) (h : Hp) (Q : Int32 → Hp → Prop) : Prop := ∀ v1 : Int32, v1 = ((1 : Int32) <<< (x1 &&& 31)) → ∃ n14, M_comesBy_L7 x2 Q n14 v1 0 h
set_option maxHeartbeats 4000000 in
set_option maxRecDepth 20000 in
theorem c_M_comesBy {G : Gx}  {x1 : Int32} {x2 : Int32} {h : Hp} {Q : Int32 → Hp → Prop} (hw : M_comesBy x1 x2 h Q) : Ct yX12_comesBy cX12_comesBy 6 (some .int) 2 G [.ref (gAd G 98), .int x1, .int x2] h (QI G Q) := by
  refine ct_go [(0, .ref (gAd G 98)), (1, .int x1), (2, .int x2)] (plainFor_of_name (by decide)) rfl (Nat.le_of_ble_eq_true rfl) rfl ?_
  refine g_iconst (v := 1) dX12_comesBy_0 (by decide) ?_
  refine g_iload_n dX12_comesBy_1 rfl rfl ?_
  refine g_ishl dX12_comesBy_2 ?_
  refine g_topi (fun v1 ev1 => ?_)
  have hw := hw v1 ev1
  refine g_istore_n dX12_comesBy_3 rfl (by decide) (lv1 := [(0, .ref (gAd G 98)), (1, .int x1), (2, .int x2), (3, .int v1)]) rfl ?_
  refine g_iconst (v := 0) dX12_comesBy_4 (by decide) ?_
  refine g_istore dX12_comesBy_5 (by decide) (lv1 := [(0, .ref (gAd G 98)), (1, .int x1), (2, .int x2), (3, .int v1), (4, .int 0)]) rfl ?_
  obtain ⟨n14, hw⟩ := hw
  refine g_lv [0, 2, 3, 4] rfl ?_
  refine gl_M_comesBy_L7   _ _ _ _ hw
theorem dX12_isLess_0 : decode cX12_isLess 0 = .ok (.aload_n 0, 1) := by decide +kernel
theorem dX12_isLess_1 : decode cX12_isLess 1 = .ok (.getfield 57, 3) := by decide +kernel
theorem dX12_isLess_4 : decode cX12_isLess 4 = .ok (.iload_n 1, 1) := by decide +kernel
theorem dX12_isLess_5 : decode cX12_isLess 5 = .ok (.iaload, 1) := by decide +kernel
theorem dX12_isLess_6 : decode cX12_isLess 6 = .ok (.aload_n 0, 1) := by decide +kernel
theorem dX12_isLess_7 : decode cX12_isLess 7 = .ok (.getfield 60, 3) := by decide +kernel
theorem dX12_isLess_10 : decode cX12_isLess 10 = .ok (.iload_n 2, 1) := by decide +kernel
theorem dX12_isLess_11 : decode cX12_isLess 11 = .ok (.iaload, 1) := by decide +kernel
theorem dX12_isLess_12 : decode cX12_isLess 12 = .ok (.imul, 1) := by decide +kernel
theorem dX12_isLess_13 : decode cX12_isLess 13 = .ok (.aload_n 0, 1) := by decide +kernel
theorem dX12_isLess_14 : decode cX12_isLess 14 = .ok (.getfield 57, 3) := by decide +kernel
theorem dX12_isLess_17 : decode cX12_isLess 17 = .ok (.iload_n 2, 1) := by decide +kernel
theorem dX12_isLess_18 : decode cX12_isLess 18 = .ok (.iaload, 1) := by decide +kernel
theorem dX12_isLess_19 : decode cX12_isLess 19 = .ok (.aload_n 0, 1) := by decide +kernel
theorem dX12_isLess_20 : decode cX12_isLess 20 = .ok (.getfield 60, 3) := by decide +kernel
theorem dX12_isLess_23 : decode cX12_isLess 23 = .ok (.iload_n 1, 1) := by decide +kernel
theorem dX12_isLess_24 : decode cX12_isLess 24 = .ok (.iaload, 1) := by decide +kernel
theorem dX12_isLess_25 : decode cX12_isLess 25 = .ok (.imul, 1) := by decide +kernel
theorem dX12_isLess_26 : decode cX12_isLess 26 = .ok (.if_icmp .ge 7, 3) := by decide +kernel
theorem dX12_isLess_29 : decode cX12_isLess 29 = .ok (.iconst 1, 1) := by decide +kernel
theorem dX12_isLess_30 : decode cX12_isLess 30 = .ok (.goto 4, 3) := by decide +kernel
theorem dX12_isLess_33 : decode cX12_isLess 33 = .ok (.iconst 0, 1) := by decide +kernel
theorem dX12_isLess_34 : decode cX12_isLess 34 = .ok (.ireturn, 1) := by decide +kernel
def M_isLess (x1 : Int32) (x2 : Int32) (h : Hp) (Q : Int32 → Hp → Prop) : Prop := vp_in x1 1024 ∧ vp_in x2 1024 ∧ vp_in x2 1024 ∧ vp_in x1 1024 ∧ (((gI h 112 (x2).toNatClampNeg) * (gI h 113 (x1).toNatClampNeg)) ≤ ((gI h 112 (x1).toNatClampNeg) * (gI h 113 (x2).toNatClampNeg)) → Q 0 h) ∧ (¬ ((gI h 112 (x2).toNatClampNeg) * (gI h 113 (x1).toNatClampNeg)) ≤ ((gI h 112 (x1).toNatClampNeg) * (gI h 113 (x2).toNatClampNeg)) → Q 1 h)
set_option maxHeartbeats 4000000 in
set_option maxRecDepth 20000 in
theorem c_M_isLess {G : Gx}  {x1 : Int32} {x2 : Int32} {h : Hp} {Q : Int32 → Hp → Prop} (hw : M_isLess x1 x2 h Q) : Ct yX12_isLess cX12_isLess 3 (some .boolean) 1 G [.ref (gAd G 98), .int x1, .int x2] h (QI G Q) := by
  refine ct_go [(0, .ref (gAd G 98)), (1, .int x1), (2, .int x2)] (plainFor_of_name (by decide)) rfl (Nat.le_of_ble_eq_true rfl) rfl ?_
  refine g_aload_n dX12_isLess_0 rfl rfl ?_
  refine g_getA dX12_isLess_1 fl_X12_57 sh98 rfl ?_
  refine g_iload_n dX12_isLess_4 rfl rfl ?_
  refine g_iald dX12_isLess_5 ia112 al112 hw.1 ?_
  have hw := hw.2
  refine g_aload_n dX12_isLess_6 rfl rfl ?_
  refine g_getA dX12_isLess_7 fl_X12_60 sh98 rfl ?_
  refine g_iload_n dX12_isLess_10 rfl rfl ?_
  refine g_iald dX12_isLess_11 ia113 al113 hw.1 ?_
  have hw := hw.2
  refine g_imul dX12_isLess_12 ?_
  refine g_aload_n dX12_isLess_13 rfl rfl ?_
  refine g_getA dX12_isLess_14 fl_X12_57 sh98 rfl ?_
  refine g_iload_n dX12_isLess_17 rfl rfl ?_
  refine g_iald dX12_isLess_18 ia112 al112 hw.1 ?_
  have hw := hw.2
  refine g_aload_n dX12_isLess_19 rfl rfl ?_
  refine g_getA dX12_isLess_20 fl_X12_60 sh98 rfl ?_
  refine g_iload_n dX12_isLess_23 rfl rfl ?_
  refine g_iald dX12_isLess_24 ia113 al113 hw.1 ?_
  have hw := hw.2
  refine g_imul dX12_isLess_25 ?_
  refine g_icmp_ge 33 dX12_isLess_26 rfl (fun hc => ?_) (fun hc => ?_)
  · have hw := hw.1 hc
    refine g_iconst (v := 0) dX12_isLess_33 (by decide) ?_
    exact g_zret dX12_isLess_34 rfl hw
  · have hw := hw.2 hc
    refine g_iconst (v := 1) dX12_isLess_29 (by decide) ?_
    refine g_goto 34 dX12_isLess_30 rfl ?_
    exact g_zret dX12_isLess_34 rfl hw
theorem dX12_ringBy_0 : decode cX12_ringBy 0 = .ok (.iconst (-1), 1) := by decide +kernel
theorem dX12_ringBy_1 : decode cX12_ringBy 1 = .ok (.istore 4, 2) := by decide +kernel
theorem dX12_ringBy_3 : decode cX12_ringBy 3 = .ok (.iconst 0, 1) := by decide +kernel
theorem dX12_ringBy_4 : decode cX12_ringBy 4 = .ok (.istore 5, 2) := by decide +kernel
theorem dX12_ringBy_6 : decode cX12_ringBy 6 = .ok (.iload 5, 2) := by decide +kernel
theorem dX12_ringBy_8 : decode cX12_ringBy 8 = .ok (.aload_n 0, 1) := by decide +kernel
theorem dX12_ringBy_9 : decode cX12_ringBy 9 = .ok (.getfield 360, 3) := by decide +kernel
theorem dX12_ringBy_12 : decode cX12_ringBy 12 = .ok (.if_icmp .ge 77, 3) := by decide +kernel
theorem dX12_ringBy_15 : decode cX12_ringBy 15 = .ok (.aload_n 0, 1) := by decide +kernel
theorem dX12_ringBy_16 : decode cX12_ringBy 16 = .ok (.getfield 51, 3) := by decide +kernel
theorem dX12_ringBy_19 : decode cX12_ringBy 19 = .ok (.iload 5, 2) := by decide +kernel
theorem dX12_ringBy_21 : decode cX12_ringBy 21 = .ok (.iaload, 1) := by decide +kernel
theorem dX12_ringBy_22 : decode cX12_ringBy 22 = .ok (.iload_n 2, 1) := by decide +kernel
theorem dX12_ringBy_23 : decode cX12_ringBy 23 = .ok (.iconst (-1), 1) := by decide +kernel
theorem dX12_ringBy_24 : decode cX12_ringBy 24 = .ok (.ixor, 1) := by decide +kernel
theorem dX12_ringBy_25 : decode cX12_ringBy 25 = .ok (.iand, 1) := by decide +kernel
theorem dX12_ringBy_26 : decode cX12_ringBy 26 = .ok (.ifCond .ne 57, 3) := by decide +kernel
theorem dX12_ringBy_29 : decode cX12_ringBy 29 = .ok (.aload_n 0, 1) := by decide +kernel
theorem dX12_ringBy_30 : decode cX12_ringBy 30 = .ok (.getfield 54, 3) := by decide +kernel
theorem dX12_ringBy_33 : decode cX12_ringBy 33 = .ok (.iload 5, 2) := by decide +kernel
theorem dX12_ringBy_35 : decode cX12_ringBy 35 = .ok (.iaload, 1) := by decide +kernel
theorem dX12_ringBy_36 : decode cX12_ringBy 36 = .ok (.iload_n 1, 1) := by decide +kernel
theorem dX12_ringBy_37 : decode cX12_ringBy 37 = .ok (.iand, 1) := by decide +kernel
theorem dX12_ringBy_38 : decode cX12_ringBy 38 = .ok (.ifCond .ne 6, 3) := by decide +kernel
theorem dX12_ringBy_41 : decode cX12_ringBy 41 = .ok (.goto 42, 3) := by decide +kernel
theorem dX12_ringBy_44 : decode cX12_ringBy 44 = .ok (.iload 4, 2) := by decide +kernel
theorem dX12_ringBy_46 : decode cX12_ringBy 46 = .ok (.iconst (-1), 1) := by decide +kernel
theorem dX12_ringBy_47 : decode cX12_ringBy 47 = .ok (.if_icmp .eq 32, 3) := by decide +kernel
theorem dX12_ringBy_50 : decode cX12_ringBy 50 = .ok (.iload_n 3, 1) := by decide +kernel
theorem dX12_ringBy_51 : decode cX12_ringBy 51 = .ok (.ifCond .eq 17, 3) := by decide +kernel
theorem dX12_ringBy_54 : decode cX12_ringBy 54 = .ok (.aload_n 0, 1) := by decide +kernel
theorem dX12_ringBy_55 : decode cX12_ringBy 55 = .ok (.iload 4, 2) := by decide +kernel
theorem dX12_ringBy_57 : decode cX12_ringBy 57 = .ok (.iload 5, 2) := by decide +kernel
theorem dX12_ringBy_59 : decode cX12_ringBy 59 = .ok (.invokevirtual 367, 3) := by decide +kernel
theorem dX12_ringBy_62 : decode cX12_ringBy 62 = .ok (.ifCond .eq 21, 3) := by decide +kernel
theorem dX12_ringBy_65 : decode cX12_ringBy 65 = .ok (.goto 14, 3) := by decide +kernel
theorem dX12_ringBy_68 : decode cX12_ringBy 68 = .ok (.aload_n 0, 1) := by decide +kernel
theorem dX12_ringBy_69 : decode cX12_ringBy 69 = .ok (.iload 5, 2) := by decide +kernel
theorem dX12_ringBy_71 : decode cX12_ringBy 71 = .ok (.iload 4, 2) := by decide +kernel
theorem dX12_ringBy_73 : decode cX12_ringBy 73 = .ok (.invokevirtual 367, 3) := by decide +kernel
theorem dX12_ringBy_76 : decode cX12_ringBy 76 = .ok (.ifCond .eq 7, 3) := by decide +kernel
theorem dX12_ringBy_79 : decode cX12_ringBy 79 = .ok (.iload 5, 2) := by decide +kernel
theorem dX12_ringBy_81 : decode cX12_ringBy 81 = .ok (.istore 4, 2) := by decide +kernel
theorem dX12_ringBy_83 : decode cX12_ringBy 83 = .ok (.iinc 5 1, 3) := by decide +kernel
theorem dX12_ringBy_86 : decode cX12_ringBy 86 = .ok (.goto (-80), 3) := by decide +kernel
theorem dX12_ringBy_89 : decode cX12_ringBy 89 = .ok (.iload 4, 2) := by decide +kernel
theorem dX12_ringBy_91 : decode cX12_ringBy 91 = .ok (.ireturn, 1) := by decide +kernel
theorem ml_X12_367 : Cond.methodLink RX12 367 yX12_isLess ∈ Wd := mW 1773 (by decide +kernel) rfl
theorem mk_X12_isLess : MokV yX12_isLess cX12_isLess 3 (some .boolean) 2 := ⟨⟨mW 14 (by decide +kernel) rfl, mW 1776 (by decide +kernel) rfl, ⟨by decide, by decide, by decide +kernel⟩, by decide⟩, mW 1775 (by decide +kernel) rfl, mS (q := (yX12_isLess, 46)) 92 (by decide +kernel)⟩
def M_ringBy_L6 (x1 : Int32) (x2 : Int32) (x3 : Int32) (Q : Int32 → Hp → Prop) : Nat → Int32 → Int32 → Hp → Prop
  | 0, _, _, _ => False
  | n + 1, x4, x5, h => ((gI h 98 28) ≤ x5 → Q x4 h) ∧ (¬ (gI h 98 28) ≤ x5 → vp_in x5 1024 ∧ ∀ J83 : Int32 → Hp → Prop, J83 = (fun x4_1 h2 => ∀ v3 : Int32, v3 = (x5 + 1) → M_ringBy_L6 x1 x2 x3 Q n x4_1 v3 h2) → (¬ ((gI h 110 (x5).toNatClampNeg) &&& (x2 ^^^ (-1))) = 0 → J83 x4 h) ∧ (((gI h 110 (x5).toNatClampNeg) &&& (x2 ^^^ (-1))) = 0 → vp_in x5 1024 ∧ (¬ ((gI h 111 (x5).toNatClampNeg) &&& x1) = 0 → ∀ J79 : Hp → Prop, J79 = (fun h4 => J83 x5 h4) → (x4 = (-1) → J79 h) ∧ (¬ x4 = (-1) → (x3 = 0 → M_isLess x5 x4 h (fun r5 h6 => (r5 = 0 → J83 x4 h6) ∧ (¬ r5 = 0 → J79 h6))) ∧ (¬ x3 = 0 → M_isLess x4 x5 h (fun r7 h8 => (r7 = 0 → J83 x4 h8) ∧ (¬ r7 = 0 → J79 h8))))) ∧ (((gI h 111 (x5).toNatClampNeg) &&& x1) = 0 → J83 x4 h)))
set_option maxHeartbeats 4000000 in
set_option maxRecDepth 20000 in
theorem gl_M_ringBy_L6 {G : Gx}  {x1 : Int32} {x2 : Int32} {x3 : Int32} {Q : Int32 → Hp → Prop} : ∀ (n : Nat) (x4 : Int32) (x5 : Int32) (h : Hp), M_ringBy_L6 x1 x2 x3 Q n x4 x5 h → Go cX12_ringBy 6 RX12 (some .int) 2 G (QI G Q) 6 [(0, .ref (gAd G 98)), (1, .int x1), (2, .int x2), (3, .int x3), (4, .int x4), (5, .int x5)] [] h := by
  intro n
  induction n with
  | zero => intro _ _ h hw; exact False.elim hw
  | succ n ih =>
    intro x4 x5 h hw
    refine g_iload dX12_ringBy_6 rfl ?_
    refine g_aload_n dX12_ringBy_8 rfl rfl ?_
    refine g_getI dX12_ringBy_9 fl_X12_360 sh98 rfl ?_
    refine g_icmp_ge 89 dX12_ringBy_12 rfl (fun hc => ?_) (fun hc => ?_)
    · have hw := hw.1 hc
      refine g_iload dX12_ringBy_89 rfl ?_
      exact g_iret dX12_ringBy_91 hw
    · have hw := hw.2 hc
      refine g_aload_n dX12_ringBy_15 rfl rfl ?_
      refine g_getA dX12_ringBy_16 fl_X12_51 sh98 rfl ?_
      refine g_iload dX12_ringBy_19 rfl ?_
      refine g_iald dX12_ringBy_21 ia110 al110 hw.1 ?_
      have hw := hw.2
      refine g_iload_n dX12_ringBy_22 rfl rfl ?_
      refine g_iconst (v := (-1)) dX12_ringBy_23 (by decide) ?_
      refine g_ixor dX12_ringBy_24 ?_
      refine g_iand dX12_ringBy_25 ?_
      refine jn_el hw (fun J83 eJ83 hw => ?_)
      have hJ83 : ∀ (x4_1 : Int32) (h2 : Hp), J83 x4_1 h2 → Go cX12_ringBy 6 RX12 (some .int) 2 G (QI G Q) 83 [(0, .ref (gAd G 98)), (1, .int x1), (2, .int x2), (3, .int x3), (4, .int x4_1), (5, .int x5)] [] h2 := by
        intro x4_1 h2 hw
        subst eJ83
        obtain ⟨v3, ev3⟩ : ∃ y : Int32, y = (x5 + 1) := ⟨_, rfl⟩
        have hw := hw v3 ev3
        refine g_iinc dX12_ringBy_83 rfl (by rw [ev3]; rfl) (by decide) (lv1 := [(0, .ref (gAd G 98)), (1, .int x1), (2, .int x2), (3, .int x3), (4, .int x4_1), (5, .int v3)]) rfl ?_
        refine g_goto 6 dX12_ringBy_86 rfl ?_
        exact ih _ _ _ hw
      refine g_if_ne 83 dX12_ringBy_26 rfl (fun hc => ?_) (fun hc => ?_)
      · have hw := hw.1 hc
        exact hJ83 _ _ hw
      · have hw := hw.2 hc
        refine g_aload_n dX12_ringBy_29 rfl rfl ?_
        refine g_getA dX12_ringBy_30 fl_X12_54 sh98 rfl ?_
        refine g_iload dX12_ringBy_33 rfl ?_
        refine g_iald dX12_ringBy_35 ia111 al111 hw.1 ?_
        have hw := hw.2
        refine g_iload_n dX12_ringBy_36 rfl rfl ?_
        refine g_iand dX12_ringBy_37 ?_
        refine g_if_ne 44 dX12_ringBy_38 rfl (fun hc => ?_) (fun hc => ?_)
        · have hw := hw.1 hc
          refine g_iload dX12_ringBy_44 rfl ?_
          refine g_iconst (v := (-1)) dX12_ringBy_46 (by decide) ?_
          refine jn_el hw (fun J79 eJ79 hw => ?_)
          have hJ79 : ∀ (h4 : Hp), J79 h4 → Go cX12_ringBy 6 RX12 (some .int) 2 G (QI G Q) 79 [(0, .ref (gAd G 98)), (1, .int x1), (2, .int x2), (3, .int x3), (5, .int x5)] [] h4 := by
            intro h4 hw
            subst eJ79
            refine g_iload dX12_ringBy_79 rfl ?_
            refine g_istore dX12_ringBy_81 (by decide) (lv1 := [(0, .ref (gAd G 98)), (1, .int x1), (2, .int x2), (3, .int x3), (4, .int x5), (5, .int x5)]) rfl ?_
            exact hJ83 _ _ hw
          refine g_icmp_eq 79 dX12_ringBy_47 rfl (fun hc => ?_) (fun hc => ?_)
          · have hw := hw.1 hc
            refine g_lv [0, 1, 2, 3, 5] rfl ?_
            exact hJ79 _ hw
          · have hw := hw.2 hc
            refine g_iload_n dX12_ringBy_50 rfl rfl ?_
            refine g_if_eq 68 dX12_ringBy_51 rfl (fun hc => ?_) (fun hc => ?_)
            · have hw := hw.1 hc
              refine g_aload_n dX12_ringBy_68 rfl rfl ?_
              refine g_iload dX12_ringBy_69 rfl ?_
              refine g_iload dX12_ringBy_71 rfl ?_
              refine g_callVI [.int x5, .int x4] (ci := 12) dX12_ringBy_73 ml_X12_367 mk_X12_isLess rfl rfl sh98 (Nat.le_of_ble_eq_true rfl) (Nat.le_of_ble_eq_true rfl) rfl (c_M_isLess hw) (fun r5 h6 hw => ?_)
              refine g_if_eq 83 dX12_ringBy_76 rfl (fun hc => ?_) (fun hc => ?_)
              · have hw := hw.1 hc
                exact hJ83 _ _ hw
              · have hw := hw.2 hc
                refine g_lv [0, 1, 2, 3, 5] rfl ?_
                exact hJ79 _ hw
            · have hw := hw.2 hc
              refine g_aload_n dX12_ringBy_54 rfl rfl ?_
              refine g_iload dX12_ringBy_55 rfl ?_
              refine g_iload dX12_ringBy_57 rfl ?_
              refine g_callVI [.int x4, .int x5] (ci := 12) dX12_ringBy_59 ml_X12_367 mk_X12_isLess rfl rfl sh98 (Nat.le_of_ble_eq_true rfl) (Nat.le_of_ble_eq_true rfl) rfl (c_M_isLess hw) (fun r7 h8 hw => ?_)
              refine g_if_eq 83 dX12_ringBy_62 rfl (fun hc => ?_) (fun hc => ?_)
              · have hw := hw.1 hc
                exact hJ83 _ _ hw
              · have hw := hw.2 hc
                refine g_goto 79 dX12_ringBy_65 rfl ?_
                refine g_lv [0, 1, 2, 3, 5] rfl ?_
                exact hJ79 _ hw
        · have hw := hw.2 hc
          refine g_goto 83 dX12_ringBy_41 rfl ?_
          exact hJ83 _ _ hw
def M_ringBy (x1 : Int32) (x2 : Int32) (x3 : Int32) (h : Hp) (Q : Int32 → Hp → Prop) : Prop := ∃ n9, M_ringBy_L6 x1 x2 x3 Q n9 (-1) 0 h
set_option maxHeartbeats 4000000 in
set_option maxRecDepth 20000 in
theorem c_M_ringBy {G : Gx}  {x1 : Int32} {x2 : Int32} {x3 : Int32} {h : Hp} {Q : Int32 → Hp → Prop} (hw : M_ringBy x1 x2 x3 h Q) : Ct yX12_ringBy cX12_ringBy 6 (some .int) 2 G [.ref (gAd G 98), .int x1, .int x2, .int x3] h (QI G Q) := by
  refine ct_go [(0, .ref (gAd G 98)), (1, .int x1), (2, .int x2), (3, .int x3)] (plainFor_of_name (by decide)) rfl (Nat.le_of_ble_eq_true rfl) rfl ?_
  refine g_iconst (v := (-1)) dX12_ringBy_0 (by decide) ?_
  refine g_istore dX12_ringBy_1 (by decide) (lv1 := [(0, .ref (gAd G 98)), (1, .int x1), (2, .int x2), (3, .int x3), (4, .int (-1))]) rfl ?_
  refine g_iconst (v := 0) dX12_ringBy_3 (by decide) ?_
  refine g_istore dX12_ringBy_4 (by decide) (lv1 := [(0, .ref (gAd G 98)), (1, .int x1), (2, .int x2), (3, .int x3), (4, .int (-1)), (5, .int 0)]) rfl ?_
  obtain ⟨n9, hw⟩ := hw
  refine gl_M_ringBy_L6   _ _ _ _ hw
