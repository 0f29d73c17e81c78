theorem dX11_init_0 : decode cX11_init 0 = .ok (.aload_n 0, 1) := by decide +kernel
theorem dX11_init_1 : decode cX11_init 1 = .ok (.invokespecial 1, 3) := by decide +kernel
theorem dX11_init_4 : decode cX11_init 4 = .ok (.aload_n 0, 1) := by decide +kernel
theorem dX11_init_5 : decode cX11_init 5 = .ok (.sipush 900, 3) := by decide +kernel
theorem dX11_init_8 : decode cX11_init 8 = .ok (.newarray .byte, 2) := by decide +kernel
theorem dX11_init_10 : decode cX11_init 10 = .ok (.putfield 9, 3) := by decide +kernel
theorem dX11_init_13 : decode cX11_init 13 = .ok (.aload_n 0, 1) := by decide +kernel
theorem dX11_init_14 : decode cX11_init 14 = .ok (.iconst 0, 1) := by decide +kernel
theorem dX11_init_15 : decode cX11_init 15 = .ok (.putfield 13, 3) := by decide +kernel
theorem dX11_init_18 : decode cX11_init 18 = .ok (.aload_n 0, 1) := by decide +kernel
theorem dX11_init_19 : decode cX11_init 19 = .ok (.new 17, 3) := by decide +kernel
theorem dX11_init_22 : decode cX11_init 22 = .ok (.dup, 1) := by decide +kernel
theorem dX11_init_23 : decode cX11_init 23 = .ok (.invokespecial 19, 3) := by decide +kernel
theorem dX11_init_26 : decode cX11_init 26 = .ok (.putfield 20, 3) := by decide +kernel
theorem dX11_init_29 : decode cX11_init 29 = .ok (.aload_n 0, 1) := by decide +kernel
theorem dX11_init_30 : decode cX11_init 30 = .ok (.new 24, 3) := by decide +kernel
theorem dX11_init_33 : decode cX11_init 33 = .ok (.dup, 1) := by decide +kernel
theorem dX11_init_34 : decode cX11_init 34 = .ok (.invokespecial 26, 3) := by decide +kernel
theorem dX11_init_37 : decode cX11_init 37 = .ok (.putfield 27, 3) := by decide +kernel
theorem dX11_init_40 : decode cX11_init 40 = .ok (.aload_n 0, 1) := by decide +kernel
theorem dX11_init_41 : decode cX11_init 41 = .ok (.new 31, 3) := by decide +kernel
theorem dX11_init_44 : decode cX11_init 44 = .ok (.dup, 1) := by decide +kernel
theorem dX11_init_45 : decode cX11_init 45 = .ok (.invokespecial 33, 3) := by decide +kernel
theorem dX11_init_48 : decode cX11_init 48 = .ok (.putfield 34, 3) := by decide +kernel
theorem dX11_init_51 : decode cX11_init 51 = .ok (.aload_n 0, 1) := by decide +kernel
theorem dX11_init_52 : decode cX11_init 52 = .ok (.new 31, 3) := by decide +kernel
theorem dX11_init_55 : decode cX11_init 55 = .ok (.dup, 1) := by decide +kernel
theorem dX11_init_56 : decode cX11_init 56 = .ok (.invokespecial 33, 3) := by decide +kernel
theorem dX11_init_59 : decode cX11_init 59 = .ok (.putfield 38, 3) := by decide +kernel
theorem dX11_init_62 : decode cX11_init 62 = .ok (.aload_n 0, 1) := by decide +kernel
theorem dX11_init_63 : decode cX11_init 63 = .ok (.new 41, 3) := by decide +kernel
theorem dX11_init_66 : decode cX11_init 66 = .ok (.dup, 1) := by decide +kernel
theorem dX11_init_67 : decode cX11_init 67 = .ok (.invokespecial 43, 3) := by decide +kernel
theorem dX11_init_70 : decode cX11_init 70 = .ok (.putfield 44, 3) := by decide +kernel
theorem dX11_init_73 : decode cX11_init 73 = .ok (.aload_n 0, 1) := by decide +kernel
theorem dX11_init_74 : decode cX11_init 74 = .ok (.iconst 4, 1) := by decide +kernel
theorem dX11_init_75 : decode cX11_init 75 = .ok (.anewarray 48, 3) := by decide +kernel
theorem dX11_init_78 : decode cX11_init 78 = .ok (.putfield 50, 3) := by decide +kernel
theorem dX11_init_81 : decode cX11_init 81 = .ok (.aload_n 0, 1) := by decide +kernel
theorem dX11_init_82 : decode cX11_init 82 = .ok (.iconst 2, 1) := by decide +kernel
theorem dX11_init_83 : decode cX11_init 83 = .ok (.anewarray 24, 3) := by decide +kernel
theorem dX11_init_86 : decode cX11_init 86 = .ok (.putfield 54, 3) := by decide +kernel
theorem dX11_init_89 : decode cX11_init 89 = .ok (.aload_n 0, 1) := by decide +kernel
theorem dX11_init_90 : decode cX11_init 90 = .ok (.iconst 2, 1) := by decide +kernel
theorem dX11_init_91 : decode cX11_init 91 = .ok (.anewarray 31, 3) := by decide +kernel
theorem dX11_init_94 : decode cX11_init 94 = .ok (.putfield 58, 3) := by decide +kernel
theorem dX11_init_97 : decode cX11_init 97 = .ok (.aload_n 0, 1) := by decide +kernel
theorem dX11_init_98 : decode cX11_init 98 = .ok (.new 62, 3) := by decide +kernel
theorem dX11_init_101 : decode cX11_init 101 = .ok (.dup, 1) := by decide +kernel
theorem dX11_init_102 : decode cX11_init 102 = .ok (.invokespecial 64, 3) := by decide +kernel
theorem dX11_init_105 : decode cX11_init 105 = .ok (.putfield 65, 3) := by decide +kernel
theorem dX11_init_108 : decode cX11_init 108 = .ok (.aload_n 0, 1) := by decide +kernel
theorem dX11_init_109 : decode cX11_init 109 = .ok (.new 69, 3) := by decide +kernel
theorem dX11_init_112 : decode cX11_init 112 = .ok (.dup, 1) := by decide +kernel
theorem dX11_init_113 : decode cX11_init 113 = .ok (.invokespecial 71, 3) := by decide +kernel
theorem dX11_init_116 : decode cX11_init 116 = .ok (.putfield 72, 3) := by decide +kernel
theorem dX11_init_119 : decode cX11_init 119 = .ok (.aload_n 0, 1) := by decide +kernel
theorem dX11_init_120 : decode cX11_init 120 = .ok (.new 76, 3) := by decide +kernel
theorem dX11_init_123 : decode cX11_init 123 = .ok (.dup, 1) := by decide +kernel
theorem dX11_init_124 : decode cX11_init 124 = .ok (.invokespecial 78, 3) := by decide +kernel
theorem dX11_init_127 : decode cX11_init 127 = .ok (.putfield 79, 3) := by decide +kernel
theorem dX11_init_130 : decode cX11_init 130 = .ok (.aload_n 0, 1) := by decide +kernel
theorem dX11_init_131 : decode cX11_init 131 = .ok (.new 83, 3) := by decide +kernel
theorem dX11_init_134 : decode cX11_init 134 = .ok (.dup, 1) := by decide +kernel
theorem dX11_init_135 : decode cX11_init 135 = .ok (.invokespecial 85, 3) := by decide +kernel
theorem dX11_init_138 : decode cX11_init 138 = .ok (.putfield 86, 3) := by decide +kernel
theorem dX11_init_141 : decode cX11_init 141 = .ok (.aload_n 0, 1) := by decide +kernel
theorem dX11_init_142 : decode cX11_init 142 = .ok (.bipush 8, 2) := by decide +kernel
theorem dX11_init_144 : decode cX11_init 144 = .ok (.newarray .int, 2) := by decide +kernel
theorem dX11_init_146 : decode cX11_init 146 = .ok (.putfield 90, 3) := by decide +kernel
theorem dX11_init_149 : decode cX11_init 149 = .ok (.aload_n 0, 1) := by decide +kernel
theorem dX11_init_150 : decode cX11_init 150 = .ok (.iconst 0, 1) := by decide +kernel
theorem dX11_init_151 : decode cX11_init 151 = .ok (.putfield 94, 3) := by decide +kernel
theorem dX11_init_154 : decode cX11_init 154 = .ok (.iconst 0, 1) := by decide +kernel
theorem dX11_init_155 : decode cX11_init 155 = .ok (.istore_n 1, 1) := by decide +kernel
theorem dX11_init_156 : decode cX11_init 156 = .ok (.iload_n 1, 1) := by decide +kernel
theorem dX11_init_157 : decode cX11_init 157 = .ok (.aload_n 0, 1) := by decide +kernel
theorem dX11_init_158 : decode cX11_init 158 = .ok (.getfield 50, 3) := by decide +kernel
theorem dX11_init_161 : decode cX11_init 161 = .ok (.arraylength, 1) := by decide +kernel
theorem dX11_init_162 : decode cX11_init 162 = .ok (.if_icmp .ge 22, 3) := by decide +kernel
theorem dX11_init_165 : decode cX11_init 165 = .ok (.aload_n 0, 1) := by decide +kernel
theorem dX11_init_166 : decode cX11_init 166 = .ok (.getfield 50, 3) := by decide +kernel
theorem dX11_init_169 : decode cX11_init 169 = .ok (.iload_n 1, 1) := by decide +kernel
theorem dX11_init_170 : decode cX11_init 170 = .ok (.new 48, 3) := by decide +kernel
theorem dX11_init_173 : decode cX11_init 173 = .ok (.dup, 1) := by decide +kernel
theorem dX11_init_174 : decode cX11_init 174 = .ok (.invokespecial 97, 3) := by decide +kernel
theorem dX11_init_177 : decode cX11_init 177 = .ok (.aastore, 1) := by decide +kernel
theorem dX11_init_178 : decode cX11_init 178 = .ok (.iinc 1 1, 3) := by decide +kernel
theorem dX11_init_181 : decode cX11_init 181 = .ok (.goto (-25), 3) := by decide +kernel
theorem dX11_init_184 : decode cX11_init 184 = .ok (.iconst 0, 1) := by decide +kernel
theorem dX11_init_185 : decode cX11_init 185 = .ok (.istore_n 1, 1) := by decide +kernel
theorem dX11_init_186 : decode cX11_init 186 = .ok (.iload_n 1, 1) := by decide +kernel
theorem dX11_init_187 : decode cX11_init 187 = .ok (.aload_n 0, 1) := by decide +kernel
theorem dX11_init_188 : decode cX11_init 188 = .ok (.getfield 54, 3) := by decide +kernel
theorem dX11_init_191 : decode cX11_init 191 = .ok (.arraylength, 1) := by decide +kernel
theorem dX11_init_192 : decode cX11_init 192 = .ok (.if_icmp .ge 44, 3) := by decide +kernel
theorem dX11_init_195 : decode cX11_init 195 = .ok (.iload_n 1, 1) := by decide +kernel
theorem dX11_init_196 : decode cX11_init 196 = .ok (.aload_n 0, 1) := by decide +kernel
theorem dX11_init_197 : decode cX11_init 197 = .ok (.getfield 58, 3) := by decide +kernel
theorem dX11_init_200 : decode cX11_init 200 = .ok (.arraylength, 1) := by decide +kernel
theorem dX11_init_201 : decode cX11_init 201 = .ok (.if_icmp .ge 35, 3) := by decide +kernel
theorem dX11_init_204 : decode cX11_init 204 = .ok (.aload_n 0, 1) := by decide +kernel
theorem dX11_init_205 : decode cX11_init 205 = .ok (.getfield 54, 3) := by decide +kernel
theorem dX11_init_208 : decode cX11_init 208 = .ok (.iload_n 1, 1) := by decide +kernel
theorem dX11_init_209 : decode cX11_init 209 = .ok (.new 24, 3) := by decide +kernel
theorem dX11_init_212 : decode cX11_init 212 = .ok (.dup, 1) := by decide +kernel
theorem dX11_init_213 : decode cX11_init 213 = .ok (.invokespecial 26, 3) := by decide +kernel
theorem dX11_init_216 : decode cX11_init 216 = .ok (.aastore, 1) := by decide +kernel
theorem dX11_init_217 : decode cX11_init 217 = .ok (.aload_n 0, 1) := by decide +kernel
theorem dX11_init_218 : decode cX11_init 218 = .ok (.getfield 58, 3) := by decide +kernel
theorem dX11_init_221 : decode cX11_init 221 = .ok (.iload_n 1, 1) := by decide +kernel
theorem dX11_init_222 : decode cX11_init 222 = .ok (.new 31, 3) := by decide +kernel
theorem dX11_init_225 : decode cX11_init 225 = .ok (.dup, 1) := by decide +kernel
theorem dX11_init_226 : decode cX11_init 226 = .ok (.invokespecial 33, 3) := by decide +kernel
theorem dX11_init_229 : decode cX11_init 229 = .ok (.aastore, 1) := by decide +kernel
theorem dX11_init_230 : decode cX11_init 230 = .ok (.iinc 1 1, 3) := by decide +kernel
theorem dX11_init_233 : decode cX11_init 233 = .ok (.goto (-47), 3) := by decide +kernel
theorem dX11_init_236 : decode cX11_init 236 = .ok (.return_, 1) := by decide +kernel
theorem ml_X11_1 : Cond.methodLink RX11 1 objectInit ∈ Wd := mW 28 (by decide +kernel) rfl
theorem pf_11_0 : parseFieldDescriptor (uD 11 0) = some (.array .byte) := by decide +kernel
theorem cl_X11_17 : Cond.classLink RX11 17 RX5 ∈ Wd := mW 31 (by decide +kernel) rfl
theorem ib_5 : Cond.instantiable RX5 15 ∈ Wd := mW 32 (by decide +kernel) rfl
theorem in_5 : Cond.initialized RX5 ∈ Wd := mW 2 (by decide +kernel) rfl
theorem mi_5 : Mok yX5_init cX5_init 1 none 0 := ⟨mW 2 (by decide +kernel) rfl, mW 35 (by decide +kernel) rfl, ⟨by decide, by decide, by decide +kernel⟩, by decide⟩
theorem ii_5 : Cond.instanceMethod yX5_init ∈ Wd := mW 34 (by decide +kernel) rfl
theorem pf_11_2 : parseFieldDescriptor (uD 11 2) = some (.object "MeanRoads$Reader") := by decide +kernel
theorem cl_X11_24 : Cond.classLink RX11 24 RX2 ∈ Wd := mW 135 (by decide +kernel) rfl
theorem ib_2 : Cond.instantiable RX2 9 ∈ Wd := mW 136 (by decide +kernel) rfl
theorem in_2 : Cond.initialized RX2 ∈ Wd := mW 5 (by decide +kernel) rfl
theorem mi_2 : Mok yX2_init cX2_init 1 none 0 := ⟨mW 5 (by decide +kernel) rfl, mW 139 (by decide +kernel) rfl, ⟨by decide, by decide, by decide +kernel⟩, by decide⟩
theorem ii_2 : Cond.instanceMethod yX2_init ∈ Wd := mW 138 (by decide +kernel) rfl
theorem pf_11_3 : parseFieldDescriptor (uD 11 3) = some (.object "MeanRoads$Land") := by decide +kernel
theorem cl_X11_31 : Cond.classLink RX11 31 RX6 ∈ Wd := mW 188 (by decide +kernel) rfl
theorem ml_X11_33 : Cond.methodLink RX11 33 yX6_init ∈ Wd := mW 190 (by decide +kernel) rfl
theorem pf_11_4 : parseFieldDescriptor (uD 11 4) = some (.object "MeanRoads$Stand") := by decide +kernel
theorem pf_11_5 : parseFieldDescriptor (uD 11 5) = some (.object "MeanRoads$Stand") := by decide +kernel
theorem cl_X11_41 : Cond.classLink RX11 41 RX4 ∈ Wd := mW 219 (by decide +kernel) rfl
theorem ib_4 : Cond.instantiable RX4 3 ∈ Wd := mW 220 (by decide +kernel) rfl
theorem in_4 : Cond.initialized RX4 ∈ Wd := mW 8 (by decide +kernel) rfl
theorem mi_4 : Mok yX4_init cX4_init 2 none 0 := ⟨mW 8 (by decide +kernel) rfl, mW 223 (by decide +kernel) rfl, ⟨by decide, by decide, by decide +kernel⟩, by decide⟩
theorem ii_4 : Cond.instanceMethod yX4_init ∈ Wd := mW 222 (by decide +kernel) rfl
theorem ml_X11_43 : Cond.methodLink RX11 43 yX4_init ∈ Wd := mW 221 (by decide +kernel) rfl
theorem pf_11_6 : parseFieldDescriptor (uD 11 6) = some (.object "MeanRoads$Past") := by decide +kernel
theorem cl_X11_48 : Cond.classLink RX11 48 RX10 ∈ Wd := mW 239 (by decide +kernel) rfl
theorem pf_11_7 : parseFieldDescriptor (uD 11 7) = some (.array (.object "MeanRoads$Tray")) := by decide +kernel
theorem pf_11_8 : parseFieldDescriptor (uD 11 8) = some (.array (.object "MeanRoads$Land")) := by decide +kernel
theorem pf_11_9 : parseFieldDescriptor (uD 11 9) = some (.array (.object "MeanRoads$Stand")) := by decide +kernel
theorem cl_X11_62 : Cond.classLink RX11 62 RX8 ∈ Wd := mW 242 (by decide +kernel) rfl
theorem ib_8 : Cond.instantiable RX8 10 ∈ Wd := mW 243 (by decide +kernel) rfl
theorem in_8 : Cond.initialized RX8 ∈ Wd := mW 9 (by decide +kernel) rfl
theorem mi_8 : Mok yX8_init cX8_init 1 none 0 := ⟨mW 9 (by decide +kernel) rfl, mW 246 (by decide +kernel) rfl, ⟨by decide, by decide, by decide +kernel⟩, by decide⟩
theorem ii_8 : Cond.instanceMethod yX8_init ∈ Wd := mW 245 (by decide +kernel) rfl
theorem pf_11_10 : parseFieldDescriptor (uD 11 10) = some (.object "MeanRoads$Survey") := by decide +kernel
theorem cl_X11_69 : Cond.classLink RX11 69 RX0 ∈ Wd := mW 284 (by decide +kernel) rfl
theorem ib_0 : Cond.instantiable RX0 7 ∈ Wd := mW 285 (by decide +kernel) rfl
theorem in_0 : Cond.initialized RX0 ∈ Wd := mW 10 (by decide +kernel) rfl
theorem mi_0 : Mok yX0_init cX0_init 1 none 0 := ⟨mW 10 (by decide +kernel) rfl, mW 288 (by decide +kernel) rfl, ⟨by decide, by decide, by decide +kernel⟩, by decide⟩
theorem ii_0 : Cond.instanceMethod yX0_init ∈ Wd := mW 287 (by decide +kernel) rfl
theorem pf_11_11 : parseFieldDescriptor (uD 11 11) = some (.object "MeanRoads$Game") := by decide +kernel
theorem cl_X11_76 : Cond.classLink RX11 76 RX1 ∈ Wd := mW 312 (by decide +kernel) rfl
theorem ib_1 : Cond.instantiable RX1 6 ∈ Wd := mW 313 (by decide +kernel) rfl
theorem in_1 : Cond.initialized RX1 ∈ Wd := mW 11 (by decide +kernel) rfl
theorem mi_1 : Mok yX1_init cX1_init 1 none 0 := ⟨mW 11 (by decide +kernel) rfl, mW 316 (by decide +kernel) rfl, ⟨by decide, by decide, by decide +kernel⟩, by decide⟩
theorem ii_1 : Cond.instanceMethod yX1_init ∈ Wd := mW 315 (by decide +kernel) rfl
theorem pf_11_12 : parseFieldDescriptor (uD 11 12) = some (.object "MeanRoads$Going") := by decide +kernel
theorem cl_X11_83 : Cond.classLink RX11 83 RX7 ∈ Wd := mW 339 (by decide +kernel) rfl
theorem ib_7 : Cond.instantiable RX7 5 ∈ Wd := mW 340 (by decide +kernel) rfl
theorem in_7 : Cond.initialized RX7 ∈ Wd := mW 12 (by decide +kernel) rfl
theorem mi_7 : Mok yX7_init cX7_init 1 none 0 := ⟨mW 12 (by decide +kernel) rfl, mW 343 (by decide +kernel) rfl, ⟨by decide, by decide, by decide +kernel⟩, by decide⟩
theorem ii_7 : Cond.instanceMethod yX7_init ∈ Wd := mW 342 (by decide +kernel) rfl
theorem pf_11_13 : parseFieldDescriptor (uD 11 13) = some (.object "MeanRoads$Sums") := by decide +kernel
theorem pf_11_14 : parseFieldDescriptor (uD 11 14) = some (.array .int) := by decide +kernel
theorem ib_10 : Cond.instantiable RX10 3 ∈ Wd := mW 361 (by decide +kernel) rfl
theorem in_10 : Cond.initialized RX10 ∈ Wd := mW 13 (by decide +kernel) rfl
theorem mi_10 : Mok yX10_init cX10_init 1 none 0 := ⟨mW 13 (by decide +kernel) rfl, mW 364 (by decide +kernel) rfl, ⟨by decide, by decide, by decide +kernel⟩, by decide⟩
theorem ii_10 : Cond.instanceMethod yX10_init ∈ Wd := mW 363 (by decide +kernel) rfl
abbrev S11 : Type := Nat × (Nat × S5) × (Nat × S2) × (Nat × S6) × (Nat × S6) × (Nat × S4) × Nat × Nat × Nat × (Nat × S8) × (Nat × S0) × (Nat × S1) × (Nat × S7) × Nat × (Nat × S10) × (Nat × S10) × (Nat × S10) × (Nat × S10) × (Nat × S2) × (Nat × S6) × (Nat × S2) × (Nat × S6)
def Wc11 (G : Gx) (a : Nat) (u : S11) : va_W := (a, .inr (11, [.ref (u.1), .int 0, .ref (u.2.1.1), .ref (u.2.2.1.1), .ref (u.2.2.2.1.1), .ref (u.2.2.2.2.1.1), .ref (u.2.2.2.2.2.1.1), .ref (u.2.2.2.2.2.2.1), .ref (u.2.2.2.2.2.2.2.1), .ref (u.2.2.2.2.2.2.2.2.1), .ref (u.2.2.2.2.2.2.2.2.2.1.1), .ref (u.2.2.2.2.2.2.2.2.2.2.1.1), .ref (u.2.2.2.2.2.2.2.2.2.2.2.1.1), .ref (u.2.2.2.2.2.2.2.2.2.2.2.2.1.1), .ref (u.2.2.2.2.2.2.2.2.2.2.2.2.2.1), .int 0])) :: ((u.2.2.2.2.2.2.1), .inl (gCy G 6, 4, .inr (.inr (.inr (.inr (va_up (va_up (va_up (va_up (fun _ => none) 0 (some (u.2.2.2.2.2.2.2.2.2.2.2.2.2.2.1.1))) 1 (some (u.2.2.2.2.2.2.2.2.2.2.2.2.2.2.2.1.1))) 2 (some (u.2.2.2.2.2.2.2.2.2.2.2.2.2.2.2.2.1.1))) 3 (some (u.2.2.2.2.2.2.2.2.2.2.2.2.2.2.2.2.2.1.1)))))))) :: ((u.2.2.2.2.2.2.2.1), .inl (gCy G 4, 2, .inr (.inr (.inr (.inr (va_up (va_up (fun _ => none) 0 (some (u.2.2.2.2.2.2.2.2.2.2.2.2.2.2.2.2.2.2.1.1))) 1 (some (u.2.2.2.2.2.2.2.2.2.2.2.2.2.2.2.2.2.2.2.2.1.1)))))))) :: ((u.2.2.2.2.2.2.2.2.1), .inl (gCy G 5, 2, .inr (.inr (.inr (.inr (va_up (va_up (fun _ => none) 0 (some (u.2.2.2.2.2.2.2.2.2.2.2.2.2.2.2.2.2.2.2.1.1))) 1 (some (u.2.2.2.2.2.2.2.2.2.2.2.2.2.2.2.2.2.2.2.2.2.1)))))))) :: ((((((((((((((((((([] ++ [((u.1), .inl (gCy G 2, 900, .inl (fun _ => 0)))]) ++ Wc5 G (u.2.1.1) (u.2.1.2)) ++ Wc2 G (u.2.2.1.1) (u.2.2.1.2)) ++ Wc6 G (u.2.2.2.1.1) (u.2.2.2.1.2)) ++ Wc6 G (u.2.2.2.2.1.1) (u.2.2.2.2.1.2)) ++ Wc4 G (u.2.2.2.2.2.1.1) (u.2.2.2.2.2.1.2)) ++ Wc8 G (u.2.2.2.2.2.2.2.2.2.1.1) (u.2.2.2.2.2.2.2.2.2.1.2)) ++ Wc0 G (u.2.2.2.2.2.2.2.2.2.2.1.1) (u.2.2.2.2.2.2.2.2.2.2.1.2)) ++ Wc1 G (u.2.2.2.2.2.2.2.2.2.2.2.1.1) (u.2.2.2.2.2.2.2.2.2.2.2.1.2)) ++ Wc7 G (u.2.2.2.2.2.2.2.2.2.2.2.2.1.1) (u.2.2.2.2.2.2.2.2.2.2.2.2.1.2)) ++ [((u.2.2.2.2.2.2.2.2.2.2.2.2.2.1), .inl (gCy G 0, 8, .inl (fun _ => 0)))]) ++ Wc10 G (u.2.2.2.2.2.2.2.2.2.2.2.2.2.2.1.1) (u.2.2.2.2.2.2.2.2.2.2.2.2.2.2.1.2)) ++ Wc10 G (u.2.2.2.2.2.2.2.2.2.2.2.2.2.2.2.1.1) (u.2.2.2.2.2.2.2.2.2.2.2.2.2.2.2.1.2)) ++ Wc10 G (u.2.2.2.2.2.2.2.2.2.2.2.2.2.2.2.2.1.1) (u.2.2.2.2.2.2.2.2.2.2.2.2.2.2.2.2.1.2)) ++ Wc10 G (u.2.2.2.2.2.2.2.2.2.2.2.2.2.2.2.2.2.1.1) (u.2.2.2.2.2.2.2.2.2.2.2.2.2.2.2.2.2.1.2)) ++ Wc2 G (u.2.2.2.2.2.2.2.2.2.2.2.2.2.2.2.2.2.2.1.1) (u.2.2.2.2.2.2.2.2.2.2.2.2.2.2.2.2.2.2.1.2)) ++ Wc6 G (u.2.2.2.2.2.2.2.2.2.2.2.2.2.2.2.2.2.2.2.1.1) (u.2.2.2.2.2.2.2.2.2.2.2.2.2.2.2.2.2.2.2.1.2)) ++ Wc2 G (u.2.2.2.2.2.2.2.2.2.2.2.2.2.2.2.2.2.2.2.2.1.1) (u.2.2.2.2.2.2.2.2.2.2.2.2.2.2.2.2.2.2.2.2.1.2)) ++ Wc6 G (u.2.2.2.2.2.2.2.2.2.2.2.2.2.2.2.2.2.2.2.2.2.1) (u.2.2.2.2.2.2.2.2.2.2.2.2.2.2.2.2.2.2.2.2.2.2))
set_option maxHeartbeats 40000000 in
set_option maxRecDepth 20000 in
theorem c_ini_11 (G : Gx) : CtA yX11_init cX11_init 2 4 97 13638 G 11 [.null, .int 0, .null, .null, .null, .null, .null, .null, .null, .null, .null, .null, .null, .null, .null, .int 0] (Wc11 G) := by
  refine cta_go (own := RX11) (by decide) rfl rfl (by decide) (fun a sz => ?_)
  refine a_aload_n dX11_init_0 rfl rfl ?_
  refine a_obj dX11_init_1 ml_X11_1 (by decide) (by decide) ?_
  refine a_aload_n dX11_init_4 rfl rfl ?_
  refine a_sipush (v := 900) dX11_init_5 (by decide) ?_
  refine a_newaT (R := []) [(a, .inr (11, [.null, .int 0, .null, .null, .null, .null, .null, .null, .null, .null, .null, .null, .null, .null, .null, .int 0]))] (t := 2) (N := 900) (f0 := .inl (fun _ => 0)) dX11_init_8 ac_byte rfl (fun _ _ => rfl) rfl (fun _ => rfl) (by decide) (by decide) (by decide) (Nat.le_of_ble_eq_true rfl) (Nat.le_of_ble_eq_true rfl) rfl (fun q1 R2 eR2 => ?_)
  refine a_putF dX11_init_10 fl_X11_9 rfl rfl pf_11_0 rfl rfl (Nat.le_of_ble_eq_true rfl) (fs1 := [.ref q1, .int 0, .null, .null, .null, .null, .null, .null, .null, .null, .null, .null, .null, .null, .null, .int 0]) rfl ?_
  refine a_aload_n dX11_init_13 rfl rfl ?_
  refine a_iconst (v := 0) dX11_init_14 (by decide) ?_
  refine a_put dX11_init_15 fl_X11_13 rfl pf_11_1 rfl rfl (Nat.le_of_ble_eq_true rfl) (fs1 := [.ref q1, .int 0, .null, .null, .null, .null, .null, .null, .null, .null, .null, .null, .null, .null, .null, .int 0]) rfl ?_
  refine a_aload_n dX11_init_18 rfl rfl ?_
  refine a_newcT (R := R2) [(a, .inr (11, [.ref q1, .int 0, .null, .null, .null, .null, .null, .null, .null, .null, .null, .null, .null, .null, .null, .int 0]))] (ci := 5) (fs := [.null, .null, .null, .null, .int 0, .int 0, .int 0, .int 0, .null, .null, .null, .null, .int 0, .int 0, .int 0]) (r := (RX5, TX5, 15)) dX11_init_19 dX11_init_22 dX11_init_23 rfl cl_X11_17 ib_5 in_5 (by intro j hj; have hj : j < 15 := hj; match j, hj with | 0, _ => rfl | 1, _ => rfl | 2, _ => rfl | 3, _ => rfl | 4, _ => rfl | 5, _ => rfl | 6, _ => rfl | 7, _ => rfl | 8, _ => rfl | 9, _ => rfl | 10, _ => rfl | 11, _ => rfl | 12, _ => rfl | 13, _ => rfl | 14, _ => rfl | j + 15, hj => exact absurd hj (by omega)) mi_5 rfl ii_5 (Or.inr (by decide +kernel)) (c_ini_5 G) (Nat.le_of_ble_eq_true rfl) (Nat.le_of_ble_eq_true rfl) (Nat.le_of_ble_eq_true rfl) (Nat.le_of_ble_eq_true rfl) rfl (fun q3 u4 R5 eR5 => ?_)
  refine a_putF dX11_init_26 fl_X11_20 rfl rfl pf_11_2 rfl rfl (Nat.le_of_ble_eq_true rfl) (fs1 := [.ref q1, .int 0, .ref q3, .null, .null, .null, .null, .null, .null, .null, .null, .null, .null, .null, .null, .int 0]) rfl ?_
  refine a_aload_n dX11_init_29 rfl rfl ?_
  refine a_newcT (R := R5) [(a, .inr (11, [.ref q1, .int 0, .ref q3, .null, .null, .null, .null, .null, .null, .null, .null, .null, .null, .null, .null, .int 0]))] (ci := 2) (fs := [.int 0, .int 0, .int 0, .int 0, .null, .null, .null, .null, .null]) (r := (RX2, TX2, 9)) dX11_init_30 dX11_init_33 dX11_init_34 rfl cl_X11_24 ib_2 in_2 (by intro j hj; have hj : j < 9 := hj; match j, hj with | 0, _ => rfl | 1, _ => rfl | 2, _ => rfl | 3, _ => rfl | 4, _ => rfl | 5, _ => rfl | 6, _ => rfl | 7, _ => rfl | 8, _ => rfl | j + 9, hj => exact absurd hj (by omega)) mi_2 rfl ii_2 (Or.inr (by decide +kernel)) (c_ini_2 G) (Nat.le_of_ble_eq_true rfl) (Nat.le_of_ble_eq_true rfl) (Nat.le_of_ble_eq_true rfl) (Nat.le_of_ble_eq_true rfl) rfl (fun q6 u7 R8 eR8 => ?_)
  refine a_putF dX11_init_37 fl_X11_27 rfl rfl pf_11_3 rfl rfl (Nat.le_of_ble_eq_true rfl) (fs1 := [.ref q1, .int 0, .ref q3, .ref q6, .null, .null, .null, .null, .null, .null, .null, .null, .null, .null, .null, .int 0]) rfl ?_
  refine a_aload_n dX11_init_40 rfl rfl ?_
  refine a_newcT (R := R8) [(a, .inr (11, [.ref q1, .int 0, .ref q3, .ref q6, .null, .null, .null, .null, .null, .null, .null, .null, .null, .null, .null, .int 0]))] (ci := 6) (fs := [.int 0, .long 0, .int 0, .int 0, .null]) (r := (RX6, TX6, 5)) dX11_init_41 dX11_init_44 dX11_init_45 rfl cl_X11_31 ib_6 in_6 (by intro j hj; have hj : j < 5 := hj; match j, hj with | 0, _ => rfl | 1, _ => rfl | 2, _ => rfl | 3, _ => rfl | 4, _ => rfl | j + 5, hj => exact absurd hj (by omega)) mi_6 rfl ii_6 (Or.inl ml_X11_33) (c_ini_6 G) (Nat.le_of_ble_eq_true rfl) (Nat.le_of_ble_eq_true rfl) (Nat.le_of_ble_eq_true rfl) (Nat.le_of_ble_eq_true rfl) rfl (fun q9 u10 R11 eR11 => ?_)
  refine a_putF dX11_init_48 fl_X11_34 rfl rfl pf_11_4 rfl rfl (Nat.le_of_ble_eq_true rfl) (fs1 := [.ref q1, .int 0, .ref q3, .ref q6, .ref q9, .null, .null, .null, .null, .null, .null, .null, .null, .null, .null, .int 0]) rfl ?_
  refine a_aload_n dX11_init_51 rfl rfl ?_
  refine a_newcT (R := R11) [(a, .inr (11, [.ref q1, .int 0, .ref q3, .ref q6, .ref q9, .null, .null, .null, .null, .null, .null, .null, .null, .null, .null, .int 0]))] (ci := 6) (fs := [.int 0, .long 0, .int 0, .int 0, .null]) (r := (RX6, TX6, 5)) dX11_init_52 dX11_init_55 dX11_init_56 rfl cl_X11_31 ib_6 in_6 (by intro j hj; have hj : j < 5 := hj; match j, hj with | 0, _ => rfl | 1, _ => rfl | 2, _ => rfl | 3, _ => rfl | 4, _ => rfl | j + 5, hj => exact absurd hj (by omega)) mi_6 rfl ii_6 (Or.inl ml_X11_33) (c_ini_6 G) (Nat.le_of_ble_eq_true rfl) (Nat.le_of_ble_eq_true rfl) (Nat.le_of_ble_eq_true rfl) (Nat.le_of_ble_eq_true rfl) rfl (fun q12 u13 R14 eR14 => ?_)
  refine a_putF dX11_init_59 fl_X11_38 rfl rfl pf_11_5 rfl rfl (Nat.le_of_ble_eq_true rfl) (fs1 := [.ref q1, .int 0, .ref q3, .ref q6, .ref q9, .ref q12, .null, .null, .null, .null, .null, .null, .null, .null, .null, .int 0]) rfl ?_
  refine a_aload_n dX11_init_62 rfl rfl ?_
  refine a_newcT (R := R14) [(a, .inr (11, [.ref q1, .int 0, .ref q3, .ref q6, .ref q9, .ref q12, .null, .null, .null, .null, .null, .null, .null, .null, .null, .int 0]))] (ci := 4) (fs := [.null, .int 0, .int 0]) (r := (RX4, TX4, 3)) dX11_init_63 dX11_init_66 dX11_init_67 rfl cl_X11_41 ib_4 in_4 (by intro j hj; have hj : j < 3 := hj; match j, hj with | 0, _ => rfl | 1, _ => rfl | 2, _ => rfl | j + 3, hj => exact absurd hj (by omega)) mi_4 rfl ii_4 (Or.inl ml_X11_43) (c_ini_4 G) (Nat.le_of_ble_eq_true rfl) (Nat.le_of_ble_eq_true rfl) (Nat.le_of_ble_eq_true rfl) (Nat.le_of_ble_eq_true rfl) rfl (fun q15 u16 R17 eR17 => ?_)
  refine a_putF dX11_init_70 fl_X11_44 rfl rfl pf_11_6 rfl rfl (Nat.le_of_ble_eq_true rfl) (fs1 := [.ref q1, .int 0, .ref q3, .ref q6, .ref q9, .ref q12, .ref q15, .null, .null, .null, .null, .null, .null, .null, .null, .int 0]) rfl ?_
  refine a_aload_n dX11_init_73 rfl rfl ?_
  refine a_iconst (v := 4) dX11_init_74 (by decide) ?_
  refine a_newqX (R := R17) [(a, .inr (11, [.ref q1, .int 0, .ref q3, .ref q6, .ref q9, .ref q12, .ref q15, .null, .null, .null, .null, .null, .null, .null, .null, .int 0]))] (t := 6) (N := 4) dX11_init_75 cl_X11_48 (fun _ K => K.2.2.2.2) rfl (by decide) (by decide) (by decide) (Nat.le_of_ble_eq_true rfl) (Nat.le_of_ble_eq_true rfl) rfl (fun q18 => ?_)
  refine a_putF dX11_init_78 fl_X11_50 rfl rfl pf_11_7 rfl rfl (Nat.le_of_ble_eq_true rfl) (fs1 := [.ref q1, .int 0, .ref q3, .ref q6, .ref q9, .ref q12, .ref q15, .ref q18, .null, .null, .null, .null, .null, .null, .null, .int 0]) rfl ?_
  refine a_aload_n dX11_init_81 rfl rfl ?_
  refine a_iconst (v := 2) dX11_init_82 (by decide) ?_
  refine a_newqX (R := R17) [(a, .inr (11, [.ref q1, .int 0, .ref q3, .ref q6, .ref q9, .ref q12, .ref q15, .ref q18, .null, .null, .null, .null, .null, .null, .null, .int 0])), (q18, .inl (gCy G 6, 4, .inr (.inr (.inr (.inr (fun _ => none))))))] (t := 4) (N := 2) dX11_init_83 cl_X11_24 (fun _ K => K.2.2.1) rfl (by decide) (by decide) (by decide) (Nat.le_of_ble_eq_true rfl) (Nat.le_of_ble_eq_true rfl) rfl (fun q19 => ?_)
  refine a_putF dX11_init_86 fl_X11_54 rfl rfl pf_11_8 rfl rfl (Nat.le_of_ble_eq_true rfl) (fs1 := [.ref q1, .int 0, .ref q3, .ref q6, .ref q9, .ref q12, .ref q15, .ref q18, .ref q19, .null, .null, .null, .null, .null, .null, .int 0]) rfl ?_
  refine a_aload_n dX11_init_89 rfl rfl ?_
  refine a_iconst (v := 2) dX11_init_90 (by decide) ?_
  refine a_newqX (R := R17) [(a, .inr (11, [.ref q1, .int 0, .ref q3, .ref q6, .ref q9, .ref q12, .ref q15, .ref q18, .ref q19, .null, .null, .null, .null, .null, .null, .int 0])), (q18, .inl (gCy G 6, 4, .inr (.inr (.inr (.inr (fun _ => none)))))), (q19, .inl (gCy G 4, 2, .inr (.inr (.inr (.inr (fun _ => none))))))] (t := 5) (N := 2) dX11_init_91 cl_X11_31 (fun _ K => K.2.2.2.1) rfl (by decide) (by decide) (by decide) (Nat.le_of_ble_eq_true rfl) (Nat.le_of_ble_eq_true rfl) rfl (fun q20 => ?_)
  refine a_putF dX11_init_94 fl_X11_58 rfl rfl pf_11_9 rfl rfl (Nat.le_of_ble_eq_true rfl) (fs1 := [.ref q1, .int 0, .ref q3, .ref q6, .ref q9, .ref q12, .ref q15, .ref q18, .ref q19, .ref q20, .null, .null, .null, .null, .null, .int 0]) rfl ?_
  refine a_aload_n dX11_init_97 rfl rfl ?_
  refine a_newcT (R := R17) [(a, .inr (11, [.ref q1, .int 0, .ref q3, .ref q6, .ref q9, .ref q12, .ref q15, .ref q18, .ref q19, .ref q20, .null, .null, .null, .null, .null, .int 0])), (q18, .inl (gCy G 6, 4, .inr (.inr (.inr (.inr (fun _ => none)))))), (q19, .inl (gCy G 4, 2, .inr (.inr (.inr (.inr (fun _ => none)))))), (q20, .inl (gCy G 5, 2, .inr (.inr (.inr (.inr (fun _ => none))))))] (ci := 8) (fs := [.null, .int 0, .int 0, .null, .null, .null, .null, .null, .null, .int 0]) (r := (RX8, TX8, 10)) dX11_init_98 dX11_init_101 dX11_init_102 rfl cl_X11_62 ib_8 in_8 (by intro j hj; have hj : j < 10 := hj; match j, hj with | 0, _ => rfl | 1, _ => rfl | 2, _ => rfl | 3, _ => rfl | 4, _ => rfl | 5, _ => rfl | 6, _ => rfl | 7, _ => rfl | 8, _ => rfl | 9, _ => rfl | j + 10, hj => exact absurd hj (by omega)) mi_8 rfl ii_8 (Or.inr (by decide +kernel)) (c_ini_8 G) (Nat.le_of_ble_eq_true rfl) (Nat.le_of_ble_eq_true rfl) (Nat.le_of_ble_eq_true rfl) (Nat.le_of_ble_eq_true rfl) rfl (fun q21 u22 R23 eR23 => ?_)
  refine a_putF dX11_init_105 fl_X11_65 rfl rfl pf_11_10 rfl rfl (Nat.le_of_ble_eq_true rfl) (fs1 := [.ref q1, .int 0, .ref q3, .ref q6, .ref q9, .ref q12, .ref q15, .ref q18, .ref q19, .ref q20, .ref q21, .null, .null, .null, .null, .int 0]) rfl ?_
  refine a_aload_n dX11_init_108 rfl rfl ?_
  refine a_newcT (R := R23) [(a, .inr (11, [.ref q1, .int 0, .ref q3, .ref q6, .ref q9, .ref q12, .ref q15, .ref q18, .ref q19, .ref q20, .ref q21, .null, .null, .null, .null, .int 0])), (q18, .inl (gCy G 6, 4, .inr (.inr (.inr (.inr (fun _ => none)))))), (q19, .inl (gCy G 4, 2, .inr (.inr (.inr (.inr (fun _ => none)))))), (q20, .inl (gCy G 5, 2, .inr (.inr (.inr (.inr (fun _ => none))))))] (ci := 0) (fs := [.int 0, .null, .null, .null, .null, .null, .null]) (r := (RX0, TX0, 7)) dX11_init_109 dX11_init_112 dX11_init_113 rfl cl_X11_69 ib_0 in_0 (by intro j hj; have hj : j < 7 := hj; match j, hj with | 0, _ => rfl | 1, _ => rfl | 2, _ => rfl | 3, _ => rfl | 4, _ => rfl | 5, _ => rfl | 6, _ => rfl | j + 7, hj => exact absurd hj (by omega)) mi_0 rfl ii_0 (Or.inr (by decide +kernel)) (c_ini_0 G) (Nat.le_of_ble_eq_true rfl) (Nat.le_of_ble_eq_true rfl) (Nat.le_of_ble_eq_true rfl) (Nat.le_of_ble_eq_true rfl) rfl (fun q24 u25 R26 eR26 => ?_)
  refine a_putF dX11_init_116 fl_X11_72 rfl rfl pf_11_11 rfl rfl (Nat.le_of_ble_eq_true rfl) (fs1 := [.ref q1, .int 0, .ref q3, .ref q6, .ref q9, .ref q12, .ref q15, .ref q18, .ref q19, .ref q20, .ref q21, .ref q24, .null, .null, .null, .int 0]) rfl ?_
  refine a_aload_n dX11_init_119 rfl rfl ?_
  refine a_newcT (R := R26) [(a, .inr (11, [.ref q1, .int 0, .ref q3, .ref q6, .ref q9, .ref q12, .ref q15, .ref q18, .ref q19, .ref q20, .ref q21, .ref q24, .null, .null, .null, .int 0])), (q18, .inl (gCy G 6, 4, .inr (.inr (.inr (.inr (fun _ => none)))))), (q19, .inl (gCy G 4, 2, .inr (.inr (.inr (.inr (fun _ => none)))))), (q20, .inl (gCy G 5, 2, .inr (.inr (.inr (.inr (fun _ => none))))))] (ci := 1) (fs := [.null, .null, .null, .null, .int 0, .int 0]) (r := (RX1, TX1, 6)) dX11_init_120 dX11_init_123 dX11_init_124 rfl cl_X11_76 ib_1 in_1 (by intro j hj; have hj : j < 6 := hj; match j, hj with | 0, _ => rfl | 1, _ => rfl | 2, _ => rfl | 3, _ => rfl | 4, _ => rfl | 5, _ => rfl | j + 6, hj => exact absurd hj (by omega)) mi_1 rfl ii_1 (Or.inr (by decide +kernel)) (c_ini_1 G) (Nat.le_of_ble_eq_true rfl) (Nat.le_of_ble_eq_true rfl) (Nat.le_of_ble_eq_true rfl) (Nat.le_of_ble_eq_true rfl) rfl (fun q27 u28 R29 eR29 => ?_)
  refine a_putF dX11_init_127 fl_X11_79 rfl rfl pf_11_12 rfl rfl (Nat.le_of_ble_eq_true rfl) (fs1 := [.ref q1, .int 0, .ref q3, .ref q6, .ref q9, .ref q12, .ref q15, .ref q18, .ref q19, .ref q20, .ref q21, .ref q24, .ref q27, .null, .null, .int 0]) rfl ?_
  refine a_aload_n dX11_init_130 rfl rfl ?_
  refine a_newcT (R := R29) [(a, .inr (11, [.ref q1, .int 0, .ref q3, .ref q6, .ref q9, .ref q12, .ref q15, .ref q18, .ref q19, .ref q20, .ref q21, .ref q24, .ref q27, .null, .null, .int 0])), (q18, .inl (gCy G 6, 4, .inr (.inr (.inr (.inr (fun _ => none)))))), (q19, .inl (gCy G 4, 2, .inr (.inr (.inr (.inr (fun _ => none)))))), (q20, .inl (gCy G 5, 2, .inr (.inr (.inr (.inr (fun _ => none))))))] (ci := 7) (fs := [.null, .null, .null, .int 0, .int 0]) (r := (RX7, TX7, 5)) dX11_init_131 dX11_init_134 dX11_init_135 rfl cl_X11_83 ib_7 in_7 (by intro j hj; have hj : j < 5 := hj; match j, hj with | 0, _ => rfl | 1, _ => rfl | 2, _ => rfl | 3, _ => rfl | 4, _ => rfl | j + 5, hj => exact absurd hj (by omega)) mi_7 rfl ii_7 (Or.inr (by decide +kernel)) (c_ini_7 G) (Nat.le_of_ble_eq_true rfl) (Nat.le_of_ble_eq_true rfl) (Nat.le_of_ble_eq_true rfl) (Nat.le_of_ble_eq_true rfl) rfl (fun q30 u31 R32 eR32 => ?_)
  refine a_putF dX11_init_138 fl_X11_86 rfl rfl pf_11_13 rfl rfl (Nat.le_of_ble_eq_true rfl) (fs1 := [.ref q1, .int 0, .ref q3, .ref q6, .ref q9, .ref q12, .ref q15, .ref q18, .ref q19, .ref q20, .ref q21, .ref q24, .ref q27, .ref q30, .null, .int 0]) rfl ?_
  refine a_aload_n dX11_init_141 rfl rfl ?_
  refine a_bipush (v := 8) dX11_init_142 (by decide) ?_
  refine a_newaT (R := R32) [(a, .inr (11, [.ref q1, .int 0, .ref q3, .ref q6, .ref q9, .ref q12, .ref q15, .ref q18, .ref q19, .ref q20, .ref q21, .ref q24, .ref q27, .ref q30, .null, .int 0])), (q18, .inl (gCy G 6, 4, .inr (.inr (.inr (.inr (fun _ => none)))))), (q19, .inl (gCy G 4, 2, .inr (.inr (.inr (.inr (fun _ => none)))))), (q20, .inl (gCy G 5, 2, .inr (.inr (.inr (.inr (fun _ => none))))))] (t := 0) (N := 8) (f0 := .inl (fun _ => 0)) dX11_init_144 ac_int rfl (fun _ _ => rfl) rfl (fun _ => rfl) (by decide) (by decide) (by decide) (Nat.le_of_ble_eq_true rfl) (Nat.le_of_ble_eq_true rfl) rfl (fun q33 R34 eR34 => ?_)
  refine a_putF dX11_init_146 fl_X11_90 rfl rfl pf_11_14 rfl rfl (Nat.le_of_ble_eq_true rfl) (fs1 := [.ref q1, .int 0, .ref q3, .ref q6, .ref q9, .ref q12, .ref q15, .ref q18, .ref q19, .ref q20, .ref q21, .ref q24, .ref q27, .ref q30, .ref q33, .int 0]) rfl ?_
  refine a_aload_n dX11_init_149 rfl rfl ?_
  refine a_iconst (v := 0) dX11_init_150 (by decide) ?_
  refine a_put dX11_init_151 fl_X11_94 rfl pf_11_15 rfl rfl (Nat.le_of_ble_eq_true rfl) (fs1 := [.ref q1, .int 0, .ref q3, .ref q6, .ref q9, .ref q12, .ref q15, .ref q18, .ref q19, .ref q20, .ref q21, .ref q24, .ref q27, .ref q30, .ref q33, .int 0]) rfl ?_
  refine a_iconst (v := 0) dX11_init_154 (by decide) ?_
  refine a_istore_n dX11_init_155 rfl (by decide) (lv1 := [(0, .ref a), (1, .int 0)]) rfl ?_
  refine a_iload_n dX11_init_156 rfl rfl ?_
  refine a_aload_n dX11_init_157 rfl rfl ?_
  refine a_get dX11_init_158 fl_X11_50 (v := .ref q18) rfl ?_
  refine a_alen (R := []) (t := 6) (v := 4) 1 dX11_init_161 rfl rfl (by decide) ?_
  refine a_icmp_ge 184 dX11_init_162 rfl (fun hc => absurd hc (by decide)) (fun _ => ?_)
  refine a_aload_n dX11_init_165 rfl rfl ?_
  refine a_get dX11_init_166 fl_X11_50 (v := .ref q18) rfl ?_
  refine a_iload_n dX11_init_169 rfl rfl ?_
  refine a_newcT (R := R34) [(a, .inr (11, [.ref q1, .int 0, .ref q3, .ref q6, .ref q9, .ref q12, .ref q15, .ref q18, .ref q19, .ref q20, .ref q21, .ref q24, .ref q27, .ref q30, .ref q33, .int 0])), (q18, .inl (gCy G 6, 4, .inr (.inr (.inr (.inr (fun _ => none)))))), (q19, .inl (gCy G 4, 2, .inr (.inr (.inr (.inr (fun _ => none)))))), (q20, .inl (gCy G 5, 2, .inr (.inr (.inr (.inr (fun _ => none))))))] (ci := 10) (fs := [.int 0, .int 0, .null]) (r := (RX10, TX10, 3)) dX11_init_170 dX11_init_173 dX11_init_174 rfl cl_X11_48 ib_10 in_10 (by intro j hj; have hj : j < 3 := hj; match j, hj with | 0, _ => rfl | 1, _ => rfl | 2, _ => rfl | j + 3, hj => exact absurd hj (by omega)) mi_10 rfl ii_10 (Or.inr (by decide +kernel)) (c_ini_10 G) (Nat.le_of_ble_eq_true rfl) (Nat.le_of_ble_eq_true rfl) (Nat.le_of_ble_eq_true rfl) (Nat.le_of_ble_eq_true rfl) rfl (fun q35 u36 R37 eR37 => ?_)
  refine a_aast (ci := 10) (r := (RX10, TX10, 3)) (q0 := 1) dX11_init_177 rfl rfl rfl (List.mem_cons_of_mem _ (List.mem_cons_of_mem _ (List.mem_cons_of_mem _ (List.mem_cons_of_mem _ (by rw [eR37]; refine List.mem_append_right R34 ?_; unfold Wc10; exact List.mem_cons_self))))) (by unfold vp_in; decide) (ws1 := (a, .inr (11, [.ref q1, .int 0, .ref q3, .ref q6, .ref q9, .ref q12, .ref q15, .ref q18, .ref q19, .ref q20, .ref q21, .ref q24, .ref q27, .ref q30, .ref q33, .int 0])) :: (q18, .inl (gCy G 6, 4, .inr (.inr (.inr (.inr (va_up (fun _ => none) 0 (some q35))))))) :: (q19, .inl (gCy G 4, 2, .inr (.inr (.inr (.inr (fun _ => none)))))) :: (q20, .inl (gCy G 5, 2, .inr (.inr (.inr (.inr (fun _ => none)))))) :: R37) rfl ?_
  refine a_iinc dX11_init_178 rfl (v := 1) (by decide) (by decide) (lv1 := [(0, .ref a), (1, .int 1)]) rfl ?_
  refine a_goto 156 dX11_init_181 rfl ?_
  refine a_iload_n dX11_init_156 rfl rfl ?_
  refine a_aload_n dX11_init_157 rfl rfl ?_
  refine a_get dX11_init_158 fl_X11_50 (v := .ref q18) rfl ?_
  refine a_alen (R := []) (t := 6) (v := 4) 1 dX11_init_161 rfl rfl (by decide) ?_
  refine a_icmp_ge 184 dX11_init_162 rfl (fun hc => absurd hc (by decide)) (fun _ => ?_)
  refine a_aload_n dX11_init_165 rfl rfl ?_
  refine a_get dX11_init_166 fl_X11_50 (v := .ref q18) rfl ?_
  refine a_iload_n dX11_init_169 rfl rfl ?_
  refine a_newcT (R := R37) [(a, .inr (11, [.ref q1, .int 0, .ref q3, .ref q6, .ref q9, .ref q12, .ref q15, .ref q18, .ref q19, .ref q20, .ref q21, .ref q24, .ref q27, .ref q30, .ref q33, .int 0])), (q18, .inl (gCy G 6, 4, .inr (.inr (.inr (.inr (va_up (fun _ => none) 0 (some q35))))))), (q19, .inl (gCy G 4, 2, .inr (.inr (.inr (.inr (fun _ => none)))))), (q20, .inl (gCy G 5, 2, .inr (.inr (.inr (.inr (fun _ => none))))))] (ci := 10) (fs := [.int 0, .int 0, .null]) (r := (RX10, TX10, 3)) dX11_init_170 dX11_init_173 dX11_init_174 rfl cl_X11_48 ib_10 in_10 (by intro j hj; have hj : j < 3 := hj; match j, hj with | 0, _ => rfl | 1, _ => rfl | 2, _ => rfl | j + 3, hj => exact absurd hj (by omega)) mi_10 rfl ii_10 (Or.inr (by decide +kernel)) (c_ini_10 G) (Nat.le_of_ble_eq_true rfl) (Nat.le_of_ble_eq_true rfl) (Nat.le_of_ble_eq_true rfl) (Nat.le_of_ble_eq_true rfl) rfl (fun q38 u39 R40 eR40 => ?_)
  refine a_aast (ci := 10) (r := (RX10, TX10, 3)) (q0 := 1) dX11_init_177 rfl rfl rfl (List.mem_cons_of_mem _ (List.mem_cons_of_mem _ (List.mem_cons_of_mem _ (List.mem_cons_of_mem _ (by rw [eR40]; refine List.mem_append_right R37 ?_; unfold Wc10; exact List.mem_cons_self))))) (by unfold vp_in; decide) (ws1 := (a, .inr (11, [.ref q1, .int 0, .ref q3, .ref q6, .ref q9, .ref q12, .ref q15, .ref q18, .ref q19, .ref q20, .ref q21, .ref q24, .ref q27, .ref q30, .ref q33, .int 0])) :: (q18, .inl (gCy G 6, 4, .inr (.inr (.inr (.inr (va_up (va_up (fun _ => none) 0 (some q35)) 1 (some q38))))))) :: (q19, .inl (gCy G 4, 2, .inr (.inr (.inr (.inr (fun _ => none)))))) :: (q20, .inl (gCy G 5, 2, .inr (.inr (.inr (.inr (fun _ => none)))))) :: R40) rfl ?_
  refine a_iinc dX11_init_178 rfl (v := 2) (by decide) (by decide) (lv1 := [(0, .ref a), (1, .int 2)]) rfl ?_
  refine a_goto 156 dX11_init_181 rfl ?_
  refine a_iload_n dX11_init_156 rfl rfl ?_
  refine a_aload_n dX11_init_157 rfl rfl ?_
  refine a_get dX11_init_158 fl_X11_50 (v := .ref q18) rfl ?_
  refine a_alen (R := []) (t := 6) (v := 4) 1 dX11_init_161 rfl rfl (by decide) ?_
  refine a_icmp_ge 184 dX11_init_162 rfl (fun hc => absurd hc (by decide)) (fun _ => ?_)
  refine a_aload_n dX11_init_165 rfl rfl ?_
  refine a_get dX11_init_166 fl_X11_50 (v := .ref q18) rfl ?_
  refine a_iload_n dX11_init_169 rfl rfl ?_
  refine a_newcT (R := R40) [(a, .inr (11, [.ref q1, .int 0, .ref q3, .ref q6, .ref q9, .ref q12, .ref q15, .ref q18, .ref q19, .ref q20, .ref q21, .ref q24, .ref q27, .ref q30, .ref q33, .int 0])), (q18, .inl (gCy G 6, 4, .inr (.inr (.inr (.inr (va_up (va_up (fun _ => none) 0 (some q35)) 1 (some q38))))))), (q19, .inl (gCy G 4, 2, .inr (.inr (.inr (.inr (fun _ => none)))))), (q20, .inl (gCy G 5, 2, .inr (.inr (.inr (.inr (fun _ => none))))))] (ci := 10) (fs := [.int 0, .int 0, .null]) (r := (RX10, TX10, 3)) dX11_init_170 dX11_init_173 dX11_init_174 rfl cl_X11_48 ib_10 in_10 (by intro j hj; have hj : j < 3 := hj; match j, hj with | 0, _ => rfl | 1, _ => rfl | 2, _ => rfl | j + 3, hj => exact absurd hj (by omega)) mi_10 rfl ii_10 (Or.inr (by decide +kernel)) (c_ini_10 G) (Nat.le_of_ble_eq_true rfl) (Nat.le_of_ble_eq_true rfl) (Nat.le_of_ble_eq_true rfl) (Nat.le_of_ble_eq_true rfl) rfl (fun q41 u42 R43 eR43 => ?_)
  refine a_aast (ci := 10) (r := (RX10, TX10, 3)) (q0 := 1) dX11_init_177 rfl rfl rfl (List.mem_cons_of_mem _ (List.mem_cons_of_mem _ (List.mem_cons_of_mem _ (List.mem_cons_of_mem _ (by rw [eR43]; refine List.mem_append_right R40 ?_; unfold Wc10; exact List.mem_cons_self))))) (by unfold vp_in; decide) (ws1 := (a, .inr (11, [.ref q1, .int 0, .ref q3, .ref q6, .ref q9, .ref q12, .ref q15, .ref q18, .ref q19, .ref q20, .ref q21, .ref q24, .ref q27, .ref q30, .ref q33, .int 0])) :: (q18, .inl (gCy G 6, 4, .inr (.inr (.inr (.inr (va_up (va_up (va_up (fun _ => none) 0 (some q35)) 1 (some q38)) 2 (some q41))))))) :: (q19, .inl (gCy G 4, 2, .inr (.inr (.inr (.inr (fun _ => none)))))) :: (q20, .inl (gCy G 5, 2, .inr (.inr (.inr (.inr (fun _ => none)))))) :: R43) rfl ?_
  refine a_iinc dX11_init_178 rfl (v := 3) (by decide) (by decide) (lv1 := [(0, .ref a), (1, .int 3)]) rfl ?_
  refine a_goto 156 dX11_init_181 rfl ?_
  refine a_iload_n dX11_init_156 rfl rfl ?_
  refine a_aload_n dX11_init_157 rfl rfl ?_
  refine a_get dX11_init_158 fl_X11_50 (v := .ref q18) rfl ?_
  refine a_alen (R := []) (t := 6) (v := 4) 1 dX11_init_161 rfl rfl (by decide) ?_
  refine a_icmp_ge 184 dX11_init_162 rfl (fun hc => absurd hc (by decide)) (fun _ => ?_)
  refine a_aload_n dX11_init_165 rfl rfl ?_
  refine a_get dX11_init_166 fl_X11_50 (v := .ref q18) rfl ?_
  refine a_iload_n dX11_init_169 rfl rfl ?_
  refine a_newcT (R := R43) [(a, .inr (11, [.ref q1, .int 0, .ref q3, .ref q6, .ref q9, .ref q12, .ref q15, .ref q18, .ref q19, .ref q20, .ref q21, .ref q24, .ref q27, .ref q30, .ref q33, .int 0])), (q18, .inl (gCy G 6, 4, .inr (.inr (.inr (.inr (va_up (va_up (va_up (fun _ => none) 0 (some q35)) 1 (some q38)) 2 (some q41))))))), (q19, .inl (gCy G 4, 2, .inr (.inr (.inr (.inr (fun _ => none)))))), (q20, .inl (gCy G 5, 2, .inr (.inr (.inr (.inr (fun _ => none))))))] (ci := 10) (fs := [.int 0, .int 0, .null]) (r := (RX10, TX10, 3)) dX11_init_170 dX11_init_173 dX11_init_174 rfl cl_X11_48 ib_10 in_10 (by intro j hj; have hj : j < 3 := hj; match j, hj with | 0, _ => rfl | 1, _ => rfl | 2, _ => rfl | j + 3, hj => exact absurd hj (by omega)) mi_10 rfl ii_10 (Or.inr (by decide +kernel)) (c_ini_10 G) (Nat.le_of_ble_eq_true rfl) (Nat.le_of_ble_eq_true rfl) (Nat.le_of_ble_eq_true rfl) (Nat.le_of_ble_eq_true rfl) rfl (fun q44 u45 R46 eR46 => ?_)
  refine a_aast (ci := 10) (r := (RX10, TX10, 3)) (q0 := 1) dX11_init_177 rfl rfl rfl (List.mem_cons_of_mem _ (List.mem_cons_of_mem _ (List.mem_cons_of_mem _ (List.mem_cons_of_mem _ (by rw [eR46]; refine List.mem_append_right R43 ?_; unfold Wc10; exact List.mem_cons_self))))) (by unfold vp_in; decide) (ws1 := (a, .inr (11, [.ref q1, .int 0, .ref q3, .ref q6, .ref q9, .ref q12, .ref q15, .ref q18, .ref q19, .ref q20, .ref q21, .ref q24, .ref q27, .ref q30, .ref q33, .int 0])) :: (q18, .inl (gCy G 6, 4, .inr (.inr (.inr (.inr (va_up (va_up (va_up (va_up (fun _ => none) 0 (some q35)) 1 (some q38)) 2 (some q41)) 3 (some q44))))))) :: (q19, .inl (gCy G 4, 2, .inr (.inr (.inr (.inr (fun _ => none)))))) :: (q20, .inl (gCy G 5, 2, .inr (.inr (.inr (.inr (fun _ => none)))))) :: R46) rfl ?_
  refine a_iinc dX11_init_178 rfl (v := 4) (by decide) (by decide) (lv1 := [(0, .ref a), (1, .int 4)]) rfl ?_
  refine a_goto 156 dX11_init_181 rfl ?_
  refine a_iload_n dX11_init_156 rfl rfl ?_
  refine a_aload_n dX11_init_157 rfl rfl ?_
  refine a_get dX11_init_158 fl_X11_50 (v := .ref q18) rfl ?_
  refine a_alen (R := []) (t := 6) (v := 4) 1 dX11_init_161 rfl rfl (by decide) ?_
  refine a_icmp_ge 184 dX11_init_162 rfl (fun _ => ?_) (fun hc => absurd (by decide) hc)
  refine a_iconst (v := 0) dX11_init_184 (by decide) ?_
  refine a_istore_n dX11_init_185 rfl (by decide) (lv1 := [(0, .ref a), (1, .int 0)]) rfl ?_
  refine a_iload_n dX11_init_186 rfl rfl ?_
  refine a_aload_n dX11_init_187 rfl rfl ?_
  refine a_get dX11_init_188 fl_X11_54 (v := .ref q19) rfl ?_
  refine a_alen (R := []) (t := 4) (v := 2) 2 dX11_init_191 rfl rfl (by decide) ?_
  refine a_icmp_ge 236 dX11_init_192 rfl (fun hc => absurd hc (by decide)) (fun _ => ?_)
  refine a_iload_n dX11_init_195 rfl rfl ?_
  refine a_aload_n dX11_init_196 rfl rfl ?_
  refine a_get dX11_init_197 fl_X11_58 (v := .ref q20) rfl ?_
  refine a_alen (R := []) (t := 5) (v := 2) 3 dX11_init_200 rfl rfl (by decide) ?_
  refine a_icmp_ge 236 dX11_init_201 rfl (fun hc => absurd hc (by decide)) (fun _ => ?_)
  refine a_aload_n dX11_init_204 rfl rfl ?_
  refine a_get dX11_init_205 fl_X11_54 (v := .ref q19) rfl ?_
  refine a_iload_n dX11_init_208 rfl rfl ?_
  refine a_newcT (R := R46) [(a, .inr (11, [.ref q1, .int 0, .ref q3, .ref q6, .ref q9, .ref q12, .ref q15, .ref q18, .ref q19, .ref q20, .ref q21, .ref q24, .ref q27, .ref q30, .ref q33, .int 0])), (q18, .inl (gCy G 6, 4, .inr (.inr (.inr (.inr (va_up (va_up (va_up (va_up (fun _ => none) 0 (some q35)) 1 (some q38)) 2 (some q41)) 3 (some q44))))))), (q19, .inl (gCy G 4, 2, .inr (.inr (.inr (.inr (fun _ => none)))))), (q20, .inl (gCy G 5, 2, .inr (.inr (.inr (.inr (fun _ => none))))))] (ci := 2) (fs := [.int 0, .int 0, .int 0, .int 0, .null, .null, .null, .null, .null]) (r := (RX2, TX2, 9)) dX11_init_209 dX11_init_212 dX11_init_213 rfl cl_X11_24 ib_2 in_2 (by intro j hj; have hj : j < 9 := hj; match j, hj with | 0, _ => rfl | 1, _ => rfl | 2, _ => rfl | 3, _ => rfl | 4, _ => rfl | 5, _ => rfl | 6, _ => rfl | 7, _ => rfl | 8, _ => rfl | j + 9, hj => exact absurd hj (by omega)) mi_2 rfl ii_2 (Or.inr (by decide +kernel)) (c_ini_2 G) (Nat.le_of_ble_eq_true rfl) (Nat.le_of_ble_eq_true rfl) (Nat.le_of_ble_eq_true rfl) (Nat.le_of_ble_eq_true rfl) rfl (fun q47 u48 R49 eR49 => ?_)
  refine a_aast (ci := 2) (r := (RX2, TX2, 9)) (q0 := 2) dX11_init_216 rfl rfl rfl (List.mem_cons_of_mem _ (List.mem_cons_of_mem _ (List.mem_cons_of_mem _ (List.mem_cons_of_mem _ (by rw [eR49]; refine List.mem_append_right R46 ?_; unfold Wc2; exact List.mem_cons_self))))) (by unfold vp_in; decide) (ws1 := (a, .inr (11, [.ref q1, .int 0, .ref q3, .ref q6, .ref q9, .ref q12, .ref q15, .ref q18, .ref q19, .ref q20, .ref q21, .ref q24, .ref q27, .ref q30, .ref q33, .int 0])) :: (q18, .inl (gCy G 6, 4, .inr (.inr (.inr (.inr (va_up (va_up (va_up (va_up (fun _ => none) 0 (some q35)) 1 (some q38)) 2 (some q41)) 3 (some q44))))))) :: (q19, .inl (gCy G 4, 2, .inr (.inr (.inr (.inr (va_up (fun _ => none) 0 (some q47))))))) :: (q20, .inl (gCy G 5, 2, .inr (.inr (.inr (.inr (fun _ => none)))))) :: R49) rfl ?_
  refine a_aload_n dX11_init_217 rfl rfl ?_
  refine a_get dX11_init_218 fl_X11_58 (v := .ref q20) rfl ?_
  refine a_iload_n dX11_init_221 rfl rfl ?_
  refine a_newcT (R := R49) [(a, .inr (11, [.ref q1, .int 0, .ref q3, .ref q6, .ref q9, .ref q12, .ref q15, .ref q18, .ref q19, .ref q20, .ref q21, .ref q24, .ref q27, .ref q30, .ref q33, .int 0])), (q18, .inl (gCy G 6, 4, .inr (.inr (.inr (.inr (va_up (va_up (va_up (va_up (fun _ => none) 0 (some q35)) 1 (some q38)) 2 (some q41)) 3 (some q44))))))), (q19, .inl (gCy G 4, 2, .inr (.inr (.inr (.inr (va_up (fun _ => none) 0 (some q47))))))), (q20, .inl (gCy G 5, 2, .inr (.inr (.inr (.inr (fun _ => none))))))] (ci := 6) (fs := [.int 0, .long 0, .int 0, .int 0, .null]) (r := (RX6, TX6, 5)) dX11_init_222 dX11_init_225 dX11_init_226 rfl cl_X11_31 ib_6 in_6 (by intro j hj; have hj : j < 5 := hj; match j, hj with | 0, _ => rfl | 1, _ => rfl | 2, _ => rfl | 3, _ => rfl | 4, _ => rfl | j + 5, hj => exact absurd hj (by omega)) mi_6 rfl ii_6 (Or.inl ml_X11_33) (c_ini_6 G) (Nat.le_of_ble_eq_true rfl) (Nat.le_of_ble_eq_true rfl) (Nat.le_of_ble_eq_true rfl) (Nat.le_of_ble_eq_true rfl) rfl (fun q50 u51 R52 eR52 => ?_)
  refine a_aast (ci := 6) (r := (RX6, TX6, 5)) (q0 := 3) dX11_init_229 rfl rfl rfl (List.mem_cons_of_mem _ (List.mem_cons_of_mem _ (List.mem_cons_of_mem _ (List.mem_cons_of_mem _ (by rw [eR52]; refine List.mem_append_right R49 ?_; unfold Wc6; exact List.mem_cons_self))))) (by unfold vp_in; decide) (ws1 := (a, .inr (11, [.ref q1, .int 0, .ref q3, .ref q6, .ref q9, .ref q12, .ref q15, .ref q18, .ref q19, .ref q20, .ref q21, .ref q24, .ref q27, .ref q30, .ref q33, .int 0])) :: (q18, .inl (gCy G 6, 4, .inr (.inr (.inr (.inr (va_up (va_up (va_up (va_up (fun _ => none) 0 (some q35)) 1 (some q38)) 2 (some q41)) 3 (some q44))))))) :: (q19, .inl (gCy G 4, 2, .inr (.inr (.inr (.inr (va_up (fun _ => none) 0 (some q47))))))) :: (q20, .inl (gCy G 5, 2, .inr (.inr (.inr (.inr (va_up (fun _ => none) 0 (some q50))))))) :: R52) rfl ?_
  refine a_iinc dX11_init_230 rfl (v := 1) (by decide) (by decide) (lv1 := [(0, .ref a), (1, .int 1)]) rfl ?_
  refine a_goto 186 dX11_init_233 rfl ?_
  refine a_iload_n dX11_init_186 rfl rfl ?_
  refine a_aload_n dX11_init_187 rfl rfl ?_
  refine a_get dX11_init_188 fl_X11_54 (v := .ref q19) rfl ?_
  refine a_alen (R := []) (t := 4) (v := 2) 2 dX11_init_191 rfl rfl (by decide) ?_
  refine a_icmp_ge 236 dX11_init_192 rfl (fun hc => absurd hc (by decide)) (fun _ => ?_)
  refine a_iload_n dX11_init_195 rfl rfl ?_
  refine a_aload_n dX11_init_196 rfl rfl ?_
  refine a_get dX11_init_197 fl_X11_58 (v := .ref q20) rfl ?_
  refine a_alen (R := []) (t := 5) (v := 2) 3 dX11_init_200 rfl rfl (by decide) ?_
  refine a_icmp_ge 236 dX11_init_201 rfl (fun hc => absurd hc (by decide)) (fun _ => ?_)
  refine a_aload_n dX11_init_204 rfl rfl ?_
  refine a_get dX11_init_205 fl_X11_54 (v := .ref q19) rfl ?_
  refine a_iload_n dX11_init_208 rfl rfl ?_
  refine a_newcT (R := R52) [(a, .inr (11, [.ref q1, .int 0, .ref q3, .ref q6, .ref q9, .ref q12, .ref q15, .ref q18, .ref q19, .ref q20, .ref q21, .ref q24, .ref q27, .ref q30, .ref q33, .int 0])), (q18, .inl (gCy G 6, 4, .inr (.inr (.inr (.inr (va_up (va_up (va_up (va_up (fun _ => none) 0 (some q35)) 1 (some q38)) 2 (some q41)) 3 (some q44))))))), (q19, .inl (gCy G 4, 2, .inr (.inr (.inr (.inr (va_up (fun _ => none) 0 (some q47))))))), (q20, .inl (gCy G 5, 2, .inr (.inr (.inr (.inr (va_up (fun _ => none) 0 (some q50)))))))] (ci := 2) (fs := [.int 0, .int 0, .int 0, .int 0, .null, .null, .null, .null, .null]) (r := (RX2, TX2, 9)) dX11_init_209 dX11_init_212 dX11_init_213 rfl cl_X11_24 ib_2 in_2 (by intro j hj; have hj : j < 9 := hj; match j, hj with | 0, _ => rfl | 1, _ => rfl | 2, _ => rfl | 3, _ => rfl | 4, _ => rfl | 5, _ => rfl | 6, _ => rfl | 7, _ => rfl | 8, _ => rfl | j + 9, hj => exact absurd hj (by omega)) mi_2 rfl ii_2 (Or.inr (by decide +kernel)) (c_ini_2 G) (Nat.le_of_ble_eq_true rfl) (Nat.le_of_ble_eq_true rfl) (Nat.le_of_ble_eq_true rfl) (Nat.le_of_ble_eq_true rfl) rfl (fun q53 u54 R55 eR55 => ?_)
  refine a_aast (ci := 2) (r := (RX2, TX2, 9)) (q0 := 2) dX11_init_216 rfl rfl rfl (List.mem_cons_of_mem _ (List.mem_cons_of_mem _ (List.mem_cons_of_mem _ (List.mem_cons_of_mem _ (by rw [eR55]; refine List.mem_append_right R52 ?_; unfold Wc2; exact List.mem_cons_self))))) (by unfold vp_in; decide) (ws1 := (a, .inr (11, [.ref q1, .int 0, .ref q3, .ref q6, .ref q9, .ref q12, .ref q15, .ref q18, .ref q19, .ref q20, .ref q21, .ref q24, .ref q27, .ref q30, .ref q33, .int 0])) :: (q18, .inl (gCy G 6, 4, .inr (.inr (.inr (.inr (va_up (va_up (va_up (va_up (fun _ => none) 0 (some q35)) 1 (some q38)) 2 (some q41)) 3 (some q44))))))) :: (q19, .inl (gCy G 4, 2, .inr (.inr (.inr (.inr (va_up (va_up (fun _ => none) 0 (some q47)) 1 (some q53))))))) :: (q20, .inl (gCy G 5, 2, .inr (.inr (.inr (.inr (va_up (fun _ => none) 0 (some q50))))))) :: R55) rfl ?_
  refine a_aload_n dX11_init_217 rfl rfl ?_
  refine a_get dX11_init_218 fl_X11_58 (v := .ref q20) rfl ?_
  refine a_iload_n dX11_init_221 rfl rfl ?_
  refine a_newcT (R := R55) [(a, .inr (11, [.ref q1, .int 0, .ref q3, .ref q6, .ref q9, .ref q12, .ref q15, .ref q18, .ref q19, .ref q20, .ref q21, .ref q24, .ref q27, .ref q30, .ref q33, .int 0])), (q18, .inl (gCy G 6, 4, .inr (.inr (.inr (.inr (va_up (va_up (va_up (va_up (fun _ => none) 0 (some q35)) 1 (some q38)) 2 (some q41)) 3 (some q44))))))), (q19, .inl (gCy G 4, 2, .inr (.inr (.inr (.inr (va_up (va_up (fun _ => none) 0 (some q47)) 1 (some q53))))))), (q20, .inl (gCy G 5, 2, .inr (.inr (.inr (.inr (va_up (fun _ => none) 0 (some q50)))))))] (ci := 6) (fs := [.int 0, .long 0, .int 0, .int 0, .null]) (r := (RX6, TX6, 5)) dX11_init_222 dX11_init_225 dX11_init_226 rfl cl_X11_31 ib_6 in_6 (by intro j hj; have hj : j < 5 := hj; match j, hj with | 0, _ => rfl | 1, _ => rfl | 2, _ => rfl | 3, _ => rfl | 4, _ => rfl | j + 5, hj => exact absurd hj (by omega)) mi_6 rfl ii_6 (Or.inl ml_X11_33) (c_ini_6 G) (Nat.le_of_ble_eq_true rfl) (Nat.le_of_ble_eq_true rfl) (Nat.le_of_ble_eq_true rfl) (Nat.le_of_ble_eq_true rfl) rfl (fun q56 u57 R58 eR58 => ?_)
  refine a_aast (ci := 6) (r := (RX6, TX6, 5)) (q0 := 3) dX11_init_229 rfl rfl rfl (List.mem_cons_of_mem _ (List.mem_cons_of_mem _ (List.mem_cons_of_mem _ (List.mem_cons_of_mem _ (by rw [eR58]; refine List.mem_append_right R55 ?_; unfold Wc6; exact List.mem_cons_self))))) (by unfold vp_in; decide) (ws1 := (a, .inr (11, [.ref q1, .int 0, .ref q3, .ref q6, .ref q9, .ref q12, .ref q15, .ref q18, .ref q19, .ref q20, .ref q21, .ref q24, .ref q27, .ref q30, .ref q33, .int 0])) :: (q18, .inl (gCy G 6, 4, .inr (.inr (.inr (.inr (va_up (va_up (va_up (va_up (fun _ => none) 0 (some q35)) 1 (some q38)) 2 (some q41)) 3 (some q44))))))) :: (q19, .inl (gCy G 4, 2, .inr (.inr (.inr (.inr (va_up (va_up (fun _ => none) 0 (some q47)) 1 (some q53))))))) :: (q20, .inl (gCy G 5, 2, .inr (.inr (.inr (.inr (va_up (va_up (fun _ => none) 0 (some q50)) 1 (some q56))))))) :: R58) rfl ?_
  refine a_iinc dX11_init_230 rfl (v := 2) (by decide) (by decide) (lv1 := [(0, .ref a), (1, .int 2)]) rfl ?_
  refine a_goto 186 dX11_init_233 rfl ?_
  refine a_iload_n dX11_init_186 rfl rfl ?_
  refine a_aload_n dX11_init_187 rfl rfl ?_
  refine a_get dX11_init_188 fl_X11_54 (v := .ref q19) rfl ?_
  refine a_alen (R := []) (t := 4) (v := 2) 2 dX11_init_191 rfl rfl (by decide) ?_
  refine a_icmp_ge 236 dX11_init_192 rfl (fun _ => ?_) (fun hc => absurd (by decide) hc)
  exact a_ret (q1, (q3, u4), (q6, u7), (q9, u10), (q12, u13), (q15, u16), q18, q19, q20, (q21, u22), (q24, u25), (q27, u28), (q30, u31), q33, (q35, u36), (q38, u39), (q41, u42), (q44, u45), (q47, u48), (q50, u51), (q53, u54), (q56, u57)) dX11_init_236 (by rw [eR58, eR55, eR52, eR49, eR46, eR43, eR40, eR37, eR34, eR32, eR29, eR26, eR23, eR17, eR14, eR11, eR8, eR5, eR2]; exact List.Perm.refl _) (Nat.le_of_ble_eq_true rfl) (Nat.le_of_ble_eq_true rfl)
