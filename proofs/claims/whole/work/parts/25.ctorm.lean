theorem dX12_init_0 : decode cX12_init 0 = .ok (.aload_n 0, 1) := by decide +kernel
theorem dX12_init_1 : decode cX12_init 1 = .ok (.invokespecial 7, 3) := by decide +kernel
theorem dX12_init_4 : decode cX12_init 4 = .ok (.aload_n 0, 1) := by decide +kernel
theorem dX12_init_5 : decode cX12_init 5 = .ok (.sipush 3276, 3) := by decide +kernel
theorem dX12_init_8 : decode cX12_init 8 = .ok (.newarray .int, 2) := by decide +kernel
theorem dX12_init_10 : decode cX12_init 10 = .ok (.putfield 13, 3) := by decide +kernel
theorem dX12_init_13 : decode cX12_init 13 = .ok (.aload_n 0, 1) := by decide +kernel
theorem dX12_init_14 : decode cX12_init 14 = .ok (.iconst 2, 1) := by decide +kernel
theorem dX12_init_15 : decode cX12_init 15 = .ok (.newarray .boolean, 2) := by decide +kernel
theorem dX12_init_17 : decode cX12_init 17 = .ok (.putfield 17, 3) := by decide +kernel
theorem dX12_init_20 : decode cX12_init 20 = .ok (.aload_n 0, 1) := by decide +kernel
theorem dX12_init_21 : decode cX12_init 21 = .ok (.sipush 900, 3) := by decide +kernel
theorem dX12_init_24 : decode cX12_init 24 = .ok (.newarray .int, 2) := by decide +kernel
theorem dX12_init_26 : decode cX12_init 26 = .ok (.putfield 21, 3) := by decide +kernel
theorem dX12_init_29 : decode cX12_init 29 = .ok (.aload_n 0, 1) := by decide +kernel
theorem dX12_init_30 : decode cX12_init 30 = .ok (.sipush 1092, 3) := by decide +kernel
theorem dX12_init_33 : decode cX12_init 33 = .ok (.newarray .int, 2) := by decide +kernel
theorem dX12_init_35 : decode cX12_init 35 = .ok (.putfield 24, 3) := by decide +kernel
theorem dX12_init_38 : decode cX12_init 38 = .ok (.aload_n 0, 1) := by decide +kernel
theorem dX12_init_39 : decode cX12_init 39 = .ok (.iconst (-1), 1) := by decide +kernel
theorem dX12_init_40 : decode cX12_init 40 = .ok (.putfield 27, 3) := by decide +kernel
theorem dX12_init_43 : decode cX12_init 43 = .ok (.aload_n 0, 1) := by decide +kernel
theorem dX12_init_44 : decode cX12_init 44 = .ok (.sipush 900, 3) := by decide +kernel
theorem dX12_init_47 : decode cX12_init 47 = .ok (.newarray .int, 2) := by decide +kernel
theorem dX12_init_49 : decode cX12_init 49 = .ok (.putfield 30, 3) := by decide +kernel
theorem dX12_init_52 : decode cX12_init 52 = .ok (.aload_n 0, 1) := by decide +kernel
theorem dX12_init_53 : decode cX12_init 53 = .ok (.iconst 5, 1) := by decide +kernel
theorem dX12_init_54 : decode cX12_init 54 = .ok (.newarray .int, 2) := by decide +kernel
theorem dX12_init_56 : decode cX12_init 56 = .ok (.putfield 33, 3) := by decide +kernel
theorem dX12_init_59 : decode cX12_init 59 = .ok (.aload_n 0, 1) := by decide +kernel
theorem dX12_init_60 : decode cX12_init 60 = .ok (.bipush 24, 2) := by decide +kernel
theorem dX12_init_62 : decode cX12_init 62 = .ok (.newarray .int, 2) := by decide +kernel
theorem dX12_init_64 : decode cX12_init 64 = .ok (.putfield 36, 3) := by decide +kernel
theorem dX12_init_67 : decode cX12_init 67 = .ok (.aload_n 0, 1) := by decide +kernel
theorem dX12_init_68 : decode cX12_init 68 = .ok (.bipush 24, 2) := by decide +kernel
theorem dX12_init_70 : decode cX12_init 70 = .ok (.newarray .int, 2) := by decide +kernel
theorem dX12_init_72 : decode cX12_init 72 = .ok (.putfield 39, 3) := by decide +kernel
theorem dX12_init_75 : decode cX12_init 75 = .ok (.aload_n 0, 1) := by decide +kernel
theorem dX12_init_76 : decode cX12_init 76 = .ok (.bipush 24, 2) := by decide +kernel
theorem dX12_init_78 : decode cX12_init 78 = .ok (.newarray .int, 2) := by decide +kernel
theorem dX12_init_80 : decode cX12_init 80 = .ok (.putfield 42, 3) := by decide +kernel
theorem dX12_init_83 : decode cX12_init 83 = .ok (.aload_n 0, 1) := by decide +kernel
theorem dX12_init_84 : decode cX12_init 84 = .ok (.bipush 8, 2) := by decide +kernel
theorem dX12_init_86 : decode cX12_init 86 = .ok (.newarray .int, 2) := by decide +kernel
theorem dX12_init_88 : decode cX12_init 88 = .ok (.putfield 45, 3) := by decide +kernel
theorem dX12_init_91 : decode cX12_init 91 = .ok (.aload_n 0, 1) := by decide +kernel
theorem dX12_init_92 : decode cX12_init 92 = .ok (.bipush 12, 2) := by decide +kernel
theorem dX12_init_94 : decode cX12_init 94 = .ok (.newarray .int, 2) := by decide +kernel
theorem dX12_init_96 : decode cX12_init 96 = .ok (.putfield 48, 3) := by decide +kernel
theorem dX12_init_99 : decode cX12_init 99 = .ok (.aload_n 0, 1) := by decide +kernel
theorem dX12_init_100 : decode cX12_init 100 = .ok (.sipush 1024, 3) := by decide +kernel
theorem dX12_init_103 : decode cX12_init 103 = .ok (.newarray .int, 2) := by decide +kernel
theorem dX12_init_105 : decode cX12_init 105 = .ok (.putfield 51, 3) := by decide +kernel
theorem dX12_init_108 : decode cX12_init 108 = .ok (.aload_n 0, 1) := by decide +kernel
theorem dX12_init_109 : decode cX12_init 109 = .ok (.sipush 1024, 3) := by decide +kernel
theorem dX12_init_112 : decode cX12_init 112 = .ok (.newarray .int, 2) := by decide +kernel
theorem dX12_init_114 : decode cX12_init 114 = .ok (.putfield 54, 3) := by decide +kernel
theorem dX12_init_117 : decode cX12_init 117 = .ok (.aload_n 0, 1) := by decide +kernel
theorem dX12_init_118 : decode cX12_init 118 = .ok (.sipush 1024, 3) := by decide +kernel
theorem dX12_init_121 : decode cX12_init 121 = .ok (.newarray .int, 2) := by decide +kernel
theorem dX12_init_123 : decode cX12_init 123 = .ok (.putfield 57, 3) := by decide +kernel
theorem dX12_init_126 : decode cX12_init 126 = .ok (.aload_n 0, 1) := by decide +kernel
theorem dX12_init_127 : decode cX12_init 127 = .ok (.sipush 1024, 3) := by decide +kernel
theorem dX12_init_130 : decode cX12_init 130 = .ok (.newarray .int, 2) := by decide +kernel
theorem dX12_init_132 : decode cX12_init 132 = .ok (.putfield 60, 3) := by decide +kernel
theorem dX12_init_135 : decode cX12_init 135 = .ok (.aload_n 0, 1) := by decide +kernel
theorem dX12_init_136 : decode cX12_init 136 = .ok (.iconst 2, 1) := by decide +kernel
theorem dX12_init_137 : decode cX12_init 137 = .ok (.newarray .int, 2) := by decide +kernel
theorem dX12_init_139 : decode cX12_init 139 = .ok (.putfield 63, 3) := by decide +kernel
theorem dX12_init_142 : decode cX12_init 142 = .ok (.aload_n 0, 1) := by decide +kernel
theorem dX12_init_143 : decode cX12_init 143 = .ok (.bipush 8, 2) := by decide +kernel
theorem dX12_init_145 : decode cX12_init 145 = .ok (.newarray .int, 2) := by decide +kernel
theorem dX12_init_147 : decode cX12_init 147 = .ok (.putfield 66, 3) := by decide +kernel
theorem dX12_init_150 : decode cX12_init 150 = .ok (.aload_n 0, 1) := by decide +kernel
theorem dX12_init_151 : decode cX12_init 151 = .ok (.bipush 16, 2) := by decide +kernel
theorem dX12_init_153 : decode cX12_init 153 = .ok (.newarray .int, 2) := by decide +kernel
theorem dX12_init_155 : decode cX12_init 155 = .ok (.putfield 69, 3) := by decide +kernel
theorem dX12_init_158 : decode cX12_init 158 = .ok (.aload_n 0, 1) := by decide +kernel
theorem dX12_init_159 : decode cX12_init 159 = .ok (.bipush 8, 2) := by decide +kernel
theorem dX12_init_161 : decode cX12_init 161 = .ok (.newarray .int, 2) := by decide +kernel
theorem dX12_init_163 : decode cX12_init 163 = .ok (.putfield 72, 3) := by decide +kernel
theorem dX12_init_166 : decode cX12_init 166 = .ok (.aload_n 0, 1) := by decide +kernel
theorem dX12_init_167 : decode cX12_init 167 = .ok (.bipush 8, 2) := by decide +kernel
theorem dX12_init_169 : decode cX12_init 169 = .ok (.newarray .int, 2) := by decide +kernel
theorem dX12_init_171 : decode cX12_init 171 = .ok (.putfield 75, 3) := by decide +kernel
theorem dX12_init_174 : decode cX12_init 174 = .ok (.aload_n 0, 1) := by decide +kernel
theorem dX12_init_175 : decode cX12_init 175 = .ok (.bipush 9, 2) := by decide +kernel
theorem dX12_init_177 : decode cX12_init 177 = .ok (.newarray .int, 2) := by decide +kernel
theorem dX12_init_179 : decode cX12_init 179 = .ok (.putfield 78, 3) := by decide +kernel
theorem dX12_init_182 : decode cX12_init 182 = .ok (.aload_n 0, 1) := by decide +kernel
theorem dX12_init_183 : decode cX12_init 183 = .ok (.bipush 9, 2) := by decide +kernel
theorem dX12_init_185 : decode cX12_init 185 = .ok (.newarray .long, 2) := by decide +kernel
theorem dX12_init_187 : decode cX12_init 187 = .ok (.putfield 81, 3) := by decide +kernel
theorem dX12_init_190 : decode cX12_init 190 = .ok (.aload_n 0, 1) := by decide +kernel
theorem dX12_init_191 : decode cX12_init 191 = .ok (.sipush 9512, 3) := by decide +kernel
theorem dX12_init_194 : decode cX12_init 194 = .ok (.newarray .int, 2) := by decide +kernel
theorem dX12_init_196 : decode cX12_init 196 = .ok (.putfield 85, 3) := by decide +kernel
theorem dX12_init_199 : decode cX12_init 199 = .ok (.aload_n 0, 1) := by decide +kernel
theorem dX12_init_200 : decode cX12_init 200 = .ok (.sipush 9512, 3) := by decide +kernel
theorem dX12_init_203 : decode cX12_init 203 = .ok (.newarray .int, 2) := by decide +kernel
theorem dX12_init_205 : decode cX12_init 205 = .ok (.putfield 88, 3) := by decide +kernel
theorem dX12_init_208 : decode cX12_init 208 = .ok (.aload_n 0, 1) := by decide +kernel
theorem dX12_init_209 : decode cX12_init 209 = .ok (.bipush 10, 2) := by decide +kernel
theorem dX12_init_211 : decode cX12_init 211 = .ok (.newarray .int, 2) := by decide +kernel
theorem dX12_init_213 : decode cX12_init 213 = .ok (.putfield 91, 3) := by decide +kernel
theorem dX12_init_216 : decode cX12_init 216 = .ok (.aload_n 0, 1) := by decide +kernel
theorem dX12_init_217 : decode cX12_init 217 = .ok (.iconst 4, 1) := by decide +kernel
theorem dX12_init_218 : decode cX12_init 218 = .ok (.newarray .int, 2) := by decide +kernel
theorem dX12_init_220 : decode cX12_init 220 = .ok (.dup, 1) := by decide +kernel
theorem dX12_init_221 : decode cX12_init 221 = .ok (.iconst 0, 1) := by decide +kernel
theorem dX12_init_222 : decode cX12_init 222 = .ok (.iconst (-1), 1) := by decide +kernel
theorem dX12_init_223 : decode cX12_init 223 = .ok (.iastore, 1) := by decide +kernel
theorem dX12_init_224 : decode cX12_init 224 = .ok (.dup, 1) := by decide +kernel
theorem dX12_init_225 : decode cX12_init 225 = .ok (.iconst 1, 1) := by decide +kernel
theorem dX12_init_226 : decode cX12_init 226 = .ok (.iconst (-1), 1) := by decide +kernel
theorem dX12_init_227 : decode cX12_init 227 = .ok (.iastore, 1) := by decide +kernel
theorem dX12_init_228 : decode cX12_init 228 = .ok (.dup, 1) := by decide +kernel
theorem dX12_init_229 : decode cX12_init 229 = .ok (.iconst 2, 1) := by decide +kernel
theorem dX12_init_230 : decode cX12_init 230 = .ok (.iconst (-1), 1) := by decide +kernel
theorem dX12_init_231 : decode cX12_init 231 = .ok (.iastore, 1) := by decide +kernel
theorem dX12_init_232 : decode cX12_init 232 = .ok (.dup, 1) := by decide +kernel
theorem dX12_init_233 : decode cX12_init 233 = .ok (.iconst 3, 1) := by decide +kernel
theorem dX12_init_234 : decode cX12_init 234 = .ok (.iconst (-1), 1) := by decide +kernel
theorem dX12_init_235 : decode cX12_init 235 = .ok (.iastore, 1) := by decide +kernel
theorem dX12_init_236 : decode cX12_init 236 = .ok (.putfield 94, 3) := by decide +kernel
theorem dX12_init_239 : decode cX12_init 239 = .ok (.aload_n 0, 1) := by decide +kernel
theorem dX12_init_240 : decode cX12_init 240 = .ok (.iconst 4, 1) := by decide +kernel
theorem dX12_init_241 : decode cX12_init 241 = .ok (.newarray .int, 2) := by decide +kernel
theorem dX12_init_243 : decode cX12_init 243 = .ok (.putfield 97, 3) := by decide +kernel
theorem dX12_init_246 : decode cX12_init 246 = .ok (.aload_n 0, 1) := by decide +kernel
theorem dX12_init_247 : decode cX12_init 247 = .ok (.sipush 160, 3) := by decide +kernel
theorem dX12_init_250 : decode cX12_init 250 = .ok (.newarray .long, 2) := by decide +kernel
theorem dX12_init_252 : decode cX12_init 252 = .ok (.putfield 100, 3) := by decide +kernel
theorem dX12_init_255 : decode cX12_init 255 = .ok (.aload_n 0, 1) := by decide +kernel
theorem dX12_init_256 : decode cX12_init 256 = .ok (.getfield 13, 3) := by decide +kernel
theorem dX12_init_259 : decode cX12_init 259 = .ok (.invokestatic 103, 3) := by decide +kernel
theorem dX12_init_262 : decode cX12_init 262 = .ok (.aload_n 0, 1) := by decide +kernel
theorem dX12_init_263 : decode cX12_init 263 = .ok (.getfield 13, 3) := by decide +kernel
theorem dX12_init_266 : decode cX12_init 266 = .ok (.iconst 1, 1) := by decide +kernel
theorem dX12_init_267 : decode cX12_init 267 = .ok (.iconst 1, 1) := by decide +kernel
theorem dX12_init_268 : decode cX12_init 268 = .ok (.iastore, 1) := by decide +kernel
theorem dX12_init_269 : decode cX12_init 269 = .ok (.aload_n 0, 1) := by decide +kernel
theorem dX12_init_270 : decode cX12_init 270 = .ok (.getfield 13, 3) := by decide +kernel
theorem dX12_init_273 : decode cX12_init 273 = .ok (.iconst 3, 1) := by decide +kernel
theorem dX12_init_274 : decode cX12_init 274 = .ok (.iconst 1, 1) := by decide +kernel
theorem dX12_init_275 : decode cX12_init 275 = .ok (.iastore, 1) := by decide +kernel
theorem dX12_init_276 : decode cX12_init 276 = .ok (.return_, 1) := by decide +kernel
theorem ml_X12_7 : Cond.methodLink RX12 7 objectInit ∈ Wd := mW 1378 (by decide +kernel) rfl
theorem pf_12_1 : parseFieldDescriptor (uD 12 1) = some (.array .int) := by decide +kernel
theorem ac_boolean : Cond.arrayClass .boolean ∈ Wd := mW 1521 (by decide +kernel) rfl
theorem pf_12_2 : parseFieldDescriptor (uD 12 2) = some (.array .boolean) := by decide +kernel
theorem pf_12_3 : parseFieldDescriptor (uD 12 3) = some (.array .int) := by decide +kernel
theorem pf_12_4 : parseFieldDescriptor (uD 12 4) = some (.array .int) := by decide +kernel
theorem pf_12_15 : parseFieldDescriptor (uD 12 15) = some (.array .int) := by decide +kernel
theorem pf_12_16 : parseFieldDescriptor (uD 12 16) = some (.array .int) := by decide +kernel
theorem pf_12_17 : parseFieldDescriptor (uD 12 17) = some (.array .int) := by decide +kernel
theorem pf_12_18 : parseFieldDescriptor (uD 12 18) = some (.array .int) := by decide +kernel
theorem pf_12_19 : parseFieldDescriptor (uD 12 19) = some (.array .int) := by decide +kernel
theorem pf_12_20 : parseFieldDescriptor (uD 12 20) = some (.array .int) := by decide +kernel
theorem pf_12_21 : parseFieldDescriptor (uD 12 21) = some (.array .int) := by decide +kernel
theorem pf_12_24 : parseFieldDescriptor (uD 12 24) = some (.array .int) := by decide +kernel
theorem pf_12_25 : parseFieldDescriptor (uD 12 25) = some (.array .int) := by decide +kernel
theorem pf_12_26 : parseFieldDescriptor (uD 12 26) = some (.array .int) := by decide +kernel
theorem pf_12_27 : parseFieldDescriptor (uD 12 27) = some (.array .int) := by decide +kernel
theorem pf_12_29 : parseFieldDescriptor (uD 12 29) = some (.array .int) := by decide +kernel
theorem pf_12_30 : parseFieldDescriptor (uD 12 30) = some (.array .int) := by decide +kernel
theorem pf_12_31 : parseFieldDescriptor (uD 12 31) = some (.array .int) := by decide +kernel
theorem pf_12_32 : parseFieldDescriptor (uD 12 32) = some (.array .int) := by decide +kernel
theorem pf_12_33 : parseFieldDescriptor (uD 12 33) = some (.array .int) := by decide +kernel
theorem pf_12_34 : parseFieldDescriptor (uD 12 34) = some (.array .int) := by decide +kernel
theorem pf_12_35 : parseFieldDescriptor (uD 12 35) = some (.array .long) := by decide +kernel
theorem pf_12_38 : parseFieldDescriptor (uD 12 38) = some (.array .int) := by decide +kernel
theorem pf_12_39 : parseFieldDescriptor (uD 12 39) = some (.array .int) := by decide +kernel
theorem pf_12_40 : parseFieldDescriptor (uD 12 40) = some (.array .int) := by decide +kernel
theorem pf_12_43 : parseFieldDescriptor (uD 12 43) = some (.array .int) := by decide +kernel
theorem pf_12_44 : parseFieldDescriptor (uD 12 44) = some (.array .int) := by decide +kernel
theorem pf_12_45 : parseFieldDescriptor (uD 12 45) = some (.array .long) := by decide +kernel
abbrev S12 : Type := Nat × Nat × Nat × Nat × Nat × Nat × Nat × Nat × Nat × Nat × Nat × Nat × Nat × Nat × Nat × Nat × Nat × Nat × Nat × Nat × Nat × Nat × Nat × Nat × Nat × Nat × Nat × Nat
def Wc12 (G : Gx) (a : Nat) (u : S12) : va_W := (a, .inr (12, [.int 0, .ref (u.1), .ref (u.2.1), .ref (u.2.2.1), .ref (u.2.2.2.1), .int 0, .int 0, .int 0, .int 0, .int 0, .int 0, .int 0, .int 0, .int 0, .int (-1), .ref (u.2.2.2.2.1), .ref (u.2.2.2.2.2.1), .ref (u.2.2.2.2.2.2.1), .ref (u.2.2.2.2.2.2.2.1), .ref (u.2.2.2.2.2.2.2.2.1), .ref (u.2.2.2.2.2.2.2.2.2.1), .ref (u.2.2.2.2.2.2.2.2.2.2.1), .int 0, .int 0, .ref (u.2.2.2.2.2.2.2.2.2.2.2.1), .ref (u.2.2.2.2.2.2.2.2.2.2.2.2.1), .ref (u.2.2.2.2.2.2.2.2.2.2.2.2.2.1), .ref (u.2.2.2.2.2.2.2.2.2.2.2.2.2.2.1), .int 0, .ref (u.2.2.2.2.2.2.2.2.2.2.2.2.2.2.2.1), .ref (u.2.2.2.2.2.2.2.2.2.2.2.2.2.2.2.2.1), .ref (u.2.2.2.2.2.2.2.2.2.2.2.2.2.2.2.2.2.1), .ref (u.2.2.2.2.2.2.2.2.2.2.2.2.2.2.2.2.2.2.1), .ref (u.2.2.2.2.2.2.2.2.2.2.2.2.2.2.2.2.2.2.2.1), .ref (u.2.2.2.2.2.2.2.2.2.2.2.2.2.2.2.2.2.2.2.2.1), .ref (u.2.2.2.2.2.2.2.2.2.2.2.2.2.2.2.2.2.2.2.2.2.1), .int 0, .int 0, .ref (u.2.2.2.2.2.2.2.2.2.2.2.2.2.2.2.2.2.2.2.2.2.2.1), .ref (u.2.2.2.2.2.2.2.2.2.2.2.2.2.2.2.2.2.2.2.2.2.2.2.1), .ref (u.2.2.2.2.2.2.2.2.2.2.2.2.2.2.2.2.2.2.2.2.2.2.2.2.1), .long 0, .long 0, .ref (u.2.2.2.2.2.2.2.2.2.2.2.2.2.2.2.2.2.2.2.2.2.2.2.2.2.1), .ref (u.2.2.2.2.2.2.2.2.2.2.2.2.2.2.2.2.2.2.2.2.2.2.2.2.2.2.1), .ref (u.2.2.2.2.2.2.2.2.2.2.2.2.2.2.2.2.2.2.2.2.2.2.2.2.2.2.2)])) :: ((u.1), .inl (gCy G 0, 3276, .inl (upd (upd plainF 1 1) 3 1))) :: ((u.2.2.2.2.2.2.2.2.2.2.2.2.2.2.2.2.2.2.2.2.2.2.2.2.2.1), .inl (gCy G 0, 4, .inl (upd (upd (upd (upd (fun _ => 0) 0 (-1)) 1 (-1)) 2 (-1)) 3 (-1)))) :: (((((((((((((((((((((((((([] ++ [((u.2.1), .inl (gCy G 3, 2, .inl (fun _ => 0)))]) ++ [((u.2.2.1), .inl (gCy G 0, 900, .inl (fun _ => 0)))]) ++ [((u.2.2.2.1), .inl (gCy G 0, 1092, .inl (fun _ => 0)))]) ++ [((u.2.2.2.2.1), .inl (gCy G 0, 900, .inl (fun _ => 0)))]) ++ [((u.2.2.2.2.2.1), .inl (gCy G 0, 5, .inl (fun _ => 0)))]) ++ [((u.2.2.2.2.2.2.1), .inl (gCy G 0, 24, .inl (fun _ => 0)))]) ++ [((u.2.2.2.2.2.2.2.1), .inl (gCy G 0, 24, .inl (fun _ => 0)))]) ++ [((u.2.2.2.2.2.2.2.2.1), .inl (gCy G 0, 24, .inl (fun _ => 0)))]) ++ [((u.2.2.2.2.2.2.2.2.2.1), .inl (gCy G 0, 8, .inl (fun _ => 0)))]) ++ [((u.2.2.2.2.2.2.2.2.2.2.1), .inl (gCy G 0, 12, .inl (fun _ => 0)))]) ++ [((u.2.2.2.2.2.2.2.2.2.2.2.1), .inl (gCy G 0, 1024, .inl (fun _ => 0)))]) ++ [((u.2.2.2.2.2.2.2.2.2.2.2.2.1), .inl (gCy G 0, 1024, .inl (fun _ => 0)))]) ++ [((u.2.2.2.2.2.2.2.2.2.2.2.2.2.1), .inl (gCy G 0, 1024, .inl (fun _ => 0)))]) ++ [((u.2.2.2.2.2.2.2.2.2.2.2.2.2.2.1), .inl (gCy G 0, 1024, .inl (fun _ => 0)))]) ++ [((u.2.2.2.2.2.2.2.2.2.2.2.2.2.2.2.1), .inl (gCy G 0, 2, .inl (fun _ => 0)))]) ++ [((u.2.2.2.2.2.2.2.2.2.2.2.2.2.2.2.2.1), .inl (gCy G 0, 8, .inl (fun _ => 0)))]) ++ [((u.2.2.2.2.2.2.2.2.2.2.2.2.2.2.2.2.2.1), .inl (gCy G 0, 16, .inl (fun _ => 0)))]) ++ [((u.2.2.2.2.2.2.2.2.2.2.2.2.2.2.2.2.2.2.1), .inl (gCy G 0, 8, .inl (fun _ => 0)))]) ++ [((u.2.2.2.2.2.2.2.2.2.2.2.2.2.2.2.2.2.2.2.1), .inl (gCy G 0, 8, .inl (fun _ => 0)))]) ++ [((u.2.2.2.2.2.2.2.2.2.2.2.2.2.2.2.2.2.2.2.2.1), .inl (gCy G 0, 9, .inl (fun _ => 0)))]) ++ [((u.2.2.2.2.2.2.2.2.2.2.2.2.2.2.2.2.2.2.2.2.2.1), .inl (gCy G 1, 9, .inr (.inl (fun _ => 0))))]) ++ [((u.2.2.2.2.2.2.2.2.2.2.2.2.2.2.2.2.2.2.2.2.2.2.1), .inl (gCy G 0, 9512, .inl (fun _ => 0)))]) ++ [((u.2.2.2.2.2.2.2.2.2.2.2.2.2.2.2.2.2.2.2.2.2.2.2.1), .inl (gCy G 0, 9512, .inl (fun _ => 0)))]) ++ [((u.2.2.2.2.2.2.2.2.2.2.2.2.2.2.2.2.2.2.2.2.2.2.2.2.1), .inl (gCy G 0, 10, .inl (fun _ => 0)))]) ++ [((u.2.2.2.2.2.2.2.2.2.2.2.2.2.2.2.2.2.2.2.2.2.2.2.2.2.2.1), .inl (gCy G 0, 4, .inl (fun _ => 0)))]) ++ [((u.2.2.2.2.2.2.2.2.2.2.2.2.2.2.2.2.2.2.2.2.2.2.2.2.2.2.2), .inl (gCy G 1, 160, .inr (.inl (fun _ => 0))))])
set_option maxHeartbeats 40000000 in
set_option maxRecDepth 20000 in
theorem c_ini_12 (G : Gx) : CtA yX12_init cX12_init 1 2 28 29625 G 12 [.int 0, .null, .null, .null, .null, .int 0, .int 0, .int 0, .int 0, .int 0, .int 0, .int 0, .int 0, .int 0, .int 0, .null, .null, .null, .null, .null, .null, .null, .int 0, .int 0, .null, .null, .null, .null, .int 0, .null, .null, .null, .null, .null, .null, .null, .int 0, .int 0, .null, .null, .null, .long 0, .long 0, .null, .null, .null] (Wc12 G) := by
  refine cta_go (own := RX12) (by decide) rfl rfl (by decide) (fun a sz => ?_)
  refine a_aload_n dX12_init_0 rfl rfl ?_
  refine a_obj dX12_init_1 ml_X12_7 (by decide) (by decide) ?_
  refine a_aload_n dX12_init_4 rfl rfl ?_
  refine a_sipush (v := 3276) dX12_init_5 (by decide) ?_
  refine a_newaX (R := []) [(a, .inr (12, [.int 0, .null, .null, .null, .null, .int 0, .int 0, .int 0, .int 0, .int 0, .int 0, .int 0, .int 0, .int 0, .int 0, .null, .null, .null, .null, .null, .null, .null, .int 0, .int 0, .null, .null, .null, .null, .int 0, .null, .null, .null, .null, .null, .null, .null, .int 0, .int 0, .null, .null, .null, .long 0, .long 0, .null, .null, .null]))] (t := 0) (N := 3276) (f0 := .inl (fun _ => 0)) dX12_init_8 ac_int rfl (fun _ _ => rfl) rfl (fun _ => rfl) (by decide) (by decide) (by decide) (Nat.le_of_ble_eq_true rfl) (Nat.le_of_ble_eq_true rfl) rfl (fun q1 => ?_)
  refine a_putF dX12_init_10 fl_X12_13 rfl rfl pf_12_1 rfl rfl (Nat.le_of_ble_eq_true rfl) (fs1 := [.int 0, .ref q1, .null, .null, .null, .int 0, .int 0, .int 0, .int 0, .int 0, .int 0, .int 0, .int 0, .int 0, .int 0, .null, .null, .null, .null, .null, .null, .null, .int 0, .int 0, .null, .null, .null, .null, .int 0, .null, .null, .null, .null, .null, .null, .null, .int 0, .int 0, .null, .null, .null, .long 0, .long 0, .null, .null, .null]) rfl ?_
  refine a_aload_n dX12_init_13 rfl rfl ?_
  refine a_iconst (v := 2) dX12_init_14 (by decide) ?_
  refine a_newaT (R := []) [(a, .inr (12, [.int 0, .ref q1, .null, .null, .null, .int 0, .int 0, .int 0, .int 0, .int 0, .int 0, .int 0, .int 0, .int 0, .int 0, .null, .null, .null, .null, .null, .null, .null, .int 0, .int 0, .null, .null, .null, .null, .int 0, .null, .null, .null, .null, .null, .null, .null, .int 0, .int 0, .null, .null, .null, .long 0, .long 0, .null, .null, .null])), (q1, .inl (gCy G 0, 3276, .inl (fun _ => 0)))] (t := 3) (N := 2) (f0 := .inl (fun _ => 0)) dX12_init_15 ac_boolean rfl (fun _ _ => rfl) rfl (fun _ => rfl) (by decide) (by decide) (by decide) (Nat.le_of_ble_eq_true rfl) (Nat.le_of_ble_eq_true rfl) rfl (fun q2 R3 eR3 => ?_)
  refine a_putF dX12_init_17 fl_X12_17 rfl rfl pf_12_2 rfl rfl (Nat.le_of_ble_eq_true rfl) (fs1 := [.int 0, .ref q1, .ref q2, .null, .null, .int 0, .int 0, .int 0, .int 0, .int 0, .int 0, .int 0, .int 0, .int 0, .int 0, .null, .null, .null, .null, .null, .null, .null, .int 0, .int 0, .null, .null, .null, .null, .int 0, .null, .null, .null, .null, .null, .null, .null, .int 0, .int 0, .null, .null, .null, .long 0, .long 0, .null, .null, .null]) rfl ?_
  refine a_aload_n dX12_init_20 rfl rfl ?_
  refine a_sipush (v := 900) dX12_init_21 (by decide) ?_
  refine a_newaT (R := R3) [(a, .inr (12, [.int 0, .ref q1, .ref q2, .null, .null, .int 0, .int 0, .int 0, .int 0, .int 0, .int 0, .int 0, .int 0, .int 0, .int 0, .null, .null, .null, .null, .null, .null, .null, .int 0, .int 0, .null, .null, .null, .null, .int 0, .null, .null, .null, .null, .null, .null, .null, .int 0, .int 0, .null, .null, .null, .long 0, .long 0, .null, .null, .null])), (q1, .inl (gCy G 0, 3276, .inl (fun _ => 0)))] (t := 0) (N := 900) (f0 := .inl (fun _ => 0)) dX12_init_24 ac_int rfl (fun _ _ => rfl) rfl (fun _ => rfl) (by decide) (by decide) (by decide) (Nat.le_of_ble_eq_true rfl) (Nat.le_of_ble_eq_true rfl) rfl (fun q4 R5 eR5 => ?_)
  refine a_putF dX12_init_26 fl_X12_21 rfl rfl pf_12_3 rfl rfl (Nat.le_of_ble_eq_true rfl) (fs1 := [.int 0, .ref q1, .ref q2, .ref q4, .null, .int 0, .int 0, .int 0, .int 0, .int 0, .int 0, .int 0, .int 0, .int 0, .int 0, .null, .null, .null, .null, .null, .null, .null, .int 0, .int 0, .null, .null, .null, .null, .int 0, .null, .null, .null, .null, .null, .null, .null, .int 0, .int 0, .null, .null, .null, .long 0, .long 0, .null, .null, .null]) rfl ?_
  refine a_aload_n dX12_init_29 rfl rfl ?_
  refine a_sipush (v := 1092) dX12_init_30 (by decide) ?_
  refine a_newaT (R := R5) [(a, .inr (12, [.int 0, .ref q1, .ref q2, .ref q4, .null, .int 0, .int 0, .int 0, .int 0, .int 0, .int 0, .int 0, .int 0, .int 0, .int 0, .null, .null, .null, .null, .null, .null, .null, .int 0, .int 0, .null, .null, .null, .null, .int 0, .null, .null, .null, .null, .null, .null, .null, .int 0, .int 0, .null, .null, .null, .long 0, .long 0, .null, .null, .null])), (q1, .inl (gCy G 0, 3276, .inl (fun _ => 0)))] (t := 0) (N := 1092) (f0 := .inl (fun _ => 0)) dX12_init_33 ac_int rfl (fun _ _ => rfl) rfl (fun _ => rfl) (by decide) (by decide) (by decide) (Nat.le_of_ble_eq_true rfl) (Nat.le_of_ble_eq_true rfl) rfl (fun q6 R7 eR7 => ?_)
  refine a_putF dX12_init_35 fl_X12_24 rfl rfl pf_12_4 rfl rfl (Nat.le_of_ble_eq_true rfl) (fs1 := [.int 0, .ref q1, .ref q2, .ref q4, .ref q6, .int 0, .int 0, .int 0, .int 0, .int 0, .int 0, .int 0, .int 0, .int 0, .int 0, .null, .null, .null, .null, .null, .null, .null, .int 0, .int 0, .null, .null, .null, .null, .int 0, .null, .null, .null, .null, .null, .null, .null, .int 0, .int 0, .null, .null, .null, .long 0, .long 0, .null, .null, .null]) rfl ?_
  refine a_aload_n dX12_init_38 rfl rfl ?_
  refine a_iconst (v := (-1)) dX12_init_39 (by decide) ?_
  refine a_put dX12_init_40 fl_X12_27 rfl pf_12_14 rfl rfl (Nat.le_of_ble_eq_true rfl) (fs1 := [.int 0, .ref q1, .ref q2, .ref q4, .ref q6, .int 0, .int 0, .int 0, .int 0, .int 0, .int 0, .int 0, .int 0, .int 0, .int (-1), .null, .null, .null, .null, .null, .null, .null, .int 0, .int 0, .null, .null, .null, .null, .int 0, .null, .null, .null, .null, .null, .null, .null, .int 0, .int 0, .null, .null, .null, .long 0, .long 0, .null, .null, .null]) rfl ?_
  refine a_aload_n dX12_init_43 rfl rfl ?_
  refine a_sipush (v := 900) dX12_init_44 (by decide) ?_
  refine a_newaT (R := R7) [(a, .inr (12, [.int 0, .ref q1, .ref q2, .ref q4, .ref q6, .int 0, .int 0, .int 0, .int 0, .int 0, .int 0, .int 0, .int 0, .int 0, .int (-1), .null, .null, .null, .null, .null, .null, .null, .int 0, .int 0, .null, .null, .null, .null, .int 0, .null, .null, .null, .null, .null, .null, .null, .int 0, .int 0, .null, .null, .null, .long 0, .long 0, .null, .null, .null])), (q1, .inl (gCy G 0, 3276, .inl (fun _ => 0)))] (t := 0) (N := 900) (f0 := .inl (fun _ => 0)) dX12_init_47 ac_int rfl (fun _ _ => rfl) rfl (fun _ => rfl) (by decide) (by decide) (by decide) (Nat.le_of_ble_eq_true rfl) (Nat.le_of_ble_eq_true rfl) rfl (fun q8 R9 eR9 => ?_)
  refine a_putF dX12_init_49 fl_X12_30 rfl rfl pf_12_15 rfl rfl (Nat.le_of_ble_eq_true rfl) (fs1 := [.int 0, .ref q1, .ref q2, .ref q4, .ref q6, .int 0, .int 0, .int 0, .int 0, .int 0, .int 0, .int 0, .int 0, .int 0, .int (-1), .ref q8, .null, .null, .null, .null, .null, .null, .int 0, .int 0, .null, .null, .null, .null, .int 0, .null, .null, .null, .null, .null, .null, .null, .int 0, .int 0, .null, .null, .null, .long 0, .long 0, .null, .null, .null]) rfl ?_
  refine a_aload_n dX12_init_52 rfl rfl ?_
  refine a_iconst (v := 5) dX12_init_53 (by decide) ?_
  refine a_newaT (R := R9) [(a, .inr (12, [.int 0, .ref q1, .ref q2, .ref q4, .ref q6, .int 0, .int 0, .int 0, .int 0, .int 0, .int 0, .int 0, .int 0, .int 0, .int (-1), .ref q8, .null, .null, .null, .null, .null, .null, .int 0, .int 0, .null, .null, .null, .null, .int 0, .null, .null, .null, .null, .null, .null, .null, .int 0, .int 0, .null, .null, .null, .long 0, .long 0, .null, .null, .null])), (q1, .inl (gCy G 0, 3276, .inl (fun _ => 0)))] (t := 0) (N := 5) (f0 := .inl (fun _ => 0)) dX12_init_54 ac_int rfl (fun _ _ => rfl) rfl (fun _ => rfl) (by decide) (by decide) (by decide) (Nat.le_of_ble_eq_true rfl) (Nat.le_of_ble_eq_true rfl) rfl (fun q10 R11 eR11 => ?_)
  refine a_putF dX12_init_56 fl_X12_33 rfl rfl pf_12_16 rfl rfl (Nat.le_of_ble_eq_true rfl) (fs1 := [.int 0, .ref q1, .ref q2, .ref q4, .ref q6, .int 0, .int 0, .int 0, .int 0, .int 0, .int 0, .int 0, .int 0, .int 0, .int (-1), .ref q8, .ref q10, .null, .null, .null, .null, .null, .int 0, .int 0, .null, .null, .null, .null, .int 0, .null, .null, .null, .null, .null, .null, .null, .int 0, .int 0, .null, .null, .null, .long 0, .long 0, .null, .null, .null]) rfl ?_
  refine a_aload_n dX12_init_59 rfl rfl ?_
  refine a_bipush (v := 24) dX12_init_60 (by decide) ?_
  refine a_newaT (R := R11) [(a, .inr (12, [.int 0, .ref q1, .ref q2, .ref q4, .ref q6, .int 0, .int 0, .int 0, .int 0, .int 0, .int 0, .int 0, .int 0, .int 0, .int (-1), .ref q8, .ref q10, .null, .null, .null, .null, .null, .int 0, .int 0, .null, .null, .null, .null, .int 0, .null, .null, .null, .null, .null, .null, .null, .int 0, .int 0, .null, .null, .null, .long 0, .long 0, .null, .null, .null])), (q1, .inl (gCy G 0, 3276, .inl (fun _ => 0)))] (t := 0) (N := 24) (f0 := .inl (fun _ => 0)) dX12_init_62 ac_int rfl (fun _ _ => rfl) rfl (fun _ => rfl) (by decide) (by decide) (by decide) (Nat.le_of_ble_eq_true rfl) (Nat.le_of_ble_eq_true rfl) rfl (fun q12 R13 eR13 => ?_)
  refine a_putF dX12_init_64 fl_X12_36 rfl rfl pf_12_17 rfl rfl (Nat.le_of_ble_eq_true rfl) (fs1 := [.int 0, .ref q1, .ref q2, .ref q4, .ref q6, .int 0, .int 0, .int 0, .int 0, .int 0, .int 0, .int 0, .int 0, .int 0, .int (-1), .ref q8, .ref q10, .ref q12, .null, .null, .null, .null, .int 0, .int 0, .null, .null, .null, .null, .int 0, .null, .null, .null, .null, .null, .null, .null, .int 0, .int 0, .null, .null, .null, .long 0, .long 0, .null, .null, .null]) rfl ?_
  refine a_aload_n dX12_init_67 rfl rfl ?_
  refine a_bipush (v := 24) dX12_init_68 (by decide) ?_
  refine a_newaT (R := R13) [(a, .inr (12, [.int 0, .ref q1, .ref q2, .ref q4, .ref q6, .int 0, .int 0, .int 0, .int 0, .int 0, .int 0, .int 0, .int 0, .int 0, .int (-1), .ref q8, .ref q10, .ref q12, .null, .null, .null, .null, .int 0, .int 0, .null, .null, .null, .null, .int 0, .null, .null, .null, .null, .null, .null, .null, .int 0, .int 0, .null, .null, .null, .long 0, .long 0, .null, .null, .null])), (q1, .inl (gCy G 0, 3276, .inl (fun _ => 0)))] (t := 0) (N := 24) (f0 := .inl (fun _ => 0)) dX12_init_70 ac_int rfl (fun _ _ => rfl) rfl (fun _ => rfl) (by decide) (by decide) (by decide) (Nat.le_of_ble_eq_true rfl) (Nat.le_of_ble_eq_true rfl) rfl (fun q14 R15 eR15 => ?_)
  refine a_putF dX12_init_72 fl_X12_39 rfl rfl pf_12_18 rfl rfl (Nat.le_of_ble_eq_true rfl) (fs1 := [.int 0, .ref q1, .ref q2, .ref q4, .ref q6, .int 0, .int 0, .int 0, .int 0, .int 0, .int 0, .int 0, .int 0, .int 0, .int (-1), .ref q8, .ref q10, .ref q12, .ref q14, .null, .null, .null, .int 0, .int 0, .null, .null, .null, .null, .int 0, .null, .null, .null, .null, .null, .null, .null, .int 0, .int 0, .null, .null, .null, .long 0, .long 0, .null, .null, .null]) rfl ?_
  refine a_aload_n dX12_init_75 rfl rfl ?_
  refine a_bipush (v := 24) dX12_init_76 (by decide) ?_
  refine a_newaT (R := R15) [(a, .inr (12, [.int 0, .ref q1, .ref q2, .ref q4, .ref q6, .int 0, .int 0, .int 0, .int 0, .int 0, .int 0, .int 0, .int 0, .int 0, .int (-1), .ref q8, .ref q10, .ref q12, .ref q14, .null, .null, .null, .int 0, .int 0, .null, .null, .null, .null, .int 0, .null, .null, .null, .null, .null, .null, .null, .int 0, .int 0, .null, .null, .null, .long 0, .long 0, .null, .null, .null])), (q1, .inl (gCy G 0, 3276, .inl (fun _ => 0)))] (t := 0) (N := 24) (f0 := .inl (fun _ => 0)) dX12_init_78 ac_int rfl (fun _ _ => rfl) rfl (fun _ => rfl) (by decide) (by decide) (by decide) (Nat.le_of_ble_eq_true rfl) (Nat.le_of_ble_eq_true rfl) rfl (fun q16 R17 eR17 => ?_)
  refine a_putF dX12_init_80 fl_X12_42 rfl rfl pf_12_19 rfl rfl (Nat.le_of_ble_eq_true rfl) (fs1 := [.int 0, .ref q1, .ref q2, .ref q4, .ref q6, .int 0, .int 0, .int 0, .int 0, .int 0, .int 0, .int 0, .int 0, .int 0, .int (-1), .ref q8, .ref q10, .ref q12, .ref q14, .ref q16, .null, .null, .int 0, .int 0, .null, .null, .null, .null, .int 0, .null, .null, .null, .null, .null, .null, .null, .int 0, .int 0, .null, .null, .null, .long 0, .long 0, .null, .null, .null]) rfl ?_
  refine a_aload_n dX12_init_83 rfl rfl ?_
  refine a_bipush (v := 8) dX12_init_84 (by decide) ?_
  refine a_newaT (R := R17) [(a, .inr (12, [.int 0, .ref q1, .ref q2, .ref q4, .ref q6, .int 0, .int 0, .int 0, .int 0, .int 0, .int 0, .int 0, .int 0, .int 0, .int (-1), .ref q8, .ref q10, .ref q12, .ref q14, .ref q16, .null, .null, .int 0, .int 0, .null, .null, .null, .null, .int 0, .null, .null, .null, .null, .null, .null, .null, .int 0, .int 0, .null, .null, .null, .long 0, .long 0, .null, .null, .null])), (q1, .inl (gCy G 0, 3276, .inl (fun _ => 0)))] (t := 0) (N := 8) (f0 := .inl (fun _ => 0)) dX12_init_86 ac_int rfl (fun _ _ => rfl) rfl (fun _ => rfl) (by decide) (by decide) (by decide) (Nat.le_of_ble_eq_true rfl) (Nat.le_of_ble_eq_true rfl) rfl (fun q18 R19 eR19 => ?_)
  refine a_putF dX12_init_88 fl_X12_45 rfl rfl pf_12_20 rfl rfl (Nat.le_of_ble_eq_true rfl) (fs1 := [.int 0, .ref q1, .ref q2, .ref q4, .ref q6, .int 0, .int 0, .int 0, .int 0, .int 0, .int 0, .int 0, .int 0, .int 0, .int (-1), .ref q8, .ref q10, .ref q12, .ref q14, .ref q16, .ref q18, .null, .int 0, .int 0, .null, .null, .null, .null, .int 0, .null, .null, .null, .null, .null, .null, .null, .int 0, .int 0, .null, .null, .null, .long 0, .long 0, .null, .null, .null]) rfl ?_
  refine a_aload_n dX12_init_91 rfl rfl ?_
  refine a_bipush (v := 12) dX12_init_92 (by decide) ?_
  refine a_newaT (R := R19) [(a, .inr (12, [.int 0, .ref q1, .ref q2, .ref q4, .ref q6, .int 0, .int 0, .int 0, .int 0, .int 0, .int 0, .int 0, .int 0, .int 0, .int (-1), .ref q8, .ref q10, .ref q12, .ref q14, .ref q16, .ref q18, .null, .int 0, .int 0, .null, .null, .null, .null, .int 0, .null, .null, .null, .null, .null, .null, .null, .int 0, .int 0, .null, .null, .null, .long 0, .long 0, .null, .null, .null])), (q1, .inl (gCy G 0, 3276, .inl (fun _ => 0)))] (t := 0) (N := 12) (f0 := .inl (fun _ => 0)) dX12_init_94 ac_int rfl (fun _ _ => rfl) rfl (fun _ => rfl) (by decide) (by decide) (by decide) (Nat.le_of_ble_eq_true rfl) (Nat.le_of_ble_eq_true rfl) rfl (fun q20 R21 eR21 => ?_)
  refine a_putF dX12_init_96 fl_X12_48 rfl rfl pf_12_21 rfl rfl (Nat.le_of_ble_eq_true rfl) (fs1 := [.int 0, .ref q1, .ref q2, .ref q4, .ref q6, .int 0, .int 0, .int 0, .int 0, .int 0, .int 0, .int 0, .int 0, .int 0, .int (-1), .ref q8, .ref q10, .ref q12, .ref q14, .ref q16, .ref q18, .ref q20, .int 0, .int 0, .null, .null, .null, .null, .int 0, .null, .null, .null, .null, .null, .null, .null, .int 0, .int 0, .null, .null, .null, .long 0, .long 0, .null, .null, .null]) rfl ?_
  refine a_aload_n dX12_init_99 rfl rfl ?_
  refine a_sipush (v := 1024) dX12_init_100 (by decide) ?_
  refine a_newaT (R := R21) [(a, .inr (12, [.int 0, .ref q1, .ref q2, .ref q4, .ref q6, .int 0, .int 0, .int 0, .int 0, .int 0, .int 0, .int 0, .int 0, .int 0, .int (-1), .ref q8, .ref q10, .ref q12, .ref q14, .ref q16, .ref q18, .ref q20, .int 0, .int 0, .null, .null, .null, .null, .int 0, .null, .null, .null, .null, .null, .null, .null, .int 0, .int 0, .null, .null, .null, .long 0, .long 0, .null, .null, .null])), (q1, .inl (gCy G 0, 3276, .inl (fun _ => 0)))] (t := 0) (N := 1024) (f0 := .inl (fun _ => 0)) dX12_init_103 ac_int rfl (fun _ _ => rfl) rfl (fun _ => rfl) (by decide) (by decide) (by decide) (Nat.le_of_ble_eq_true rfl) (Nat.le_of_ble_eq_true rfl) rfl (fun q22 R23 eR23 => ?_)
  refine a_putF dX12_init_105 fl_X12_51 rfl rfl pf_12_24 rfl rfl (Nat.le_of_ble_eq_true rfl) (fs1 := [.int 0, .ref q1, .ref q2, .ref q4, .ref q6, .int 0, .int 0, .int 0, .int 0, .int 0, .int 0, .int 0, .int 0, .int 0, .int (-1), .ref q8, .ref q10, .ref q12, .ref q14, .ref q16, .ref q18, .ref q20, .int 0, .int 0, .ref q22, .null, .null, .null, .int 0, .null, .null, .null, .null, .null, .null, .null, .int 0, .int 0, .null, .null, .null, .long 0, .long 0, .null, .null, .null]) rfl ?_
  refine a_aload_n dX12_init_108 rfl rfl ?_
  refine a_sipush (v := 1024) dX12_init_109 (by decide) ?_
  refine a_newaT (R := R23) [(a, .inr (12, [.int 0, .ref q1, .ref q2, .ref q4, .ref q6, .int 0, .int 0, .int 0, .int 0, .int 0, .int 0, .int 0, .int 0, .int 0, .int (-1), .ref q8, .ref q10, .ref q12, .ref q14, .ref q16, .ref q18, .ref q20, .int 0, .int 0, .ref q22, .null, .null, .null, .int 0, .null, .null, .null, .null, .null, .null, .null, .int 0, .int 0, .null, .null, .null, .long 0, .long 0, .null, .null, .null])), (q1, .inl (gCy G 0, 3276, .inl (fun _ => 0)))] (t := 0) (N := 1024) (f0 := .inl (fun _ => 0)) dX12_init_112 ac_int rfl (fun _ _ => rfl) rfl (fun _ => rfl) (by decide) (by decide) (by decide) (Nat.le_of_ble_eq_true rfl) (Nat.le_of_ble_eq_true rfl) rfl (fun q24 R25 eR25 => ?_)
  refine a_putF dX12_init_114 fl_X12_54 rfl rfl pf_12_25 rfl rfl (Nat.le_of_ble_eq_true rfl) (fs1 := [.int 0, .ref q1, .ref q2, .ref q4, .ref q6, .int 0, .int 0, .int 0, .int 0, .int 0, .int 0, .int 0, .int 0, .int 0, .int (-1), .ref q8, .ref q10, .ref q12, .ref q14, .ref q16, .ref q18, .ref q20, .int 0, .int 0, .ref q22, .ref q24, .null, .null, .int 0, .null, .null, .null, .null, .null, .null, .null, .int 0, .int 0, .null, .null, .null, .long 0, .long 0, .null, .null, .null]) rfl ?_
  refine a_aload_n dX12_init_117 rfl rfl ?_
  refine a_sipush (v := 1024) dX12_init_118 (by decide) ?_
  refine a_newaT (R := R25) [(a, .inr (12, [.int 0, .ref q1, .ref q2, .ref q4, .ref q6, .int 0, .int 0, .int 0, .int 0, .int 0, .int 0, .int 0, .int 0, .int 0, .int (-1), .ref q8, .ref q10, .ref q12, .ref q14, .ref q16, .ref q18, .ref q20, .int 0, .int 0, .ref q22, .ref q24, .null, .null, .int 0, .null, .null, .null, .null, .null, .null, .null, .int 0, .int 0, .null, .null, .null, .long 0, .long 0, .null, .null, .null])), (q1, .inl (gCy G 0, 3276, .inl (fun _ => 0)))] (t := 0) (N := 1024) (f0 := .inl (fun _ => 0)) dX12_init_121 ac_int rfl (fun _ _ => rfl) rfl (fun _ => rfl) (by decide) (by decide) (by decide) (Nat.le_of_ble_eq_true rfl) (Nat.le_of_ble_eq_true rfl) rfl (fun q26 R27 eR27 => ?_)
  refine a_putF dX12_init_123 fl_X12_57 rfl rfl pf_12_26 rfl rfl (Nat.le_of_ble_eq_true rfl) (fs1 := [.int 0, .ref q1, .ref q2, .ref q4, .ref q6, .int 0, .int 0, .int 0, .int 0, .int 0, .int 0, .int 0, .int 0, .int 0, .int (-1), .ref q8, .ref q10, .ref q12, .ref q14, .ref q16, .ref q18, .ref q20, .int 0, .int 0, .ref q22, .ref q24, .ref q26, .null, .int 0, .null, .null, .null, .null, .null, .null, .null, .int 0, .int 0, .null, .null, .null, .long 0, .long 0, .null, .null, .null]) rfl ?_
  refine a_aload_n dX12_init_126 rfl rfl ?_
  refine a_sipush (v := 1024) dX12_init_127 (by decide) ?_
  refine a_newaT (R := R27) [(a, .inr (12, [.int 0, .ref q1, .ref q2, .ref q4, .ref q6, .int 0, .int 0, .int 0, .int 0, .int 0, .int 0, .int 0, .int 0, .int 0, .int (-1), .ref q8, .ref q10, .ref q12, .ref q14, .ref q16, .ref q18, .ref q20, .int 0, .int 0, .ref q22, .ref q24, .ref q26, .null, .int 0, .null, .null, .null, .null, .null, .null, .null, .int 0, .int 0, .null, .null, .null, .long 0, .long 0, .null, .null, .null])), (q1, .inl (gCy G 0, 3276, .inl (fun _ => 0)))] (t := 0) (N := 1024) (f0 := .inl (fun _ => 0)) dX12_init_130 ac_int rfl (fun _ _ => rfl) rfl (fun _ => rfl) (by decide) (by decide) (by decide) (Nat.le_of_ble_eq_true rfl) (Nat.le_of_ble_eq_true rfl) rfl (fun q28 R29 eR29 => ?_)
  refine a_putF dX12_init_132 fl_X12_60 rfl rfl pf_12_27 rfl rfl (Nat.le_of_ble_eq_true rfl) (fs1 := [.int 0, .ref q1, .ref q2, .ref q4, .ref q6, .int 0, .int 0, .int 0, .int 0, .int 0, .int 0, .int 0, .int 0, .int 0, .int (-1), .ref q8, .ref q10, .ref q12, .ref q14, .ref q16, .ref q18, .ref q20, .int 0, .int 0, .ref q22, .ref q24, .ref q26, .ref q28, .int 0, .null, .null, .null, .null, .null, .null, .null, .int 0, .int 0, .null, .null, .null, .long 0, .long 0, .null, .null, .null]) rfl ?_
  refine a_aload_n dX12_init_135 rfl rfl ?_
  refine a_iconst (v := 2) dX12_init_136 (by decide) ?_
  refine a_newaT (R := R29) [(a, .inr (12, [.int 0, .ref q1, .ref q2, .ref q4, .ref q6, .int 0, .int 0, .int 0, .int 0, .int 0, .int 0, .int 0, .int 0, .int 0, .int (-1), .ref q8, .ref q10, .ref q12, .ref q14, .ref q16, .ref q18, .ref q20, .int 0, .int 0, .ref q22, .ref q24, .ref q26, .ref q28, .int 0, .null, .null, .null, .null, .null, .null, .null, .int 0, .int 0, .null, .null, .null, .long 0, .long 0, .null, .null, .null])), (q1, .inl (gCy G 0, 3276, .inl (fun _ => 0)))] (t := 0) (N := 2) (f0 := .inl (fun _ => 0)) dX12_init_137 ac_int rfl (fun _ _ => rfl) rfl (fun _ => rfl) (by decide) (by decide) (by decide) (Nat.le_of_ble_eq_true rfl) (Nat.le_of_ble_eq_true rfl) rfl (fun q30 R31 eR31 => ?_)
  refine a_putF dX12_init_139 fl_X12_63 rfl rfl pf_12_29 rfl rfl (Nat.le_of_ble_eq_true rfl) (fs1 := [.int 0, .ref q1, .ref q2, .ref q4, .ref q6, .int 0, .int 0, .int 0, .int 0, .int 0, .int 0, .int 0, .int 0, .int 0, .int (-1), .ref q8, .ref q10, .ref q12, .ref q14, .ref q16, .ref q18, .ref q20, .int 0, .int 0, .ref q22, .ref q24, .ref q26, .ref q28, .int 0, .ref q30, .null, .null, .null, .null, .null, .null, .int 0, .int 0, .null, .null, .null, .long 0, .long 0, .null, .null, .null]) rfl ?_
  refine a_aload_n dX12_init_142 rfl rfl ?_
  refine a_bipush (v := 8) dX12_init_143 (by decide) ?_
  refine a_newaT (R := R31) [(a, .inr (12, [.int 0, .ref q1, .ref q2, .ref q4, .ref q6, .int 0, .int 0, .int 0, .int 0, .int 0, .int 0, .int 0, .int 0, .int 0, .int (-1), .ref q8, .ref q10, .ref q12, .ref q14, .ref q16, .ref q18, .ref q20, .int 0, .int 0, .ref q22, .ref q24, .ref q26, .ref q28, .int 0, .ref q30, .null, .null, .null, .null, .null, .null, .int 0, .int 0, .null, .null, .null, .long 0, .long 0, .null, .null, .null])), (q1, .inl (gCy G 0, 3276, .inl (fun _ => 0)))] (t := 0) (N := 8) (f0 := .inl (fun _ => 0)) dX12_init_145 ac_int rfl (fun _ _ => rfl) rfl (fun _ => rfl) (by decide) (by decide) (by decide) (Nat.le_of_ble_eq_true rfl) (Nat.le_of_ble_eq_true rfl) rfl (fun q32 R33 eR33 => ?_)
  refine a_putF dX12_init_147 fl_X12_66 rfl rfl pf_12_30 rfl rfl (Nat.le_of_ble_eq_true rfl) (fs1 := [.int 0, .ref q1, .ref q2, .ref q4, .ref q6, .int 0, .int 0, .int 0, .int 0, .int 0, .int 0, .int 0, .int 0, .int 0, .int (-1), .ref q8, .ref q10, .ref q12, .ref q14, .ref q16, .ref q18, .ref q20, .int 0, .int 0, .ref q22, .ref q24, .ref q26, .ref q28, .int 0, .ref q30, .ref q32, .null, .null, .null, .null, .null, .int 0, .int 0, .null, .null, .null, .long 0, .long 0, .null, .null, .null]) rfl ?_
  refine a_aload_n dX12_init_150 rfl rfl ?_
  refine a_bipush (v := 16) dX12_init_151 (by decide) ?_
  refine a_newaT (R := R33) [(a, .inr (12, [.int 0, .ref q1, .ref q2, .ref q4, .ref q6, .int 0, .int 0, .int 0, .int 0, .int 0, .int 0, .int 0, .int 0, .int 0, .int (-1), .ref q8, .ref q10, .ref q12, .ref q14, .ref q16, .ref q18, .ref q20, .int 0, .int 0, .ref q22, .ref q24, .ref q26, .ref q28, .int 0, .ref q30, .ref q32, .null, .null, .null, .null, .null, .int 0, .int 0, .null, .null, .null, .long 0, .long 0, .null, .null, .null])), (q1, .inl (gCy G 0, 3276, .inl (fun _ => 0)))] (t := 0) (N := 16) (f0 := .inl (fun _ => 0)) dX12_init_153 ac_int rfl (fun _ _ => rfl) rfl (fun _ => rfl) (by decide) (by decide) (by decide) (Nat.le_of_ble_eq_true rfl) (Nat.le_of_ble_eq_true rfl) rfl (fun q34 R35 eR35 => ?_)
  refine a_putF dX12_init_155 fl_X12_69 rfl rfl pf_12_31 rfl rfl (Nat.le_of_ble_eq_true rfl) (fs1 := [.int 0, .ref q1, .ref q2, .ref q4, .ref q6, .int 0, .int 0, .int 0, .int 0, .int 0, .int 0, .int 0, .int 0, .int 0, .int (-1), .ref q8, .ref q10, .ref q12, .ref q14, .ref q16, .ref q18, .ref q20, .int 0, .int 0, .ref q22, .ref q24, .ref q26, .ref q28, .int 0, .ref q30, .ref q32, .ref q34, .null, .null, .null, .null, .int 0, .int 0, .null, .null, .null, .long 0, .long 0, .null, .null, .null]) rfl ?_
  refine a_aload_n dX12_init_158 rfl rfl ?_
  refine a_bipush (v := 8) dX12_init_159 (by decide) ?_
  refine a_newaT (R := R35) [(a, .inr (12, [.int 0, .ref q1, .ref q2, .ref q4, .ref q6, .int 0, .int 0, .int 0, .int 0, .int 0, .int 0, .int 0, .int 0, .int 0, .int (-1), .ref q8, .ref q10, .ref q12, .ref q14, .ref q16, .ref q18, .ref q20, .int 0, .int 0, .ref q22, .ref q24, .ref q26, .ref q28, .int 0, .ref q30, .ref q32, .ref q34, .null, .null, .null, .null, .int 0, .int 0, .null, .null, .null, .long 0, .long 0, .null, .null, .null])), (q1, .inl (gCy G 0, 3276, .inl (fun _ => 0)))] (t := 0) (N := 8) (f0 := .inl (fun _ => 0)) dX12_init_161 ac_int rfl (fun _ _ => rfl) rfl (fun _ => rfl) (by decide) (by decide) (by decide) (Nat.le_of_ble_eq_true rfl) (Nat.le_of_ble_eq_true rfl) rfl (fun q36 R37 eR37 => ?_)
  refine a_putF dX12_init_163 fl_X12_72 rfl rfl pf_12_32 rfl rfl (Nat.le_of_ble_eq_true rfl) (fs1 := [.int 0, .ref q1, .ref q2, .ref q4, .ref q6, .int 0, .int 0, .int 0, .int 0, .int 0, .int 0, .int 0, .int 0, .int 0, .int (-1), .ref q8, .ref q10, .ref q12, .ref q14, .ref q16, .ref q18, .ref q20, .int 0, .int 0, .ref q22, .ref q24, .ref q26, .ref q28, .int 0, .ref q30, .ref q32, .ref q34, .ref q36, .null, .null, .null, .int 0, .int 0, .null, .null, .null, .long 0, .long 0, .null, .null, .null]) rfl ?_
  refine a_aload_n dX12_init_166 rfl rfl ?_
  refine a_bipush (v := 8) dX12_init_167 (by decide) ?_
  refine a_newaT (R := R37) [(a, .inr (12, [.int 0, .ref q1, .ref q2, .ref q4, .ref q6, .int 0, .int 0, .int 0, .int 0, .int 0, .int 0, .int 0, .int 0, .int 0, .int (-1), .ref q8, .ref q10, .ref q12, .ref q14, .ref q16, .ref q18, .ref q20, .int 0, .int 0, .ref q22, .ref q24, .ref q26, .ref q28, .int 0, .ref q30, .ref q32, .ref q34, .ref q36, .null, .null, .null, .int 0, .int 0, .null, .null, .null, .long 0, .long 0, .null, .null, .null])), (q1, .inl (gCy G 0, 3276, .inl (fun _ => 0)))] (t := 0) (N := 8) (f0 := .inl (fun _ => 0)) dX12_init_169 ac_int rfl (fun _ _ => rfl) rfl (fun _ => rfl) (by decide) (by decide) (by decide) (Nat.le_of_ble_eq_true rfl) (Nat.le_of_ble_eq_true rfl) rfl (fun q38 R39 eR39 => ?_)
  refine a_putF dX12_init_171 fl_X12_75 rfl rfl pf_12_33 rfl rfl (Nat.le_of_ble_eq_true rfl) (fs1 := [.int 0, .ref q1, .ref q2, .ref q4, .ref q6, .int 0, .int 0, .int 0, .int 0, .int 0, .int 0, .int 0, .int 0, .int 0, .int (-1), .ref q8, .ref q10, .ref q12, .ref q14, .ref q16, .ref q18, .ref q20, .int 0, .int 0, .ref q22, .ref q24, .ref q26, .ref q28, .int 0, .ref q30, .ref q32, .ref q34, .ref q36, .ref q38, .null, .null, .int 0, .int 0, .null, .null, .null, .long 0, .long 0, .null, .null, .null]) rfl ?_
  refine a_aload_n dX12_init_174 rfl rfl ?_
  refine a_bipush (v := 9) dX12_init_175 (by decide) ?_
  refine a_newaT (R := R39) [(a, .inr (12, [.int 0, .ref q1, .ref q2, .ref q4, .ref q6, .int 0, .int 0, .int 0, .int 0, .int 0, .int 0, .int 0, .int 0, .int 0, .int (-1), .ref q8, .ref q10, .ref q12, .ref q14, .ref q16, .ref q18, .ref q20, .int 0, .int 0, .ref q22, .ref q24, .ref q26, .ref q28, .int 0, .ref q30, .ref q32, .ref q34, .ref q36, .ref q38, .null, .null, .int 0, .int 0, .null, .null, .null, .long 0, .long 0, .null, .null, .null])), (q1, .inl (gCy G 0, 3276, .inl (fun _ => 0)))] (t := 0) (N := 9) (f0 := .inl (fun _ => 0)) dX12_init_177 ac_int rfl (fun _ _ => rfl) rfl (fun _ => rfl) (by decide) (by decide) (by decide) (Nat.le_of_ble_eq_true rfl) (Nat.le_of_ble_eq_true rfl) rfl (fun q40 R41 eR41 => ?_)
  refine a_putF dX12_init_179 fl_X12_78 rfl rfl pf_12_34 rfl rfl (Nat.le_of_ble_eq_true rfl) (fs1 := [.int 0, .ref q1, .ref q2, .ref q4, .ref q6, .int 0, .int 0, .int 0, .int 0, .int 0, .int 0, .int 0, .int 0, .int 0, .int (-1), .ref q8, .ref q10, .ref q12, .ref q14, .ref q16, .ref q18, .ref q20, .int 0, .int 0, .ref q22, .ref q24, .ref q26, .ref q28, .int 0, .ref q30, .ref q32, .ref q34, .ref q36, .ref q38, .ref q40, .null, .int 0, .int 0, .null, .null, .null, .long 0, .long 0, .null, .null, .null]) rfl ?_
  refine a_aload_n dX12_init_182 rfl rfl ?_
  refine a_bipush (v := 9) dX12_init_183 (by decide) ?_
  refine a_newaT (R := R41) [(a, .inr (12, [.int 0, .ref q1, .ref q2, .ref q4, .ref q6, .int 0, .int 0, .int 0, .int 0, .int 0, .int 0, .int 0, .int 0, .int 0, .int (-1), .ref q8, .ref q10, .ref q12, .ref q14, .ref q16, .ref q18, .ref q20, .int 0, .int 0, .ref q22, .ref q24, .ref q26, .ref q28, .int 0, .ref q30, .ref q32, .ref q34, .ref q36, .ref q38, .ref q40, .null, .int 0, .int 0, .null, .null, .null, .long 0, .long 0, .null, .null, .null])), (q1, .inl (gCy G 0, 3276, .inl (fun _ => 0)))] (t := 1) (N := 9) (f0 := .inr (.inl (fun _ => 0))) dX12_init_185 ac_long rfl (fun _ _ => rfl) rfl (fun _ => rfl) (by decide) (by decide) (by decide) (Nat.le_of_ble_eq_true rfl) (Nat.le_of_ble_eq_true rfl) rfl (fun q42 R43 eR43 => ?_)
  refine a_putF dX12_init_187 fl_X12_81 rfl rfl pf_12_35 rfl rfl (Nat.le_of_ble_eq_true rfl) (fs1 := [.int 0, .ref q1, .ref q2, .ref q4, .ref q6, .int 0, .int 0, .int 0, .int 0, .int 0, .int 0, .int 0, .int 0, .int 0, .int (-1), .ref q8, .ref q10, .ref q12, .ref q14, .ref q16, .ref q18, .ref q20, .int 0, .int 0, .ref q22, .ref q24, .ref q26, .ref q28, .int 0, .ref q30, .ref q32, .ref q34, .ref q36, .ref q38, .ref q40, .ref q42, .int 0, .int 0, .null, .null, .null, .long 0, .long 0, .null, .null, .null]) rfl ?_
  refine a_aload_n dX12_init_190 rfl rfl ?_
  refine a_sipush (v := 9512) dX12_init_191 (by decide) ?_
  refine a_newaT (R := R43) [(a, .inr (12, [.int 0, .ref q1, .ref q2, .ref q4, .ref q6, .int 0, .int 0, .int 0, .int 0, .int 0, .int 0, .int 0, .int 0, .int 0, .int (-1), .ref q8, .ref q10, .ref q12, .ref q14, .ref q16, .ref q18, .ref q20, .int 0, .int 0, .ref q22, .ref q24, .ref q26, .ref q28, .int 0, .ref q30, .ref q32, .ref q34, .ref q36, .ref q38, .ref q40, .ref q42, .int 0, .int 0, .null, .null, .null, .long 0, .long 0, .null, .null, .null])), (q1, .inl (gCy G 0, 3276, .inl (fun _ => 0)))] (t := 0) (N := 9512) (f0 := .inl (fun _ => 0)) dX12_init_194 ac_int rfl (fun _ _ => rfl) rfl (fun _ => rfl) (by decide) (by decide) (by decide) (Nat.le_of_ble_eq_true rfl) (Nat.le_of_ble_eq_true rfl) rfl (fun q44 R45 eR45 => ?_)
  refine a_putF dX12_init_196 fl_X12_85 rfl rfl pf_12_38 rfl rfl (Nat.le_of_ble_eq_true rfl) (fs1 := [.int 0, .ref q1, .ref q2, .ref q4, .ref q6, .int 0, .int 0, .int 0, .int 0, .int 0, .int 0, .int 0, .int 0, .int 0, .int (-1), .ref q8, .ref q10, .ref q12, .ref q14, .ref q16, .ref q18, .ref q20, .int 0, .int 0, .ref q22, .ref q24, .ref q26, .ref q28, .int 0, .ref q30, .ref q32, .ref q34, .ref q36, .ref q38, .ref q40, .ref q42, .int 0, .int 0, .ref q44, .null, .null, .long 0, .long 0, .null, .null, .null]) rfl ?_
  refine a_aload_n dX12_init_199 rfl rfl ?_
  refine a_sipush (v := 9512) dX12_init_200 (by decide) ?_
  refine a_newaT (R := R45) [(a, .inr (12, [.int 0, .ref q1, .ref q2, .ref q4, .ref q6, .int 0, .int 0, .int 0, .int 0, .int 0, .int 0, .int 0, .int 0, .int 0, .int (-1), .ref q8, .ref q10, .ref q12, .ref q14, .ref q16, .ref q18, .ref q20, .int 0, .int 0, .ref q22, .ref q24, .ref q26, .ref q28, .int 0, .ref q30, .ref q32, .ref q34, .ref q36, .ref q38, .ref q40, .ref q42, .int 0, .int 0, .ref q44, .null, .null, .long 0, .long 0, .null, .null, .null])), (q1, .inl (gCy G 0, 3276, .inl (fun _ => 0)))] (t := 0) (N := 9512) (f0 := .inl (fun _ => 0)) dX12_init_203 ac_int rfl (fun _ _ => rfl) rfl (fun _ => rfl) (by decide) (by decide) (by decide) (Nat.le_of_ble_eq_true rfl) (Nat.le_of_ble_eq_true rfl) rfl (fun q46 R47 eR47 => ?_)
  refine a_putF dX12_init_205 fl_X12_88 rfl rfl pf_12_39 rfl rfl (Nat.le_of_ble_eq_true rfl) (fs1 := [.int 0, .ref q1, .ref q2, .ref q4, .ref q6, .int 0, .int 0, .int 0, .int 0, .int 0, .int 0, .int 0, .int 0, .int 0, .int (-1), .ref q8, .ref q10, .ref q12, .ref q14, .ref q16, .ref q18, .ref q20, .int 0, .int 0, .ref q22, .ref q24, .ref q26, .ref q28, .int 0, .ref q30, .ref q32, .ref q34, .ref q36, .ref q38, .ref q40, .ref q42, .int 0, .int 0, .ref q44, .ref q46, .null, .long 0, .long 0, .null, .null, .null]) rfl ?_
  refine a_aload_n dX12_init_208 rfl rfl ?_
  refine a_bipush (v := 10) dX12_init_209 (by decide) ?_
  refine a_newaT (R := R47) [(a, .inr (12, [.int 0, .ref q1, .ref q2, .ref q4, .ref q6, .int 0, .int 0, .int 0, .int 0, .int 0, .int 0, .int 0, .int 0, .int 0, .int (-1), .ref q8, .ref q10, .ref q12, .ref q14, .ref q16, .ref q18, .ref q20, .int 0, .int 0, .ref q22, .ref q24, .ref q26, .ref q28, .int 0, .ref q30, .ref q32, .ref q34, .ref q36, .ref q38, .ref q40, .ref q42, .int 0, .int 0, .ref q44, .ref q46, .null, .long 0, .long 0, .null, .null, .null])), (q1, .inl (gCy G 0, 3276, .inl (fun _ => 0)))] (t := 0) (N := 10) (f0 := .inl (fun _ => 0)) dX12_init_211 ac_int rfl (fun _ _ => rfl) rfl (fun _ => rfl) (by decide) (by decide) (by decide) (Nat.le_of_ble_eq_true rfl) (Nat.le_of_ble_eq_true rfl) rfl (fun q48 R49 eR49 => ?_)
  refine a_putF dX12_init_213 fl_X12_91 rfl rfl pf_12_40 rfl rfl (Nat.le_of_ble_eq_true rfl) (fs1 := [.int 0, .ref q1, .ref q2, .ref q4, .ref q6, .int 0, .int 0, .int 0, .int 0, .int 0, .int 0, .int 0, .int 0, .int 0, .int (-1), .ref q8, .ref q10, .ref q12, .ref q14, .ref q16, .ref q18, .ref q20, .int 0, .int 0, .ref q22, .ref q24, .ref q26, .ref q28, .int 0, .ref q30, .ref q32, .ref q34, .ref q36, .ref q38, .ref q40, .ref q42, .int 0, .int 0, .ref q44, .ref q46, .ref q48, .long 0, .long 0, .null, .null, .null]) rfl ?_
  refine a_aload_n dX12_init_216 rfl rfl ?_
  refine a_iconst (v := 4) dX12_init_217 (by decide) ?_
  refine a_newaX (R := R49) [(a, .inr (12, [.int 0, .ref q1, .ref q2, .ref q4, .ref q6, .int 0, .int 0, .int 0, .int 0, .int 0, .int 0, .int 0, .int 0, .int 0, .int (-1), .ref q8, .ref q10, .ref q12, .ref q14, .ref q16, .ref q18, .ref q20, .int 0, .int 0, .ref q22, .ref q24, .ref q26, .ref q28, .int 0, .ref q30, .ref q32, .ref q34, .ref q36, .ref q38, .ref q40, .ref q42, .int 0, .int 0, .ref q44, .ref q46, .ref q48, .long 0, .long 0, .null, .null, .null])), (q1, .inl (gCy G 0, 3276, .inl (fun _ => 0)))] (t := 0) (N := 4) (f0 := .inl (fun _ => 0)) dX12_init_218 ac_int rfl (fun _ _ => rfl) rfl (fun _ => rfl) (by decide) (by decide) (by decide) (Nat.le_of_ble_eq_true rfl) (Nat.le_of_ble_eq_true rfl) rfl (fun q50 => ?_)
  refine a_dup dX12_init_220 rfl ?_
  refine a_iconst (v := 0) dX12_init_221 (by decide) ?_
  refine a_iconst (v := (-1)) dX12_init_222 (by decide) ?_
  refine a_iastP 2 dX12_init_223 rfl (by unfold vp_in; decide) (i0 := 0) (by decide) (ws1 := (a, .inr (12, [.int 0, .ref q1, .ref q2, .ref q4, .ref q6, .int 0, .int 0, .int 0, .int 0, .int 0, .int 0, .int 0, .int 0, .int 0, .int (-1), .ref q8, .ref q10, .ref q12, .ref q14, .ref q16, .ref q18, .ref q20, .int 0, .int 0, .ref q22, .ref q24, .ref q26, .ref q28, .int 0, .ref q30, .ref q32, .ref q34, .ref q36, .ref q38, .ref q40, .ref q42, .int 0, .int 0, .ref q44, .ref q46, .ref q48, .long 0, .long 0, .null, .null, .null])) :: (q1, .inl (gCy G 0, 3276, .inl (fun _ => 0))) :: (q50, .inl (gCy G 0, 4, .inl (upd (fun _ => 0) 0 (-1)))) :: R49) rfl ?_
  refine a_dup dX12_init_224 rfl ?_
  refine a_iconst (v := 1) dX12_init_225 (by decide) ?_
  refine a_iconst (v := (-1)) dX12_init_226 (by decide) ?_
  refine a_iastP 2 dX12_init_227 rfl (by unfold vp_in; decide) (i0 := 1) (by decide) (ws1 := (a, .inr (12, [.int 0, .ref q1, .ref q2, .ref q4, .ref q6, .int 0, .int 0, .int 0, .int 0, .int 0, .int 0, .int 0, .int 0, .int 0, .int (-1), .ref q8, .ref q10, .ref q12, .ref q14, .ref q16, .ref q18, .ref q20, .int 0, .int 0, .ref q22, .ref q24, .ref q26, .ref q28, .int 0, .ref q30, .ref q32, .ref q34, .ref q36, .ref q38, .ref q40, .ref q42, .int 0, .int 0, .ref q44, .ref q46, .ref q48, .long 0, .long 0, .null, .null, .null])) :: (q1, .inl (gCy G 0, 3276, .inl (fun _ => 0))) :: (q50, .inl (gCy G 0, 4, .inl (upd (upd (fun _ => 0) 0 (-1)) 1 (-1)))) :: R49) rfl ?_
  refine a_dup dX12_init_228 rfl ?_
  refine a_iconst (v := 2) dX12_init_229 (by decide) ?_
  refine a_iconst (v := (-1)) dX12_init_230 (by decide) ?_
  refine a_iastP 2 dX12_init_231 rfl (by unfold vp_in; decide) (i0 := 2) (by decide) (ws1 := (a, .inr (12, [.int 0, .ref q1, .ref q2, .ref q4, .ref q6, .int 0, .int 0, .int 0, .int 0, .int 0, .int 0, .int 0, .int 0, .int 0, .int (-1), .ref q8, .ref q10, .ref q12, .ref q14, .ref q16, .ref q18, .ref q20, .int 0, .int 0, .ref q22, .ref q24, .ref q26, .ref q28, .int 0, .ref q30, .ref q32, .ref q34, .ref q36, .ref q38, .ref q40, .ref q42, .int 0, .int 0, .ref q44, .ref q46, .ref q48, .long 0, .long 0, .null, .null, .null])) :: (q1, .inl (gCy G 0, 3276, .inl (fun _ => 0))) :: (q50, .inl (gCy G 0, 4, .inl (upd (upd (upd (fun _ => 0) 0 (-1)) 1 (-1)) 2 (-1)))) :: R49) rfl ?_
  refine a_dup dX12_init_232 rfl ?_
  refine a_iconst (v := 3) dX12_init_233 (by decide) ?_
  refine a_iconst (v := (-1)) dX12_init_234 (by decide) ?_
  refine a_iastP 2 dX12_init_235 rfl (by unfold vp_in; decide) (i0 := 3) (by decide) (ws1 := (a, .inr (12, [.int 0, .ref q1, .ref q2, .ref q4, .ref q6, .int 0, .int 0, .int 0, .int 0, .int 0, .int 0, .int 0, .int 0, .int 0, .int (-1), .ref q8, .ref q10, .ref q12, .ref q14, .ref q16, .ref q18, .ref q20, .int 0, .int 0, .ref q22, .ref q24, .ref q26, .ref q28, .int 0, .ref q30, .ref q32, .ref q34, .ref q36, .ref q38, .ref q40, .ref q42, .int 0, .int 0, .ref q44, .ref q46, .ref q48, .long 0, .long 0, .null, .null, .null])) :: (q1, .inl (gCy G 0, 3276, .inl (fun _ => 0))) :: (q50, .inl (gCy G 0, 4, .inl (upd (upd (upd (upd (fun _ => 0) 0 (-1)) 1 (-1)) 2 (-1)) 3 (-1)))) :: R49) rfl ?_
  refine a_putF dX12_init_236 fl_X12_94 rfl rfl pf_12_43 rfl rfl (Nat.le_of_ble_eq_true rfl) (fs1 := [.int 0, .ref q1, .ref q2, .ref q4, .ref q6, .int 0, .int 0, .int 0, .int 0, .int 0, .int 0, .int 0, .int 0, .int 0, .int (-1), .ref q8, .ref q10, .ref q12, .ref q14, .ref q16, .ref q18, .ref q20, .int 0, .int 0, .ref q22, .ref q24, .ref q26, .ref q28, .int 0, .ref q30, .ref q32, .ref q34, .ref q36, .ref q38, .ref q40, .ref q42, .int 0, .int 0, .ref q44, .ref q46, .ref q48, .long 0, .long 0, .ref q50, .null, .null]) rfl ?_
  refine a_aload_n dX12_init_239 rfl rfl ?_
  refine a_iconst (v := 4) dX12_init_240 (by decide) ?_
  refine a_newaT (R := R49) [(a, .inr (12, [.int 0, .ref q1, .ref q2, .ref q4, .ref q6, .int 0, .int 0, .int 0, .int 0, .int 0, .int 0, .int 0, .int 0, .int 0, .int (-1), .ref q8, .ref q10, .ref q12, .ref q14, .ref q16, .ref q18, .ref q20, .int 0, .int 0, .ref q22, .ref q24, .ref q26, .ref q28, .int 0, .ref q30, .ref q32, .ref q34, .ref q36, .ref q38, .ref q40, .ref q42, .int 0, .int 0, .ref q44, .ref q46, .ref q48, .long 0, .long 0, .ref q50, .null, .null])), (q1, .inl (gCy G 0, 3276, .inl (fun _ => 0))), (q50, .inl (gCy G 0, 4, .inl (upd (upd (upd (upd (fun _ => 0) 0 (-1)) 1 (-1)) 2 (-1)) 3 (-1))))] (t := 0) (N := 4) (f0 := .inl (fun _ => 0)) dX12_init_241 ac_int rfl (fun _ _ => rfl) rfl (fun _ => rfl) (by decide) (by decide) (by decide) (Nat.le_of_ble_eq_true rfl) (Nat.le_of_ble_eq_true rfl) rfl (fun q51 R52 eR52 => ?_)
  refine a_putF dX12_init_243 fl_X12_97 rfl rfl pf_12_44 rfl rfl (Nat.le_of_ble_eq_true rfl) (fs1 := [.int 0, .ref q1, .ref q2, .ref q4, .ref q6, .int 0, .int 0, .int 0, .int 0, .int 0, .int 0, .int 0, .int 0, .int 0, .int (-1), .ref q8, .ref q10, .ref q12, .ref q14, .ref q16, .ref q18, .ref q20, .int 0, .int 0, .ref q22, .ref q24, .ref q26, .ref q28, .int 0, .ref q30, .ref q32, .ref q34, .ref q36, .ref q38, .ref q40, .ref q42, .int 0, .int 0, .ref q44, .ref q46, .ref q48, .long 0, .long 0, .ref q50, .ref q51, .null]) rfl ?_
  refine a_aload_n dX12_init_246 rfl rfl ?_
  refine a_sipush (v := 160) dX12_init_247 (by decide) ?_
  refine a_newaT (R := R52) [(a, .inr (12, [.int 0, .ref q1, .ref q2, .ref q4, .ref q6, .int 0, .int 0, .int 0, .int 0, .int 0, .int 0, .int 0, .int 0, .int 0, .int (-1), .ref q8, .ref q10, .ref q12, .ref q14, .ref q16, .ref q18, .ref q20, .int 0, .int 0, .ref q22, .ref q24, .ref q26, .ref q28, .int 0, .ref q30, .ref q32, .ref q34, .ref q36, .ref q38, .ref q40, .ref q42, .int 0, .int 0, .ref q44, .ref q46, .ref q48, .long 0, .long 0, .ref q50, .ref q51, .null])), (q1, .inl (gCy G 0, 3276, .inl (fun _ => 0))), (q50, .inl (gCy G 0, 4, .inl (upd (upd (upd (upd (fun _ => 0) 0 (-1)) 1 (-1)) 2 (-1)) 3 (-1))))] (t := 1) (N := 160) (f0 := .inr (.inl (fun _ => 0))) dX12_init_250 ac_long rfl (fun _ _ => rfl) rfl (fun _ => rfl) (by decide) (by decide) (by decide) (Nat.le_of_ble_eq_true rfl) (Nat.le_of_ble_eq_true rfl) rfl (fun q53 R54 eR54 => ?_)
  refine a_putF dX12_init_252 fl_X12_100 rfl rfl pf_12_45 rfl rfl (Nat.le_of_ble_eq_true rfl) (fs1 := [.int 0, .ref q1, .ref q2, .ref q4, .ref q6, .int 0, .int 0, .int 0, .int 0, .int 0, .int 0, .int 0, .int 0, .int 0, .int (-1), .ref q8, .ref q10, .ref q12, .ref q14, .ref q16, .ref q18, .ref q20, .int 0, .int 0, .ref q22, .ref q24, .ref q26, .ref q28, .int 0, .ref q30, .ref q32, .ref q34, .ref q36, .ref q38, .ref q40, .ref q42, .int 0, .int 0, .ref q44, .ref q46, .ref q48, .long 0, .long 0, .ref q50, .ref q51, .ref q53]) rfl ?_
  refine a_aload_n dX12_init_255 rfl rfl ?_
  refine a_get dX12_init_256 fl_X12_13 (v := .ref q1) rfl ?_
  refine a_callP dX12_init_259 ml_X12_103 mk_X12_plain rfl (c_plainA G) (Nat.le_of_ble_eq_true rfl) (Nat.le_of_ble_eq_true rfl) (Nat.le_of_ble_eq_true rfl) (Nat.le_of_ble_eq_true rfl) ?_
  refine a_aload_n dX12_init_262 rfl rfl ?_
  refine a_get dX12_init_263 fl_X12_13 (v := .ref q1) rfl ?_
  refine a_iconst (v := 1) dX12_init_266 (by decide) ?_
  refine a_iconst (v := 1) dX12_init_267 (by decide) ?_
  refine a_iastP 1 dX12_init_268 rfl (by unfold vp_in; decide) (i0 := 1) (by decide) (ws1 := (a, .inr (12, [.int 0, .ref q1, .ref q2, .ref q4, .ref q6, .int 0, .int 0, .int 0, .int 0, .int 0, .int 0, .int 0, .int 0, .int 0, .int (-1), .ref q8, .ref q10, .ref q12, .ref q14, .ref q16, .ref q18, .ref q20, .int 0, .int 0, .ref q22, .ref q24, .ref q26, .ref q28, .int 0, .ref q30, .ref q32, .ref q34, .ref q36, .ref q38, .ref q40, .ref q42, .int 0, .int 0, .ref q44, .ref q46, .ref q48, .long 0, .long 0, .ref q50, .ref q51, .ref q53])) :: (q1, .inl (gCy G 0, 3276, .inl (upd plainF 1 1))) :: (q50, .inl (gCy G 0, 4, .inl (upd (upd (upd (upd (fun _ => 0) 0 (-1)) 1 (-1)) 2 (-1)) 3 (-1)))) :: R54) rfl ?_
  refine a_aload_n dX12_init_269 rfl rfl ?_
  refine a_get dX12_init_270 fl_X12_13 (v := .ref q1) rfl ?_
  refine a_iconst (v := 3) dX12_init_273 (by decide) ?_
  refine a_iconst (v := 1) dX12_init_274 (by decide) ?_
  refine a_iastP 1 dX12_init_275 rfl (by unfold vp_in; decide) (i0 := 3) (by decide) (ws1 := (a, .inr (12, [.int 0, .ref q1, .ref q2, .ref q4, .ref q6, .int 0, .int 0, .int 0, .int 0, .int 0, .int 0, .int 0, .int 0, .int 0, .int (-1), .ref q8, .ref q10, .ref q12, .ref q14, .ref q16, .ref q18, .ref q20, .int 0, .int 0, .ref q22, .ref q24, .ref q26, .ref q28, .int 0, .ref q30, .ref q32, .ref q34, .ref q36, .ref q38, .ref q40, .ref q42, .int 0, .int 0, .ref q44, .ref q46, .ref q48, .long 0, .long 0, .ref q50, .ref q51, .ref q53])) :: (q1, .inl (gCy G 0, 3276, .inl (upd (upd plainF 1 1) 3 1))) :: (q50, .inl (gCy G 0, 4, .inl (upd (upd (upd (upd (fun _ => 0) 0 (-1)) 1 (-1)) 2 (-1)) 3 (-1)))) :: R54) rfl ?_
  exact a_ret (q1, q2, q4, q6, q8, q10, q12, q14, q16, q18, q20, q22, q24, q26, q28, q30, q32, q34, q36, q38, q40, q42, q44, q46, q48, q50, q51, q53) dX12_init_276 (by rw [eR54, eR52, eR49, eR47, eR45, eR43, eR41, eR39, eR37, eR35, eR33, eR31, eR29, eR27, eR25, eR23, eR21, eR19, eR17, eR15, eR13, eR11, eR9, eR7, eR5, eR3]; exact List.Perm.refl _) (Nat.le_of_ble_eq_true rfl) (Nat.le_of_ble_eq_true rfl)
