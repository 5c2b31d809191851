/-! walks (printed by wip/whole/gen/drive.py) -/
section NW10
variable {p : Program} {l : Launch} {e : Env} {s : State} {m : MethodId} {args : Array Value} {below : List Frame} {meth : Method} {c : Code} {D : va_G} {a : Nat → Nat} {sz : Nat} {ex : Nat → nf_M → Prop}
theorem d_M_picture_0 : decode nb_M_picture 0 = .ok (.aload_n 0, 1) := by decide +kernel
theorem d_M_picture_1 : decode nb_M_picture 1 = .ok (.iload_n 1, 1) := by decide +kernel
theorem d_M_picture_2 : decode nb_M_picture 2 = .ok (.invokestatic 148, 3) := by decide +kernel
theorem d_M_picture_5 : decode nb_M_picture 5 = .ok (.ifCond .ne 7, 3) := by decide +kernel
theorem d_M_picture_8 : decode nb_M_picture 8 = .ok (.iconst 1, 1) := by decide +kernel
theorem d_M_picture_9 : decode nb_M_picture 9 = .ok (.goto 17, 3) := by decide +kernel
theorem d_M_picture_12 : decode nb_M_picture 12 = .ok (.aload_n 0, 1) := by decide +kernel
theorem d_M_picture_13 : decode nb_M_picture 13 = .ok (.getfield 16, 3) := by decide +kernel
theorem d_M_picture_16 : decode nb_M_picture 16 = .ok (.iload_n 1, 1) := by decide +kernel
theorem d_M_picture_17 : decode nb_M_picture 17 = .ok (.iaload, 1) := by decide +kernel
theorem d_M_picture_18 : decode nb_M_picture 18 = .ok (.ifCond .ge 7, 3) := by decide +kernel
theorem d_M_picture_21 : decode nb_M_picture 21 = .ok (.iconst 2, 1) := by decide +kernel
theorem d_M_picture_22 : decode nb_M_picture 22 = .ok (.goto 4, 3) := by decide +kernel
theorem d_M_picture_25 : decode nb_M_picture 25 = .ok (.iconst 0, 1) := by decide +kernel
theorem d_M_picture_26 : decode nb_M_picture 26 = .ok (.putfield 33, 3) := by decide +kernel
theorem d_M_picture_29 : decode nb_M_picture 29 = .ok (.aload_n 0, 1) := by decide +kernel
theorem d_M_picture_30 : decode nb_M_picture 30 = .ok (.getfield 33, 3) := by decide +kernel
theorem d_M_picture_33 : decode nb_M_picture 33 = .ok (.ifCond .le 5, 3) := by decide +kernel
theorem d_M_picture_36 : decode nb_M_picture 36 = .ok (.iconst 0, 1) := by decide +kernel
theorem d_M_picture_37 : decode nb_M_picture 37 = .ok (.ireturn, 1) := by decide +kernel
theorem d_M_picture_38 : decode nb_M_picture 38 = .ok (.aload_n 0, 1) := by decide +kernel
theorem d_M_picture_39 : decode nb_M_picture 39 = .ok (.iconst 0, 1) := by decide +kernel
theorem d_M_picture_40 : decode nb_M_picture 40 = .ok (.iconst 0, 1) := by decide +kernel
theorem d_M_picture_41 : decode nb_M_picture 41 = .ok (.invokevirtual 292, 3) := by decide +kernel
theorem d_M_picture_44 : decode nb_M_picture 44 = .ok (.istore_n 2, 1) := by decide +kernel
theorem d_M_picture_45 : decode nb_M_picture 45 = .ok (.aload_n 0, 1) := by decide +kernel
theorem d_M_picture_46 : decode nb_M_picture 46 = .ok (.iload_n 2, 1) := by decide +kernel
theorem d_M_picture_47 : decode nb_M_picture 47 = .ok (.iconst 1, 1) := by decide +kernel
theorem d_M_picture_48 : decode nb_M_picture 48 = .ok (.invokevirtual 292, 3) := by decide +kernel
theorem d_M_picture_51 : decode nb_M_picture 51 = .ok (.istore_n 3, 1) := by decide +kernel
theorem d_M_picture_52 : decode nb_M_picture 52 = .ok (.aload_n 0, 1) := by decide +kernel
theorem d_M_picture_53 : decode nb_M_picture 53 = .ok (.iload_n 3, 1) := by decide +kernel
theorem d_M_picture_54 : decode nb_M_picture 54 = .ok (.invokevirtual 275, 3) := by decide +kernel
theorem d_M_picture_57 : decode nb_M_picture 57 = .ok (.bipush 46, 2) := by decide +kernel
theorem d_M_picture_59 : decode nb_M_picture 59 = .ok (.if_icmp .ne 7, 3) := by decide +kernel
theorem d_M_picture_62 : decode nb_M_picture 62 = .ok (.iconst 1, 1) := by decide +kernel
theorem d_M_picture_63 : decode nb_M_picture 63 = .ok (.goto 4, 3) := by decide +kernel
theorem d_M_picture_66 : decode nb_M_picture 66 = .ok (.iconst 0, 1) := by decide +kernel
theorem d_M_picture_67 : decode nb_M_picture 67 = .ok (.istore 4, 2) := by decide +kernel
theorem d_M_picture_69 : decode nb_M_picture 69 = .ok (.iload 4, 2) := by decide +kernel
theorem d_M_picture_71 : decode nb_M_picture 71 = .ok (.ifCond .eq 15, 3) := by decide +kernel
theorem d_M_picture_74 : decode nb_M_picture 74 = .ok (.aload_n 0, 1) := by decide +kernel
theorem d_M_picture_75 : decode nb_M_picture 75 = .ok (.iload_n 3, 1) := by decide +kernel
theorem d_M_picture_76 : decode nb_M_picture 76 = .ok (.iconst 1, 1) := by decide +kernel
theorem d_M_picture_77 : decode nb_M_picture 77 = .ok (.iadd, 1) := by decide +kernel
theorem d_M_picture_78 : decode nb_M_picture 78 = .ok (.bipush 48, 2) := by decide +kernel
theorem d_M_picture_80 : decode nb_M_picture 80 = .ok (.invokevirtual 292, 3) := by decide +kernel
theorem d_M_picture_83 : decode nb_M_picture 83 = .ok (.goto 4, 3) := by decide +kernel
theorem d_M_picture_86 : decode nb_M_picture 86 = .ok (.iload_n 3, 1) := by decide +kernel
theorem d_M_picture_87 : decode nb_M_picture 87 = .ok (.istore 5, 2) := by decide +kernel
theorem d_M_picture_89 : decode nb_M_picture 89 = .ok (.iload 4, 2) := by decide +kernel
theorem d_M_picture_91 : decode nb_M_picture 91 = .ok (.ifCond .eq 14, 3) := by decide +kernel
theorem d_M_picture_94 : decode nb_M_picture 94 = .ok (.aload_n 0, 1) := by decide +kernel
theorem d_M_picture_95 : decode nb_M_picture 95 = .ok (.iload 5, 2) := by decide +kernel
theorem d_M_picture_97 : decode nb_M_picture 97 = .ok (.bipush 35, 2) := by decide +kernel
theorem d_M_picture_99 : decode nb_M_picture 99 = .ok (.invokevirtual 292, 3) := by decide +kernel
theorem d_M_picture_102 : decode nb_M_picture 102 = .ok (.goto 4, 3) := by decide +kernel
theorem d_M_picture_105 : decode nb_M_picture 105 = .ok (.iload_n 3, 1) := by decide +kernel
theorem d_M_picture_106 : decode nb_M_picture 106 = .ok (.istore 6, 2) := by decide +kernel
theorem d_M_picture_108 : decode nb_M_picture 108 = .ok (.aload_n 0, 1) := by decide +kernel
theorem d_M_picture_109 : decode nb_M_picture 109 = .ok (.iload_n 2, 1) := by decide +kernel
theorem d_M_picture_110 : decode nb_M_picture 110 = .ok (.iload_n 3, 1) := by decide +kernel
theorem d_M_picture_111 : decode nb_M_picture 111 = .ok (.invokevirtual 295, 3) := by decide +kernel
theorem d_M_picture_114 : decode nb_M_picture 114 = .ok (.istore 7, 2) := by decide +kernel
theorem d_M_picture_116 : decode nb_M_picture 116 = .ok (.iconst 0, 1) := by decide +kernel
theorem d_M_picture_117 : decode nb_M_picture 117 = .ok (.istore 8, 2) := by decide +kernel
theorem d_M_picture_119 : decode nb_M_picture 119 = .ok (.iload 6, 2) := by decide +kernel
theorem d_M_picture_121 : decode nb_M_picture 121 = .ok (.istore 9, 2) := by decide +kernel
theorem d_M_picture_123 : decode nb_M_picture 123 = .ok (.iload 9, 2) := by decide +kernel
theorem d_M_picture_125 : decode nb_M_picture 125 = .ok (.aload_n 0, 1) := by decide +kernel
theorem d_M_picture_126 : decode nb_M_picture 126 = .ok (.getfield 37, 3) := by decide +kernel
theorem d_M_picture_129 : decode nb_M_picture 129 = .ok (.if_icmp .ge 67, 3) := by decide +kernel
theorem d_M_picture_132 : decode nb_M_picture 132 = .ok (.iload 7, 2) := by decide +kernel
theorem d_M_picture_134 : decode nb_M_picture 134 = .ok (.ifCond .eq 30, 3) := by decide +kernel
theorem d_M_picture_137 : decode nb_M_picture 137 = .ok (.aload_n 0, 1) := by decide +kernel
theorem d_M_picture_138 : decode nb_M_picture 138 = .ok (.iload 9, 2) := by decide +kernel
theorem d_M_picture_140 : decode nb_M_picture 140 = .ok (.invokevirtual 275, 3) := by decide +kernel
theorem d_M_picture_143 : decode nb_M_picture 143 = .ok (.invokestatic 279, 3) := by decide +kernel
theorem d_M_picture_146 : decode nb_M_picture 146 = .ok (.ifCond .ne 18, 3) := by decide +kernel
theorem d_M_picture_149 : decode nb_M_picture 149 = .ok (.aload_n 0, 1) := by decide +kernel
theorem d_M_picture_150 : decode nb_M_picture 150 = .ok (.iload 9, 2) := by decide +kernel
theorem d_M_picture_152 : decode nb_M_picture 152 = .ok (.invokevirtual 275, 3) := by decide +kernel
theorem d_M_picture_155 : decode nb_M_picture 155 = .ok (.bipush 46, 2) := by decide +kernel
theorem d_M_picture_157 : decode nb_M_picture 157 = .ok (.if_icmp .eq 7, 3) := by decide +kernel
theorem d_M_picture_160 : decode nb_M_picture 160 = .ok (.iconst 1, 1) := by decide +kernel
theorem d_M_picture_161 : decode nb_M_picture 161 = .ok (.goto 4, 3) := by decide +kernel
theorem d_M_picture_164 : decode nb_M_picture 164 = .ok (.iconst 0, 1) := by decide +kernel
theorem d_M_picture_165 : decode nb_M_picture 165 = .ok (.istore 7, 2) := by decide +kernel
theorem d_M_picture_167 : decode nb_M_picture 167 = .ok (.iload 8, 2) := by decide +kernel
theorem d_M_picture_169 : decode nb_M_picture 169 = .ok (.ifCond .ne 14, 3) := by decide +kernel
theorem d_M_picture_172 : decode nb_M_picture 172 = .ok (.aload_n 0, 1) := by decide +kernel
theorem d_M_picture_173 : decode nb_M_picture 173 = .ok (.iload 9, 2) := by decide +kernel
theorem d_M_picture_175 : decode nb_M_picture 175 = .ok (.invokevirtual 275, 3) := by decide +kernel
theorem d_M_picture_178 : decode nb_M_picture 178 = .ok (.bipush 37, 2) := by decide +kernel
theorem d_M_picture_180 : decode nb_M_picture 180 = .ok (.if_icmp .ne 7, 3) := by decide +kernel
theorem d_M_picture_183 : decode nb_M_picture 183 = .ok (.iconst 1, 1) := by decide +kernel
theorem d_M_picture_184 : decode nb_M_picture 184 = .ok (.goto 4, 3) := by decide +kernel
theorem d_M_picture_187 : decode nb_M_picture 187 = .ok (.iconst 0, 1) := by decide +kernel
theorem d_M_picture_188 : decode nb_M_picture 188 = .ok (.istore 8, 2) := by decide +kernel
theorem d_M_picture_190 : decode nb_M_picture 190 = .ok (.iinc 9 1, 3) := by decide +kernel
theorem d_M_picture_193 : decode nb_M_picture 193 = .ok (.goto (-70), 3) := by decide +kernel
theorem d_M_picture_196 : decode nb_M_picture 196 = .ok (.iload 7, 2) := by decide +kernel
theorem d_M_picture_198 : decode nb_M_picture 198 = .ok (.ifCond .ne 10, 3) := by decide +kernel
theorem d_M_picture_201 : decode nb_M_picture 201 = .ok (.aload_n 0, 1) := by decide +kernel
theorem d_M_picture_202 : decode nb_M_picture 202 = .ok (.iconst 3, 1) := by decide +kernel
theorem d_M_picture_203 : decode nb_M_picture 203 = .ok (.putfield 33, 3) := by decide +kernel
theorem d_M_picture_206 : decode nb_M_picture 206 = .ok (.iconst 0, 1) := by decide +kernel
theorem d_M_picture_207 : decode nb_M_picture 207 = .ok (.ireturn, 1) := by decide +kernel
theorem d_M_picture_208 : decode nb_M_picture 208 = .ok (.aload_n 0, 1) := by decide +kernel
theorem d_M_picture_209 : decode nb_M_picture 209 = .ok (.iload_n 1, 1) := by decide +kernel
theorem d_M_picture_210 : decode nb_M_picture 210 = .ok (.iconst 0, 1) := by decide +kernel
theorem d_M_picture_211 : decode nb_M_picture 211 = .ok (.invokevirtual 246, 3) := by decide +kernel
theorem d_M_picture_214 : decode nb_M_picture 214 = .ok (.aload_n 0, 1) := by decide +kernel
theorem d_M_picture_215 : decode nb_M_picture 215 = .ok (.getfield 67, 3) := by decide +kernel
theorem d_M_picture_218 : decode nb_M_picture 218 = .ok (.ifCond .ne 24, 3) := by decide +kernel
theorem d_M_picture_221 : decode nb_M_picture 221 = .ok (.iload 8, 2) := by decide +kernel
theorem d_M_picture_223 : decode nb_M_picture 223 = .ok (.ifCond .eq 19, 3) := by decide +kernel
theorem d_M_picture_226 : decode nb_M_picture 226 = .ok (.aload_n 0, 1) := by decide +kernel
theorem d_M_picture_227 : decode nb_M_picture 227 = .ok (.aload_n 0, 1) := by decide +kernel
theorem d_M_picture_228 : decode nb_M_picture 228 = .ok (.getfield 74, 3) := by decide +kernel
theorem d_M_picture_231 : decode nb_M_picture 231 = .ok (.aload_n 0, 1) := by decide +kernel
theorem d_M_picture_232 : decode nb_M_picture 232 = .ok (.getfield 78, 3) := by decide +kernel
theorem d_M_picture_235 : decode nb_M_picture 235 = .ok (.ldc2_w 299, 3) := by decide +kernel
theorem d_M_picture_238 : decode nb_M_picture 238 = .ok (.iconst 0, 1) := by decide +kernel
theorem d_M_picture_239 : decode nb_M_picture 239 = .ok (.invokevirtual 186, 3) := by decide +kernel
theorem d_M_picture_242 : decode nb_M_picture 242 = .ok (.aload_n 0, 1) := by decide +kernel
theorem d_M_picture_243 : decode nb_M_picture 243 = .ok (.aload_n 0, 1) := by decide +kernel
theorem d_M_picture_244 : decode nb_M_picture 244 = .ok (.getfield 67, 3) := by decide +kernel
theorem d_M_picture_247 : decode nb_M_picture 247 = .ok (.iconst 4, 1) := by decide +kernel
theorem d_M_picture_248 : decode nb_M_picture 248 = .ok (.if_icmp .ne 7, 3) := by decide +kernel
theorem d_M_picture_251 : decode nb_M_picture 251 = .ok (.iconst 4, 1) := by decide +kernel
theorem d_M_picture_252 : decode nb_M_picture 252 = .ok (.goto 16, 3) := by decide +kernel
theorem d_M_picture_255 : decode nb_M_picture 255 = .ok (.aload_n 0, 1) := by decide +kernel
theorem d_M_picture_256 : decode nb_M_picture 256 = .ok (.getfield 67, 3) := by decide +kernel
theorem d_M_picture_259 : decode nb_M_picture 259 = .ok (.iconst 5, 1) := by decide +kernel
theorem d_M_picture_260 : decode nb_M_picture 260 = .ok (.if_icmp .ne 7, 3) := by decide +kernel
theorem d_M_picture_263 : decode nb_M_picture 263 = .ok (.iconst 5, 1) := by decide +kernel
theorem d_M_picture_264 : decode nb_M_picture 264 = .ok (.goto 4, 3) := by decide +kernel
theorem d_M_picture_267 : decode nb_M_picture 267 = .ok (.iconst 0, 1) := by decide +kernel
theorem d_M_picture_268 : decode nb_M_picture 268 = .ok (.putfield 33, 3) := by decide +kernel
theorem d_M_picture_271 : decode nb_M_picture 271 = .ok (.aload_n 0, 1) := by decide +kernel
theorem d_M_picture_272 : decode nb_M_picture 272 = .ok (.getfield 33, 3) := by decide +kernel
theorem d_M_picture_275 : decode nb_M_picture 275 = .ok (.ifCond .le 5, 3) := by decide +kernel
theorem d_M_picture_278 : decode nb_M_picture 278 = .ok (.iconst 0, 1) := by decide +kernel
theorem d_M_picture_279 : decode nb_M_picture 279 = .ok (.ireturn, 1) := by decide +kernel
theorem d_M_picture_280 : decode nb_M_picture 280 = .ok (.aload_n 0, 1) := by decide +kernel
theorem d_M_picture_281 : decode nb_M_picture 281 = .ok (.iload 6, 2) := by decide +kernel
theorem d_M_picture_283 : decode nb_M_picture 283 = .ok (.iload_n 3, 1) := by decide +kernel
theorem d_M_picture_284 : decode nb_M_picture 284 = .ok (.if_icmp .le 12, 3) := by decide +kernel
theorem d_M_picture_287 : decode nb_M_picture 287 = .ok (.iload 6, 2) := by decide +kernel
theorem d_M_picture_289 : decode nb_M_picture 289 = .ok (.iload_n 3, 1) := by decide +kernel
theorem d_M_picture_290 : decode nb_M_picture 290 = .ok (.isub, 1) := by decide +kernel
theorem d_M_picture_291 : decode nb_M_picture 291 = .ok (.iconst 1, 1) := by decide +kernel
theorem d_M_picture_292 : decode nb_M_picture 292 = .ok (.isub, 1) := by decide +kernel
theorem d_M_picture_293 : decode nb_M_picture 293 = .ok (.goto 4, 3) := by decide +kernel
theorem d_M_picture_296 : decode nb_M_picture 296 = .ok (.iconst 0, 1) := by decide +kernel
theorem d_M_picture_297 : decode nb_M_picture 297 = .ok (.invokevirtual 301, 3) := by decide +kernel
theorem d_M_picture_300 : decode nb_M_picture 300 = .ok (.aload_n 0, 1) := by decide +kernel
theorem d_M_picture_301 : decode nb_M_picture 301 = .ok (.iload_n 2, 1) := by decide +kernel
theorem d_M_picture_302 : decode nb_M_picture 302 = .ok (.iload_n 3, 1) := by decide +kernel
theorem d_M_picture_303 : decode nb_M_picture 303 = .ok (.iload 5, 2) := by decide +kernel
theorem d_M_picture_305 : decode nb_M_picture 305 = .ok (.iload 6, 2) := by decide +kernel
theorem d_M_picture_307 : decode nb_M_picture 307 = .ok (.invokevirtual 304, 3) := by decide +kernel
theorem d_M_picture_310 : decode nb_M_picture 310 = .ok (.aload_n 0, 1) := by decide +kernel
theorem d_M_picture_311 : decode nb_M_picture 311 = .ok (.getfield 249, 3) := by decide +kernel
theorem d_M_picture_314 : decode nb_M_picture 314 = .ok (.ireturn, 1) := by decide +kernel
abbrev rm_M_picture : Room := ({ frames := 4, cells := 0, slots := 0, locals := 106 })
theorem w_M_picture_188 {post : Int32 → nf_M → Prop} (hfl : l.flags = flags0) (K : nf_K p s m args meth c "NumberForgeModel" nb_M_picture 10 (some FieldType.int) D a sz) (k123 : Int32 → Int32 → Int32 → Int32 → Int32 → Int32 → Int32 → Int32 → nf_M → Prop) (hk123 : ∀ (x1 : Int32) (x2 : Int32) (x3 : Int32) (x5 : Int32) (x6 : Int32) (x7 : Int32) (x8 : Int32) (x9 : Int32) (M : nf_M) (H : Heap) (locs : List Loc) (ls : Array Slot), k123 x1 x2 x3 x5 x6 x7 x8 x9 M → lv_has ls 10 [(0, .ref (a 19)), (1, .int x1), (2, .int x2), (3, .int x3), (5, .int x5), (6, .int x6), (7, .int x7), (8, .int x8), (9, .int x9)] → nf_W D a s sz H locs M → W p l e rm_M_picture s m args below meth c H locs 0 0 (nf_MQ below (nf_Q nf_jI D a post ex (nf_A a sz)) args s rm_M_picture.cells rm_M_picture.slots (nf_A a sz)) (F0 m 123 ls [])) : ∀ (x1 : Int32) (x2 : Int32) (x3 : Int32) (x5 : Int32) (x6 : Int32) (x7 : Int32) (x9 : Int32) (xy0 : Int32) (M : nf_M) (H : Heap) (locs : List Loc) (ls : Array Slot), B_M_picture_188 k123 post x1 x2 x3 x5 x6 x7 x9 xy0 M → lv_has ls 10 [(0, .ref (a 19)), (1, .int x1), (2, .int x2), (3, .int x3), (5, .int x5), (6, .int x6), (7, .int x7), (9, .int x9)] → nf_W D a s sz H locs M → W p l e rm_M_picture s m args below meth c H locs 0 0 (nf_MQ below (nf_Q nf_jI D a post ex (nf_A a sz)) args s rm_M_picture.cells rm_M_picture.slots (nf_A a sz)) (F0 m 188 ls [.int xy0]) := by
  have hx := K.1
  have hb := K.2.1
  intro x1 x2 x3 x5 x6 x7 x9 xy0 M H locs ls h hl hw
  refine lv_istore (lv' := [(8, .int xy0), (0, .ref (a 19)), (1, .int x1), (2, .int x2), (3, .int x3), (5, .int x5), (6, .int x6), (7, .int x7), (9, .int x9)]) hx hb d_M_picture_188 hl (by decide) rfl (fun ls hl => ?_)
  refine lv_iinc (k := 8) (v := x9 + (1 : Int32)) (lv' := [(9, .int (x9 + (1 : Int32))), (8, .int xy0), (0, .ref (a 19)), (1, .int x1), (2, .int x2), (3, .int x3), (5, .int x5), (6, .int x6), (7, .int x7)]) hx hb d_M_picture_190 hl rfl (nf_inc (by decide)) (by decide) rfl (fun ls hl => ?_)
  refine lv_goto hx hb d_M_picture_193 (tgt := 123) (by decide) ?_
  exact hk123 x1 x2 x3 x5 x6 x7 xy0 (x9 + (1 : Int32)) M _ _ _ h (lv_sub hl [2, 3, 4, 5, 6, 7, 8, 1, 0] rfl) hw
theorem w_M_picture_183 {post : Int32 → nf_M → Prop} (hfl : l.flags = flags0) (K : nf_K p s m args meth c "NumberForgeModel" nb_M_picture 10 (some FieldType.int) D a sz) (k123 : Int32 → Int32 → Int32 → Int32 → Int32 → Int32 → Int32 → Int32 → nf_M → Prop) (hk123 : ∀ (x1 : Int32) (x2 : Int32) (x3 : Int32) (x5 : Int32) (x6 : Int32) (x7 : Int32) (x8 : Int32) (x9 : Int32) (M : nf_M) (H : Heap) (locs : List Loc) (ls : Array Slot), k123 x1 x2 x3 x5 x6 x7 x8 x9 M → lv_has ls 10 [(0, .ref (a 19)), (1, .int x1), (2, .int x2), (3, .int x3), (5, .int x5), (6, .int x6), (7, .int x7), (8, .int x8), (9, .int x9)] → nf_W D a s sz H locs M → W p l e rm_M_picture s m args below meth c H locs 0 0 (nf_MQ below (nf_Q nf_jI D a post ex (nf_A a sz)) args s rm_M_picture.cells rm_M_picture.slots (nf_A a sz)) (F0 m 123 ls [])) : ∀ (x1 : Int32) (x2 : Int32) (x3 : Int32) (x5 : Int32) (x6 : Int32) (x7 : Int32) (x9 : Int32) (M : nf_M) (H : Heap) (locs : List Loc) (ls : Array Slot), B_M_picture_183 k123 post x1 x2 x3 x5 x6 x7 x9 M → lv_has ls 10 [(0, .ref (a 19)), (1, .int x1), (2, .int x2), (3, .int x3), (5, .int x5), (6, .int x6), (7, .int x7), (9, .int x9)] → nf_W D a s sz H locs M → W p l e rm_M_picture s m args below meth c H locs 0 0 (nf_MQ below (nf_Q nf_jI D a post ex (nf_A a sz)) args s rm_M_picture.cells rm_M_picture.slots (nf_A a sz)) (F0 m 183 ls []) := by
  have hx := K.1
  have hb := K.2.1
  intro x1 x2 x3 x5 x6 x7 x9 M H locs ls h hl hw
  refine lv_iconst (v := (1 : Int32)) hx hb d_M_picture_183 (by decide) ?_
  refine lv_goto hx hb d_M_picture_184 (tgt := 188) (by decide) ?_
  exact w_M_picture_188 hfl K k123 hk123 x1 x2 x3 x5 x6 x7 x9 (1 : Int32) M _ _ _ h (lv_sub hl [0, 1, 2, 3, 4, 5, 6, 7] rfl) hw
theorem w_M_picture_165 {post : Int32 → nf_M → Prop} (hfl : l.flags = flags0) (K : nf_K p s m args meth c "NumberForgeModel" nb_M_picture 10 (some FieldType.int) D a sz) (k123 : Int32 → Int32 → Int32 → Int32 → Int32 → Int32 → Int32 → Int32 → nf_M → Prop) (hk123 : ∀ (x1 : Int32) (x2 : Int32) (x3 : Int32) (x5 : Int32) (x6 : Int32) (x7 : Int32) (x8 : Int32) (x9 : Int32) (M : nf_M) (H : Heap) (locs : List Loc) (ls : Array Slot), k123 x1 x2 x3 x5 x6 x7 x8 x9 M → lv_has ls 10 [(0, .ref (a 19)), (1, .int x1), (2, .int x2), (3, .int x3), (5, .int x5), (6, .int x6), (7, .int x7), (8, .int x8), (9, .int x9)] → nf_W D a s sz H locs M → W p l e rm_M_picture s m args below meth c H locs 0 0 (nf_MQ below (nf_Q nf_jI D a post ex (nf_A a sz)) args s rm_M_picture.cells rm_M_picture.slots (nf_A a sz)) (F0 m 123 ls [])) : ∀ (x1 : Int32) (x2 : Int32) (x3 : Int32) (x5 : Int32) (x6 : Int32) (x8 : Int32) (x9 : Int32) (xy0 : Int32) (M : nf_M) (H : Heap) (locs : List Loc) (ls : Array Slot), B_M_picture_165 k123 post x1 x2 x3 x5 x6 x8 x9 xy0 M → lv_has ls 10 [(0, .ref (a 19)), (1, .int x1), (2, .int x2), (3, .int x3), (5, .int x5), (6, .int x6), (8, .int x8), (9, .int x9)] → nf_W D a s sz H locs M → W p l e rm_M_picture s m args below meth c H locs 0 0 (nf_MQ below (nf_Q nf_jI D a post ex (nf_A a sz)) args s rm_M_picture.cells rm_M_picture.slots (nf_A a sz)) (F0 m 165 ls [.int xy0]) := by
  have hx := K.1
  have hb := K.2.1
  intro x1 x2 x3 x5 x6 x8 x9 xy0 M H locs ls h hl hw
  refine lv_istore (lv' := [(7, .int xy0), (0, .ref (a 19)), (1, .int x1), (2, .int x2), (3, .int x3), (5, .int x5), (6, .int x6), (8, .int x8), (9, .int x9)]) hx hb d_M_picture_165 hl (by decide) rfl (fun ls hl => ?_)
  refine lv_iload hx hb d_M_picture_167 (lv_at hl 7 rfl) ?_
  refine nf_if_ne hx hb d_M_picture_169 (tgt := 183) (by decide) (fun hc => ?_) (fun hc => ?_)
  · have h := h.1 hc
    refine lv_aload_n hx hb d_M_picture_172 rfl (lv_at hl 1 rfl) ?_
    refine lv_iload hx hb d_M_picture_173 (lv_at hl 8 rfl) ?_
    refine nf_callW (ex := (fun _ _ => False)) (As := [.ref (a 19), .int x9]) (st0 := [.int x9, .ref (a 19)]) (rest := []) K hw (nf_invV hx hb K.2.2.2.1 (nf_Kg K nw_1234) (nf_Kg K nw_1236) (nf_Kg K nx_M_look) (nf_Kg K nw_1237) ⟨by decide, by decide⟩ (nf_rcv K hw 19 7 rfl rfl) rfl nl_M_look rfl d_M_picture_175) (c_M_look l hfl x9) nw_1237 nw_9 rfl ⟨by decide, by decide⟩ (Nat.le_of_ble_eq_true rfl) hl.1 ⟨Nat.le_of_ble_eq_true rfl, Nat.le_of_ble_eq_true rfl⟩ h (fun _ _ h => h.elim) (fun r1 M2 H locs h hw => ?_)
    refine W.eq (g2 := F0 m 178 ls [.int r1]) rfl ?_
    refine lv_bipush (v := (37 : Int32)) hx hb d_M_picture_178 (by decide) ?_
    refine nf_ic_ne hx hb d_M_picture_180 (tgt := 187) (by decide) (fun hc => ?_) (fun hc => ?_)
    · have h := h.1 hc
      exact w_M_picture_183 hfl K k123 hk123 x1 x2 x3 x5 x6 xy0 x9 M2 _ _ _ h (lv_sub hl [1, 2, 3, 4, 5, 6, 0, 8] rfl) hw
    · have h := h.2 hc
      refine lv_iconst (v := (0 : Int32)) hx hb d_M_picture_187 (by decide) ?_
      exact w_M_picture_188 hfl K k123 hk123 x1 x2 x3 x5 x6 xy0 x9 (0 : Int32) M2 _ _ _ h (lv_sub hl [1, 2, 3, 4, 5, 6, 0, 8] rfl) hw
  · have h := h.2 hc
    exact w_M_picture_183 hfl K k123 hk123 x1 x2 x3 x5 x6 xy0 x9 M _ _ _ h (lv_sub hl [1, 2, 3, 4, 5, 6, 0, 8] rfl) hw
theorem w_M_picture_164 {post : Int32 → nf_M → Prop} (hfl : l.flags = flags0) (K : nf_K p s m args meth c "NumberForgeModel" nb_M_picture 10 (some FieldType.int) D a sz) (k123 : Int32 → Int32 → Int32 → Int32 → Int32 → Int32 → Int32 → Int32 → nf_M → Prop) (hk123 : ∀ (x1 : Int32) (x2 : Int32) (x3 : Int32) (x5 : Int32) (x6 : Int32) (x7 : Int32) (x8 : Int32) (x9 : Int32) (M : nf_M) (H : Heap) (locs : List Loc) (ls : Array Slot), k123 x1 x2 x3 x5 x6 x7 x8 x9 M → lv_has ls 10 [(0, .ref (a 19)), (1, .int x1), (2, .int x2), (3, .int x3), (5, .int x5), (6, .int x6), (7, .int x7), (8, .int x8), (9, .int x9)] → nf_W D a s sz H locs M → W p l e rm_M_picture s m args below meth c H locs 0 0 (nf_MQ below (nf_Q nf_jI D a post ex (nf_A a sz)) args s rm_M_picture.cells rm_M_picture.slots (nf_A a sz)) (F0 m 123 ls [])) : ∀ (x1 : Int32) (x2 : Int32) (x3 : Int32) (x5 : Int32) (x6 : Int32) (x8 : Int32) (x9 : Int32) (M : nf_M) (H : Heap) (locs : List Loc) (ls : Array Slot), B_M_picture_164 k123 post x1 x2 x3 x5 x6 x8 x9 M → lv_has ls 10 [(0, .ref (a 19)), (1, .int x1), (2, .int x2), (3, .int x3), (5, .int x5), (6, .int x6), (8, .int x8), (9, .int x9)] → nf_W D a s sz H locs M → W p l e rm_M_picture s m args below meth c H locs 0 0 (nf_MQ below (nf_Q nf_jI D a post ex (nf_A a sz)) args s rm_M_picture.cells rm_M_picture.slots (nf_A a sz)) (F0 m 164 ls []) := by
  have hx := K.1
  have hb := K.2.1
  intro x1 x2 x3 x5 x6 x8 x9 M H locs ls h hl hw
  refine lv_iconst (v := (0 : Int32)) hx hb d_M_picture_164 (by decide) ?_
  exact w_M_picture_165 hfl K k123 hk123 x1 x2 x3 x5 x6 x8 x9 (0 : Int32) M _ _ _ h (lv_sub hl [0, 1, 2, 3, 4, 5, 6, 7] rfl) hw
theorem w_M_picture_297 {post : Int32 → nf_M → Prop} (hfl : l.flags = flags0) (K : nf_K p s m args meth c "NumberForgeModel" nb_M_picture 10 (some FieldType.int) D a sz) : ∀ (x2 : Int32) (x3 : Int32) (x5 : Int32) (x6 : Int32) (xy0 : Int32) (M : nf_M) (H : Heap) (locs : List Loc) (ls : Array Slot), B_M_picture_297 post x2 x3 x5 x6 xy0 M → lv_has ls 10 [(0, .ref (a 19)), (2, .int x2), (3, .int x3), (5, .int x5), (6, .int x6)] → nf_W D a s sz H locs M → W p l e rm_M_picture s m args below meth c H locs 0 0 (nf_MQ below (nf_Q nf_jI D a post ex (nf_A a sz)) args s rm_M_picture.cells rm_M_picture.slots (nf_A a sz)) (F0 m 297 ls [.int xy0, .ref (a 19)]) := by
  have hx := K.1
  have hb := K.2.1
  intro x2 x3 x5 x6 xy0 M H locs ls h hl hw
  refine nf_callW (ex := (fun _ _ => False)) (As := [.ref (a 19), .int xy0]) (st0 := [.int xy0, .ref (a 19)]) (rest := []) K hw (nf_invV hx hb K.2.2.2.1 (nf_Kg K nw_1246) (nf_Kg K nw_1248) (nf_Kg K nx_M_roundTo) (nf_Kg K nw_1249) ⟨by decide, by decide⟩ (nf_rcv K hw 19 7 rfl rfl) rfl nl_M_roundTo rfl d_M_picture_297) (c_M_roundTo l hfl xy0) nw_1249 nw_9 rfl ⟨by decide, by decide⟩ (Nat.le_of_ble_eq_true rfl) hl.1 ⟨Nat.le_of_ble_eq_true rfl, Nat.le_of_ble_eq_true rfl⟩ h (fun _ _ h => h.elim) (fun r1 M2 H locs h hw => ?_)
  refine W.eq (g2 := F0 m 300 ls []) rfl ?_
  refine lv_aload_n hx hb d_M_picture_300 rfl (lv_at hl 0 rfl) ?_
  refine lv_iload_n hx hb d_M_picture_301 rfl (lv_at hl 1 rfl) ?_
  refine lv_iload_n hx hb d_M_picture_302 rfl (lv_at hl 2 rfl) ?_
  refine lv_iload hx hb d_M_picture_303 (lv_at hl 3 rfl) ?_
  refine lv_iload hx hb d_M_picture_305 (lv_at hl 4 rfl) ?_
  refine nf_callW (ex := (fun _ _ => False)) (As := [.ref (a 19), .int x2, .int x3, .int x5, .int x6]) (st0 := [.int x6, .int x5, .int x3, .int x2, .ref (a 19)]) (rest := []) K hw (nf_invV hx hb K.2.2.2.1 (nf_Kg K nw_1250) (nf_Kg K nw_1252) (nf_Kg K nx_M_draw) (nf_Kg K nw_1253) ⟨by decide, by decide⟩ (nf_rcv K hw 19 7 rfl rfl) rfl nl_M_draw rfl d_M_picture_307) (c_M_draw l hfl x2 x3 x5 x6) nw_1253 nw_9 rfl ⟨by decide, by decide⟩ (Nat.le_of_ble_eq_true rfl) hl.1 ⟨Nat.le_of_ble_eq_true rfl, Nat.le_of_ble_eq_true rfl⟩ h (fun _ _ h => h.elim) (fun r3 M4 H locs h hw => ?_)
  refine W.eq (g2 := F0 m 310 ls []) rfl ?_
  refine lv_aload_n hx hb d_M_picture_310 rfl (lv_at hl 0 rfl) ?_
  refine nf_get (v := .int (mg_I M4 19 3)) K hw 19 7 3 nw_934 rfl rfl ni_M (by decide) rfl rfl d_M_picture_311 ?_
  exact nf_iret K hw d_M_picture_314 rfl (Nat.le_of_ble_eq_true rfl) (Nat.le_of_ble_eq_true rfl) (r := mg_I M4 19 3) rfl h
theorem w_M_picture_268 {post : Int32 → nf_M → Prop} (hfl : l.flags = flags0) (K : nf_K p s m args meth c "NumberForgeModel" nb_M_picture 10 (some FieldType.int) D a sz) : ∀ (x2 : Int32) (x3 : Int32) (x5 : Int32) (x6 : Int32) (xy0 : Int32) (M : nf_M) (H : Heap) (locs : List Loc) (ls : Array Slot), B_M_picture_268 post x2 x3 x5 x6 xy0 M → lv_has ls 10 [(0, .ref (a 19)), (2, .int x2), (3, .int x3), (5, .int x5), (6, .int x6)] → nf_W D a s sz H locs M → W p l e rm_M_picture s m args below meth c H locs 0 0 (nf_MQ below (nf_Q nf_jI D a post ex (nf_A a sz)) args s rm_M_picture.cells rm_M_picture.slots (nf_A a sz)) (F0 m 268 ls [.int xy0, .ref (a 19)]) := by
  have hx := K.1
  have hb := K.2.1
  intro x2 x3 x5 x6 xy0 M H locs ls h hl hw
  refine nf_put (M' := ms_I M 19 0 xy0) K hw 19 7 0 nw_931 rfl rfl rfl ni_M ny_M nq_M nn_M (by decide) rfl rfl rfl rfl (Nat.le_of_ble_eq_true rfl) d_M_picture_268 (fun H locs hw => ?_)
  obtain ⟨M1, eM1⟩ : ∃ z, z = ms_I M 19 0 xy0 := ⟨_, rfl⟩
  rw [← eM1] at hw
  have h := h M1 eM1
  refine lv_aload_n hx hb d_M_picture_271 rfl (lv_at hl 0 rfl) ?_
  refine nf_get (v := .int (mg_I M1 19 0)) K hw 19 7 0 nw_931 rfl rfl ni_M (by decide) rfl rfl d_M_picture_272 ?_
  refine nf_if_le hx hb d_M_picture_275 (tgt := 280) (by decide) (fun hc => ?_) (fun hc => ?_)
  · have h := h.1 hc
    refine lv_iconst (v := (0 : Int32)) hx hb d_M_picture_278 (by decide) ?_
    exact nf_iret K hw d_M_picture_279 rfl (Nat.le_of_ble_eq_true rfl) (Nat.le_of_ble_eq_true rfl) (r := (0 : Int32)) rfl h
  · have h := h.2 hc
    refine lv_aload_n hx hb d_M_picture_280 rfl (lv_at hl 0 rfl) ?_
    refine lv_iload hx hb d_M_picture_281 (lv_at hl 4 rfl) ?_
    refine lv_iload_n hx hb d_M_picture_283 rfl (lv_at hl 2 rfl) ?_
    refine nf_ic_le hx hb d_M_picture_284 (tgt := 296) (by decide) (fun hc => ?_) (fun hc => ?_)
    · have h := h.1 hc
      refine lv_iload hx hb d_M_picture_287 (lv_at hl 4 rfl) ?_
      refine lv_iload_n hx hb d_M_picture_289 rfl (lv_at hl 2 rfl) ?_
      refine lv_isub hx hb d_M_picture_290 ?_
      refine lv_iconst (v := (1 : Int32)) hx hb d_M_picture_291 (by decide) ?_
      refine lv_isub hx hb d_M_picture_292 ?_
      refine lv_goto hx hb d_M_picture_293 (tgt := 297) (by decide) ?_
      exact w_M_picture_297 hfl K x2 x3 x5 x6 ((x6 - x3) - (1 : Int32)) M1 _ _ _ h (lv_sub hl [0, 1, 2, 3, 4] rfl) hw
    · have h := h.2 hc
      refine lv_iconst (v := (0 : Int32)) hx hb d_M_picture_296 (by decide) ?_
      exact w_M_picture_297 hfl K x2 x3 x5 x6 (0 : Int32) M1 _ _ _ h (lv_sub hl [0, 1, 2, 3, 4] rfl) hw
theorem w_M_picture_242 {post : Int32 → nf_M → Prop} (hfl : l.flags = flags0) (K : nf_K p s m args meth c "NumberForgeModel" nb_M_picture 10 (some FieldType.int) D a sz) : ∀ (x2 : Int32) (x3 : Int32) (x5 : Int32) (x6 : Int32) (M : nf_M) (H : Heap) (locs : List Loc) (ls : Array Slot), B_M_picture_242 post x2 x3 x5 x6 M → lv_has ls 10 [(0, .ref (a 19)), (2, .int x2), (3, .int x3), (5, .int x5), (6, .int x6)] → nf_W D a s sz H locs M → W p l e rm_M_picture s m args below meth c H locs 0 0 (nf_MQ below (nf_Q nf_jI D a post ex (nf_A a sz)) args s rm_M_picture.cells rm_M_picture.slots (nf_A a sz)) (F0 m 242 ls []) := by
  have hx := K.1
  have hb := K.2.1
  intro x2 x3 x5 x6 M H locs ls h hl hw
  refine lv_aload_n hx hb d_M_picture_242 rfl (lv_at hl 0 rfl) ?_
  refine lv_aload_n hx hb d_M_picture_243 rfl (lv_at hl 0 rfl) ?_
  refine nf_get (v := .int (mg_I M 19 9)) K hw 19 7 9 nw_940 rfl rfl ni_M (by decide) rfl rfl d_M_picture_244 ?_
  refine lv_iconst (v := (4 : Int32)) hx hb d_M_picture_247 (by decide) ?_
  refine nf_ic_ne hx hb d_M_picture_248 (tgt := 255) (by decide) (fun hc => ?_) (fun hc => ?_)
  · have h := h.1 hc
    refine lv_iconst (v := (4 : Int32)) hx hb d_M_picture_251 (by decide) ?_
    refine lv_goto hx hb d_M_picture_252 (tgt := 268) (by decide) ?_
    exact w_M_picture_268 hfl K x2 x3 x5 x6 (4 : Int32) M _ _ _ h (lv_sub hl [0, 1, 2, 3, 4] rfl) hw
  · have h := h.2 hc
    refine lv_aload_n hx hb d_M_picture_255 rfl (lv_at hl 0 rfl) ?_
    refine nf_get (v := .int (mg_I M 19 9)) K hw 19 7 9 nw_940 rfl rfl ni_M (by decide) rfl rfl d_M_picture_256 ?_
    refine lv_iconst (v := (5 : Int32)) hx hb d_M_picture_259 (by decide) ?_
    refine nf_ic_ne hx hb d_M_picture_260 (tgt := 267) (by decide) (fun hc => ?_) (fun hc => ?_)
    · have h := h.1 hc
      refine lv_iconst (v := (5 : Int32)) hx hb d_M_picture_263 (by decide) ?_
      refine lv_goto hx hb d_M_picture_264 (tgt := 268) (by decide) ?_
      exact w_M_picture_268 hfl K x2 x3 x5 x6 (5 : Int32) M _ _ _ h (lv_sub hl [0, 1, 2, 3, 4] rfl) hw
    · have h := h.2 hc
      refine lv_iconst (v := (0 : Int32)) hx hb d_M_picture_267 (by decide) ?_
      exact w_M_picture_268 hfl K x2 x3 x5 x6 (0 : Int32) M _ _ _ h (lv_sub hl [0, 1, 2, 3, 4] rfl) hw
theorem w_M_picture_123 {post : Int32 → nf_M → Prop} (hfl : l.flags = flags0) (K : nf_K p s m args meth c "NumberForgeModel" nb_M_picture 10 (some FieldType.int) D a sz) : ∀ (n : Nat) (x1 : Int32) (x2 : Int32) (x3 : Int32) (x5 : Int32) (x6 : Int32) (x7 : Int32) (x8 : Int32) (x9 : Int32) (M : nf_M) (H : Heap) (locs : List Loc) (ls : Array Slot), B_M_picture_123 post n x1 x2 x3 x5 x6 x7 x8 x9 M → lv_has ls 10 [(0, .ref (a 19)), (1, .int x1), (2, .int x2), (3, .int x3), (5, .int x5), (6, .int x6), (7, .int x7), (8, .int x8), (9, .int x9)] → nf_W D a s sz H locs M → W p l e rm_M_picture s m args below meth c H locs 0 0 (nf_MQ below (nf_Q nf_jI D a post ex (nf_A a sz)) args s rm_M_picture.cells rm_M_picture.slots (nf_A a sz)) (F0 m 123 ls []) := by
  have hx := K.1
  have hb := K.2.1
  intro n
  induction n with
  | zero => intro x1 x2 x3 x5 x6 x7 x8 x9 M H locs ls h hl hw; exact h.elim
  | succ n ih =>
    intro x1 x2 x3 x5 x6 x7 x8 x9 M H locs ls h hl hw
    refine lv_iload hx hb d_M_picture_123 (lv_at hl 8 rfl) ?_
    refine lv_aload_n hx hb d_M_picture_125 rfl (lv_at hl 0 rfl) ?_
    refine nf_get (v := .int (mg_I M 19 1)) K hw 19 7 1 nw_932 rfl rfl ni_M (by decide) rfl rfl d_M_picture_126 ?_
    refine nf_ic_ge hx hb d_M_picture_129 (tgt := 196) (by decide) (fun hc => ?_) (fun hc => ?_)
    · have h := h.1 hc
      refine lv_iload hx hb d_M_picture_132 (lv_at hl 6 rfl) ?_
      refine nf_if_eq hx hb d_M_picture_134 (tgt := 164) (by decide) (fun hc => ?_) (fun hc => ?_)
      · have h := h.1 hc
        exact w_M_picture_164 hfl K (fun x1 x2 x3 x5 x6 x7 x8 x9 z => B_M_picture_123 post n x1 x2 x3 x5 x6 x7 x8 x9 z) (fun x1 x2 x3 x5 x6 x7 x8 x9 z H locs ls hh hll hww => ih x1 x2 x3 x5 x6 x7 x8 x9 z H locs ls hh hll hww) x1 x2 x3 x5 x6 x8 x9 M _ _ _ h (lv_sub hl [0, 1, 2, 3, 4, 5, 7, 8] rfl) hw
      · have h := h.2 hc
        refine lv_aload_n hx hb d_M_picture_137 rfl (lv_at hl 0 rfl) ?_
        refine lv_iload hx hb d_M_picture_138 (lv_at hl 8 rfl) ?_
        refine nf_callW (ex := (fun _ _ => False)) (As := [.ref (a 19), .int x9]) (st0 := [.int x9, .ref (a 19)]) (rest := []) K hw (nf_invV hx hb K.2.2.2.1 (nf_Kg K nw_1234) (nf_Kg K nw_1236) (nf_Kg K nx_M_look) (nf_Kg K nw_1237) ⟨by decide, by decide⟩ (nf_rcv K hw 19 7 rfl rfl) rfl nl_M_look rfl d_M_picture_140) (c_M_look l hfl x9) nw_1237 nw_9 rfl ⟨by decide, by decide⟩ (Nat.le_of_ble_eq_true rfl) hl.1 ⟨Nat.le_of_ble_eq_true rfl, Nat.le_of_ble_eq_true rfl⟩ h (fun _ _ h => h.elim) (fun r1 M2 H locs h hw => ?_)
        refine W.eq (g2 := F0 m 143 ls [.int r1]) rfl ?_
        refine nf_callW (ex := (fun _ _ => False)) (As := [.int r1]) (st0 := [.int r1]) (rest := []) K hw (nf_invS hx hb K.2.2.2.1 (nf_Kg K nw_1238) (nf_Kg K nw_1239) (nf_Kg K nw_9) (nf_Kg K nw_1240) ⟨by decide, by decide⟩ rfl nl_M_isPart rfl d_M_picture_143) (c_M_isPart l hfl r1) nw_1240 nw_9 rfl ⟨by decide, by decide⟩ (Nat.le_of_ble_eq_true rfl) hl.1 ⟨Nat.le_of_ble_eq_true rfl, Nat.le_of_ble_eq_true rfl⟩ h (fun _ _ h => h.elim) (fun r3 M4 H locs h hw => ?_)
        refine W.eq (g2 := F0 m 146 ls [.int r3]) rfl ?_
        refine nf_if_ne hx hb d_M_picture_146 (tgt := 164) (by decide) (fun hc => ?_) (fun hc => ?_)
        · have h := h.1 hc
          refine lv_aload_n hx hb d_M_picture_149 rfl (lv_at hl 0 rfl) ?_
          refine lv_iload hx hb d_M_picture_150 (lv_at hl 8 rfl) ?_
          refine nf_callW (ex := (fun _ _ => False)) (As := [.ref (a 19), .int x9]) (st0 := [.int x9, .ref (a 19)]) (rest := []) K hw (nf_invV hx hb K.2.2.2.1 (nf_Kg K nw_1234) (nf_Kg K nw_1236) (nf_Kg K nx_M_look) (nf_Kg K nw_1237) ⟨by decide, by decide⟩ (nf_rcv K hw 19 7 rfl rfl) rfl nl_M_look rfl d_M_picture_152) (c_M_look l hfl x9) nw_1237 nw_9 rfl ⟨by decide, by decide⟩ (Nat.le_of_ble_eq_true rfl) hl.1 ⟨Nat.le_of_ble_eq_true rfl, Nat.le_of_ble_eq_true rfl⟩ h (fun _ _ h => h.elim) (fun r5 M6 H locs h hw => ?_)
          refine W.eq (g2 := F0 m 155 ls [.int r5]) rfl ?_
          refine lv_bipush (v := (46 : Int32)) hx hb d_M_picture_155 (by decide) ?_
          refine nf_ic_eq hx hb d_M_picture_157 (tgt := 164) (by decide) (fun hc => ?_) (fun hc => ?_)
          · have h := h.1 hc
            exact w_M_picture_164 hfl K (fun x1 x2 x3 x5 x6 x7 x8 x9 z => B_M_picture_123 post n x1 x2 x3 x5 x6 x7 x8 x9 z) (fun x1 x2 x3 x5 x6 x7 x8 x9 z H locs ls hh hll hww => ih x1 x2 x3 x5 x6 x7 x8 x9 z H locs ls hh hll hww) x1 x2 x3 x5 x6 x8 x9 M6 _ _ _ h (lv_sub hl [0, 1, 2, 3, 4, 5, 7, 8] rfl) hw
          · have h := h.2 hc
            refine lv_iconst (v := (1 : Int32)) hx hb d_M_picture_160 (by decide) ?_
            refine lv_goto hx hb d_M_picture_161 (tgt := 165) (by decide) ?_
            exact w_M_picture_165 hfl K (fun x1 x2 x3 x5 x6 x7 x8 x9 z => B_M_picture_123 post n x1 x2 x3 x5 x6 x7 x8 x9 z) (fun x1 x2 x3 x5 x6 x7 x8 x9 z H locs ls hh hll hww => ih x1 x2 x3 x5 x6 x7 x8 x9 z H locs ls hh hll hww) x1 x2 x3 x5 x6 x8 x9 (1 : Int32) M6 _ _ _ h (lv_sub hl [0, 1, 2, 3, 4, 5, 7, 8] rfl) hw
        · have h := h.2 hc
          exact w_M_picture_164 hfl K (fun x1 x2 x3 x5 x6 x7 x8 x9 z => B_M_picture_123 post n x1 x2 x3 x5 x6 x7 x8 x9 z) (fun x1 x2 x3 x5 x6 x7 x8 x9 z H locs ls hh hll hww => ih x1 x2 x3 x5 x6 x7 x8 x9 z H locs ls hh hll hww) x1 x2 x3 x5 x6 x8 x9 M4 _ _ _ h (lv_sub hl [0, 1, 2, 3, 4, 5, 7, 8] rfl) hw
    · have h := h.2 hc
      refine lv_iload hx hb d_M_picture_196 (lv_at hl 6 rfl) ?_
      refine nf_if_ne hx hb d_M_picture_198 (tgt := 208) (by decide) (fun hc => ?_) (fun hc => ?_)
      · have h := h.1 hc
        refine lv_aload_n hx hb d_M_picture_201 rfl (lv_at hl 0 rfl) ?_
        refine lv_iconst (v := (3 : Int32)) hx hb d_M_picture_202 (by decide) ?_
        refine nf_put (M' := ms_I M 19 0 (3 : Int32)) K hw 19 7 0 nw_931 rfl rfl rfl ni_M ny_M nq_M nn_M (by decide) rfl rfl rfl rfl (Nat.le_of_ble_eq_true rfl) d_M_picture_203 (fun H locs hw => ?_)
        obtain ⟨M7, eM7⟩ : ∃ z, z = ms_I M 19 0 (3 : Int32) := ⟨_, rfl⟩
        rw [← eM7] at hw
        have h := h M7 eM7
        refine lv_iconst (v := (0 : Int32)) hx hb d_M_picture_206 (by decide) ?_
        exact nf_iret K hw d_M_picture_207 rfl (Nat.le_of_ble_eq_true rfl) (Nat.le_of_ble_eq_true rfl) (r := (0 : Int32)) rfl h
      · have h := h.2 hc
        refine lv_aload_n hx hb d_M_picture_208 rfl (lv_at hl 0 rfl) ?_
        refine lv_iload_n hx hb d_M_picture_209 rfl (lv_at hl 1 rfl) ?_
        refine lv_iconst (v := (0 : Int32)) hx hb d_M_picture_210 (by decide) ?_
        refine nf_callW (ex := (fun _ _ => False)) (As := [.ref (a 19), .int x1, .int (0 : Int32)]) (st0 := [.int (0 : Int32), .int x1, .ref (a 19)]) (rest := []) K hw (nf_invV hx hb K.2.2.2.1 (nf_Kg K nw_1172) (nf_Kg K nw_1174) (nf_Kg K nx_M_castTo) (nf_Kg K nw_1175) ⟨by decide, by decide⟩ (nf_rcv K hw 19 7 rfl rfl) rfl nl_M_castTo rfl d_M_picture_211) (c_M_castTo l hfl x1 (0 : Int32)) nw_1175 nw_9 rfl ⟨by decide, by decide⟩ (Nat.le_of_ble_eq_true rfl) hl.1 ⟨Nat.le_of_ble_eq_true rfl, Nat.le_of_ble_eq_true rfl⟩ h (fun _ _ h => h.elim) (fun r8 M9 H locs h hw => ?_)
        refine W.eq (g2 := F0 m 214 ls []) rfl ?_
        refine lv_aload_n hx hb d_M_picture_214 rfl (lv_at hl 0 rfl) ?_
        refine nf_get (v := .int (mg_I M9 19 9)) K hw 19 7 9 nw_940 rfl rfl ni_M (by decide) rfl rfl d_M_picture_215 ?_
        refine nf_if_ne hx hb d_M_picture_218 (tgt := 242) (by decide) (fun hc => ?_) (fun hc => ?_)
        · have h := h.1 hc
          refine lv_iload hx hb d_M_picture_221 (lv_at hl 7 rfl) ?_
          refine nf_if_eq hx hb d_M_picture_223 (tgt := 242) (by decide) (fun hc => ?_) (fun hc => ?_)
          · have h := h.1 hc
            exact w_M_picture_242 hfl K x2 x3 x5 x6 M9 _ _ _ h (lv_sub hl [0, 2, 3, 4, 5] rfl) hw
          · have h := h.2 hc
            refine lv_aload_n hx hb d_M_picture_226 rfl (lv_at hl 0 rfl) ?_
            refine lv_aload_n hx hb d_M_picture_227 rfl (lv_at hl 0 rfl) ?_
            refine nf_get (v := .long (mg_L M9 19 10)) K hw 19 7 10 nw_941 rfl rfl ni_M (by decide) rfl rfl d_M_picture_228 ?_
            refine lv_aload_n hx hb d_M_picture_231 rfl (lv_at hl 0 rfl) ?_
            refine nf_get (v := .int (mg_I M9 19 11)) K hw 19 7 11 nw_942 rfl rfl ni_M (by decide) rfl rfl d_M_picture_232 ?_
            refine lv_ldc2 (v := (100 : Int64)) hx hb K.2.2.2.1 (nf_Kg K nw_1245) d_M_picture_235 ?_
            refine lv_iconst (v := (0 : Int32)) hx hb d_M_picture_238 (by decide) ?_
            refine nf_callW (ex := (fun _ _ => False)) (As := [.ref (a 19), .long (mg_L M9 19 10), .int (mg_I M9 19 11), .long (100 : Int64), .int (0 : Int32)]) (st0 := [.int (0 : Int32), .long (100 : Int64), .int (mg_I M9 19 11), .long (mg_L M9 19 10), .ref (a 19)]) (rest := []) K hw (nf_invV hx hb K.2.2.2.1 (nf_Kg K nw_1131) (nf_Kg K nw_1133) (nf_Kg K nx_M_product) (nf_Kg K nw_1134) ⟨by decide, by decide⟩ (nf_rcv K hw 19 7 rfl rfl) rfl nl_M_product rfl d_M_picture_239) (c_M_product l hfl (mg_L M9 19 10) (mg_I M9 19 11) (100 : Int64) (0 : Int32)) nw_1134 nw_9 rfl ⟨by decide, by decide⟩ (Nat.le_of_ble_eq_true rfl) hl.1 ⟨Nat.le_of_ble_eq_true rfl, Nat.le_of_ble_eq_true rfl⟩ h (fun _ _ h => h.elim) (fun r10 M11 H locs h hw => ?_)
            refine W.eq (g2 := F0 m 242 ls []) rfl ?_
            exact w_M_picture_242 hfl K x2 x3 x5 x6 M11 _ _ _ h (lv_sub hl [0, 2, 3, 4, 5] rfl) hw
        · have h := h.2 hc
          exact w_M_picture_242 hfl K x2 x3 x5 x6 M9 _ _ _ h (lv_sub hl [0, 2, 3, 4, 5] rfl) hw
theorem w_M_picture_106 {post : Int32 → nf_M → Prop} (hfl : l.flags = flags0) (K : nf_K p s m args meth c "NumberForgeModel" nb_M_picture 10 (some FieldType.int) D a sz) : ∀ (x1 : Int32) (x2 : Int32) (x3 : Int32) (x5 : Int32) (xy0 : Int32) (M : nf_M) (H : Heap) (locs : List Loc) (ls : Array Slot), B_M_picture_106 post x1 x2 x3 x5 xy0 M → lv_has ls 10 [(0, .ref (a 19)), (1, .int x1), (2, .int x2), (3, .int x3), (5, .int x5)] → nf_W D a s sz H locs M → W p l e rm_M_picture s m args below meth c H locs 0 0 (nf_MQ below (nf_Q nf_jI D a post ex (nf_A a sz)) args s rm_M_picture.cells rm_M_picture.slots (nf_A a sz)) (F0 m 106 ls [.int xy0]) := by
  have hx := K.1
  have hb := K.2.1
  intro x1 x2 x3 x5 xy0 M H locs ls h hl hw
  refine lv_istore (lv' := [(6, .int xy0), (0, .ref (a 19)), (1, .int x1), (2, .int x2), (3, .int x3), (5, .int x5)]) hx hb d_M_picture_106 hl (by decide) rfl (fun ls hl => ?_)
  refine lv_aload_n hx hb d_M_picture_108 rfl (lv_at hl 1 rfl) ?_
  refine lv_iload_n hx hb d_M_picture_109 rfl (lv_at hl 3 rfl) ?_
  refine lv_iload_n hx hb d_M_picture_110 rfl (lv_at hl 4 rfl) ?_
  refine nf_callW (ex := (fun _ _ => False)) (As := [.ref (a 19), .int x2, .int x3]) (st0 := [.int x3, .int x2, .ref (a 19)]) (rest := []) K hw (nf_invV hx hb K.2.2.2.1 (nf_Kg K nw_1241) (nf_Kg K nw_1243) (nf_Kg K nx_M_isWhole) (nf_Kg K nw_1244) ⟨by decide, by decide⟩ (nf_rcv K hw 19 7 rfl rfl) rfl nl_M_isWhole rfl d_M_picture_111) (c_M_isWhole l hfl x2 x3) nw_1244 nw_9 rfl ⟨by decide, by decide⟩ (Nat.le_of_ble_eq_true rfl) hl.1 ⟨Nat.le_of_ble_eq_true rfl, Nat.le_of_ble_eq_true rfl⟩ h (fun _ _ h => h.elim) (fun r1 M2 H locs h hw => ?_)
  refine W.eq (g2 := F0 m 114 ls [.int r1]) rfl ?_
  refine lv_istore (lv' := [(7, .int r1), (6, .int xy0), (0, .ref (a 19)), (1, .int x1), (2, .int x2), (3, .int x3), (5, .int x5)]) hx hb d_M_picture_114 hl (by decide) rfl (fun ls hl => ?_)
  refine lv_iconst (v := (0 : Int32)) hx hb d_M_picture_116 (by decide) ?_
  refine lv_istore (lv' := [(8, .int (0 : Int32)), (7, .int r1), (6, .int xy0), (0, .ref (a 19)), (1, .int x1), (2, .int x2), (3, .int x3), (5, .int x5)]) hx hb d_M_picture_117 hl (by decide) rfl (fun ls hl => ?_)
  refine lv_iload hx hb d_M_picture_119 (lv_at hl 2 rfl) ?_
  refine lv_istore (lv' := [(9, .int xy0), (8, .int (0 : Int32)), (7, .int r1), (6, .int xy0), (0, .ref (a 19)), (1, .int x1), (2, .int x2), (3, .int x3), (5, .int x5)]) hx hb d_M_picture_121 hl (by decide) rfl (fun ls hl => ?_)
  obtain ⟨n, h⟩ := h
  exact w_M_picture_123 hfl K n x1 x2 x3 x5 xy0 r1 (0 : Int32) xy0 M2 _ _ _ h (lv_sub hl [4, 5, 6, 7, 8, 3, 2, 1, 0] rfl) hw
theorem w_M_picture_87 {post : Int32 → nf_M → Prop} (hfl : l.flags = flags0) (K : nf_K p s m args meth c "NumberForgeModel" nb_M_picture 10 (some FieldType.int) D a sz) : ∀ (x1 : Int32) (x2 : Int32) (x3 : Int32) (x4 : Int32) (xy0 : Int32) (M : nf_M) (H : Heap) (locs : List Loc) (ls : Array Slot), B_M_picture_87 post x1 x2 x3 x4 xy0 M → lv_has ls 10 [(0, .ref (a 19)), (1, .int x1), (2, .int x2), (3, .int x3), (4, .int x4)] → nf_W D a s sz H locs M → W p l e rm_M_picture s m args below meth c H locs 0 0 (nf_MQ below (nf_Q nf_jI D a post ex (nf_A a sz)) args s rm_M_picture.cells rm_M_picture.slots (nf_A a sz)) (F0 m 87 ls [.int xy0]) := by
  have hx := K.1
  have hb := K.2.1
  intro x1 x2 x3 x4 xy0 M H locs ls h hl hw
  refine lv_istore (lv' := [(5, .int xy0), (0, .ref (a 19)), (1, .int x1), (2, .int x2), (3, .int x3), (4, .int x4)]) hx hb d_M_picture_87 hl (by decide) rfl (fun ls hl => ?_)
  refine lv_iload hx hb d_M_picture_89 (lv_at hl 5 rfl) ?_
  refine nf_if_eq hx hb d_M_picture_91 (tgt := 105) (by decide) (fun hc => ?_) (fun hc => ?_)
  · have h := h.1 hc
    refine lv_iload_n hx hb d_M_picture_105 rfl (lv_at hl 4 rfl) ?_
    exact w_M_picture_106 hfl K x1 x2 x3 xy0 x3 M _ _ _ h (lv_sub hl [1, 2, 3, 4, 0] rfl) hw
  · have h := h.2 hc
    refine lv_aload_n hx hb d_M_picture_94 rfl (lv_at hl 1 rfl) ?_
    refine lv_iload hx hb d_M_picture_95 (lv_at hl 0 rfl) ?_
    refine lv_bipush (v := (35 : Int32)) hx hb d_M_picture_97 (by decide) ?_
    refine nf_callW (ex := (fun _ _ => False)) (As := [.ref (a 19), .int xy0, .int (35 : Int32)]) (st0 := [.int (35 : Int32), .int xy0, .ref (a 19)]) (rest := []) K hw (nf_invV hx hb K.2.2.2.1 (nf_Kg K nw_1230) (nf_Kg K nw_1232) (nf_Kg K nx_M_run) (nf_Kg K nw_1233) ⟨by decide, by decide⟩ (nf_rcv K hw 19 7 rfl rfl) rfl nl_M_run rfl d_M_picture_99) (c_M_run l hfl xy0 (35 : Int32)) nw_1233 nw_9 rfl ⟨by decide, by decide⟩ (Nat.le_of_ble_eq_true rfl) hl.1 ⟨Nat.le_of_ble_eq_true rfl, Nat.le_of_ble_eq_true rfl⟩ h (fun _ _ h => h.elim) (fun r1 M2 H locs h hw => ?_)
    refine W.eq (g2 := F0 m 102 ls [.int r1]) rfl ?_
    refine lv_goto hx hb d_M_picture_102 (tgt := 106) (by decide) ?_
    exact w_M_picture_106 hfl K x1 x2 x3 xy0 r1 M2 _ _ _ h (lv_sub hl [1, 2, 3, 4, 0] rfl) hw
theorem w_M_picture_67 {post : Int32 → nf_M → Prop} (hfl : l.flags = flags0) (K : nf_K p s m args meth c "NumberForgeModel" nb_M_picture 10 (some FieldType.int) D a sz) : ∀ (x1 : Int32) (x2 : Int32) (x3 : Int32) (xy0 : Int32) (M : nf_M) (H : Heap) (locs : List Loc) (ls : Array Slot), B_M_picture_67 post x1 x2 x3 xy0 M → lv_has ls 10 [(0, .ref (a 19)), (1, .int x1), (2, .int x2), (3, .int x3)] → nf_W D a s sz H locs M → W p l e rm_M_picture s m args below meth c H locs 0 0 (nf_MQ below (nf_Q nf_jI D a post ex (nf_A a sz)) args s rm_M_picture.cells rm_M_picture.slots (nf_A a sz)) (F0 m 67 ls [.int xy0]) := by
  have hx := K.1
  have hb := K.2.1
  intro x1 x2 x3 xy0 M H locs ls h hl hw
  refine lv_istore (lv' := [(4, .int xy0), (0, .ref (a 19)), (1, .int x1), (2, .int x2), (3, .int x3)]) hx hb d_M_picture_67 hl (by decide) rfl (fun ls hl => ?_)
  refine lv_iload hx hb d_M_picture_69 (lv_at hl 0 rfl) ?_
  refine nf_if_eq hx hb d_M_picture_71 (tgt := 86) (by decide) (fun hc => ?_) (fun hc => ?_)
  · have h := h.1 hc
    refine lv_iload_n hx hb d_M_picture_86 rfl (lv_at hl 4 rfl) ?_
    exact w_M_picture_87 hfl K x1 x2 x3 xy0 x3 M _ _ _ h (lv_sub hl [1, 2, 3, 4, 0] rfl) hw
  · have h := h.2 hc
    refine lv_aload_n hx hb d_M_picture_74 rfl (lv_at hl 1 rfl) ?_
    refine lv_iload_n hx hb d_M_picture_75 rfl (lv_at hl 4 rfl) ?_
    refine lv_iconst (v := (1 : Int32)) hx hb d_M_picture_76 (by decide) ?_
    refine lv_iadd hx hb d_M_picture_77 ?_
    refine lv_bipush (v := (48 : Int32)) hx hb d_M_picture_78 (by decide) ?_
    refine nf_callW (ex := (fun _ _ => False)) (As := [.ref (a 19), .int (x3 + (1 : Int32)), .int (48 : Int32)]) (st0 := [.int (48 : Int32), .int (x3 + (1 : Int32)), .ref (a 19)]) (rest := []) K hw (nf_invV hx hb K.2.2.2.1 (nf_Kg K nw_1230) (nf_Kg K nw_1232) (nf_Kg K nx_M_run) (nf_Kg K nw_1233) ⟨by decide, by decide⟩ (nf_rcv K hw 19 7 rfl rfl) rfl nl_M_run rfl d_M_picture_80) (c_M_run l hfl (x3 + (1 : Int32)) (48 : Int32)) nw_1233 nw_9 rfl ⟨by decide, by decide⟩ (Nat.le_of_ble_eq_true rfl) hl.1 ⟨Nat.le_of_ble_eq_true rfl, Nat.le_of_ble_eq_true rfl⟩ h (fun _ _ h => h.elim) (fun r1 M2 H locs h hw => ?_)
    refine W.eq (g2 := F0 m 83 ls [.int r1]) rfl ?_
    refine lv_goto hx hb d_M_picture_83 (tgt := 87) (by decide) ?_
    exact w_M_picture_87 hfl K x1 x2 x3 xy0 r1 M2 _ _ _ h (lv_sub hl [1, 2, 3, 4, 0] rfl) hw
theorem w_M_picture_26 {post : Int32 → nf_M → Prop} (hfl : l.flags = flags0) (K : nf_K p s m args meth c "NumberForgeModel" nb_M_picture 10 (some FieldType.int) D a sz) : ∀ (x1 : Int32) (xy0 : Int32) (M : nf_M) (H : Heap) (locs : List Loc) (ls : Array Slot), B_M_picture_26 post x1 xy0 M → lv_has ls 10 [(0, .ref (a 19)), (1, .int x1)] → nf_W D a s sz H locs M → W p l e rm_M_picture s m args below meth c H locs 0 0 (nf_MQ below (nf_Q nf_jI D a post ex (nf_A a sz)) args s rm_M_picture.cells rm_M_picture.slots (nf_A a sz)) (F0 m 26 ls [.int xy0, .ref (a 19)]) := by
  have hx := K.1
  have hb := K.2.1
  intro x1 xy0 M H locs ls h hl hw
  refine nf_put (M' := ms_I M 19 0 xy0) K hw 19 7 0 nw_931 rfl rfl rfl ni_M ny_M nq_M nn_M (by decide) rfl rfl rfl rfl (Nat.le_of_ble_eq_true rfl) d_M_picture_26 (fun H locs hw => ?_)
  obtain ⟨M1, eM1⟩ : ∃ z, z = ms_I M 19 0 xy0 := ⟨_, rfl⟩
  rw [← eM1] at hw
  have h := h M1 eM1
  refine lv_aload_n hx hb d_M_picture_29 rfl (lv_at hl 0 rfl) ?_
  refine nf_get (v := .int (mg_I M1 19 0)) K hw 19 7 0 nw_931 rfl rfl ni_M (by decide) rfl rfl d_M_picture_30 ?_
  refine nf_if_le hx hb d_M_picture_33 (tgt := 38) (by decide) (fun hc => ?_) (fun hc => ?_)
  · have h := h.1 hc
    refine lv_iconst (v := (0 : Int32)) hx hb d_M_picture_36 (by decide) ?_
    exact nf_iret K hw d_M_picture_37 rfl (Nat.le_of_ble_eq_true rfl) (Nat.le_of_ble_eq_true rfl) (r := (0 : Int32)) rfl h
  · have h := h.2 hc
    refine lv_aload_n hx hb d_M_picture_38 rfl (lv_at hl 0 rfl) ?_
    refine lv_iconst (v := (0 : Int32)) hx hb d_M_picture_39 (by decide) ?_
    refine lv_iconst (v := (0 : Int32)) hx hb d_M_picture_40 (by decide) ?_
    refine nf_callW (ex := (fun _ _ => False)) (As := [.ref (a 19), .int (0 : Int32), .int (0 : Int32)]) (st0 := [.int (0 : Int32), .int (0 : Int32), .ref (a 19)]) (rest := []) K hw (nf_invV hx hb K.2.2.2.1 (nf_Kg K nw_1230) (nf_Kg K nw_1232) (nf_Kg K nx_M_run) (nf_Kg K nw_1233) ⟨by decide, by decide⟩ (nf_rcv K hw 19 7 rfl rfl) rfl nl_M_run rfl d_M_picture_41) (c_M_run l hfl (0 : Int32) (0 : Int32)) nw_1233 nw_9 rfl ⟨by decide, by decide⟩ (Nat.le_of_ble_eq_true rfl) hl.1 ⟨Nat.le_of_ble_eq_true rfl, Nat.le_of_ble_eq_true rfl⟩ h (fun _ _ h => h.elim) (fun r2 M3 H locs h hw => ?_)
    refine W.eq (g2 := F0 m 44 ls [.int r2]) rfl ?_
    refine lv_istore_n (lv' := [(2, .int r2), (0, .ref (a 19)), (1, .int x1)]) hx hb d_M_picture_44 rfl hl (by decide) rfl (fun ls hl => ?_)
    refine lv_aload_n hx hb d_M_picture_45 rfl (lv_at hl 1 rfl) ?_
    refine lv_iload_n hx hb d_M_picture_46 rfl (lv_at hl 0 rfl) ?_
    refine lv_iconst (v := (1 : Int32)) hx hb d_M_picture_47 (by decide) ?_
    refine nf_callW (ex := (fun _ _ => False)) (As := [.ref (a 19), .int r2, .int (1 : Int32)]) (st0 := [.int (1 : Int32), .int r2, .ref (a 19)]) (rest := []) K hw (nf_invV hx hb K.2.2.2.1 (nf_Kg K nw_1230) (nf_Kg K nw_1232) (nf_Kg K nx_M_run) (nf_Kg K nw_1233) ⟨by decide, by decide⟩ (nf_rcv K hw 19 7 rfl rfl) rfl nl_M_run rfl d_M_picture_48) (c_M_run l hfl r2 (1 : Int32)) nw_1233 nw_9 rfl ⟨by decide, by decide⟩ (Nat.le_of_ble_eq_true rfl) hl.1 ⟨Nat.le_of_ble_eq_true rfl, Nat.le_of_ble_eq_true rfl⟩ h (fun _ _ h => h.elim) (fun r4 M5 H locs h hw => ?_)
    refine W.eq (g2 := F0 m 51 ls [.int r4]) rfl ?_
    refine lv_istore_n (lv' := [(3, .int r4), (2, .int r2), (0, .ref (a 19)), (1, .int x1)]) hx hb d_M_picture_51 rfl hl (by decide) rfl (fun ls hl => ?_)
    refine lv_aload_n hx hb d_M_picture_52 rfl (lv_at hl 2 rfl) ?_
    refine lv_iload_n hx hb d_M_picture_53 rfl (lv_at hl 0 rfl) ?_
    refine nf_callW (ex := (fun _ _ => False)) (As := [.ref (a 19), .int r4]) (st0 := [.int r4, .ref (a 19)]) (rest := []) K hw (nf_invV hx hb K.2.2.2.1 (nf_Kg K nw_1234) (nf_Kg K nw_1236) (nf_Kg K nx_M_look) (nf_Kg K nw_1237) ⟨by decide, by decide⟩ (nf_rcv K hw 19 7 rfl rfl) rfl nl_M_look rfl d_M_picture_54) (c_M_look l hfl r4) nw_1237 nw_9 rfl ⟨by decide, by decide⟩ (Nat.le_of_ble_eq_true rfl) hl.1 ⟨Nat.le_of_ble_eq_true rfl, Nat.le_of_ble_eq_true rfl⟩ h (fun _ _ h => h.elim) (fun r6 M7 H locs h hw => ?_)
    refine W.eq (g2 := F0 m 57 ls [.int r6]) rfl ?_
    refine lv_bipush (v := (46 : Int32)) hx hb d_M_picture_57 (by decide) ?_
    refine nf_ic_ne hx hb d_M_picture_59 (tgt := 66) (by decide) (fun hc => ?_) (fun hc => ?_)
    · have h := h.1 hc
      refine lv_iconst (v := (1 : Int32)) hx hb d_M_picture_62 (by decide) ?_
      refine lv_goto hx hb d_M_picture_63 (tgt := 67) (by decide) ?_
      exact w_M_picture_67 hfl K x1 r2 r4 (1 : Int32) M7 _ _ _ h (lv_sub hl [2, 3, 1, 0] rfl) hw
    · have h := h.2 hc
      refine lv_iconst (v := (0 : Int32)) hx hb d_M_picture_66 (by decide) ?_
      exact w_M_picture_67 hfl K x1 r2 r4 (0 : Int32) M7 _ _ _ h (lv_sub hl [2, 3, 1, 0] rfl) hw
theorem c_M_picture (l : Launch) (hfl : l.flags = flags0) (x1 : Int32) : nf_C nf_jI l nm_M_picture nb_M_picture 10 (some FieldType.int) rm_M_picture (fun a => [.ref (a 19), .int x1]) (fun M post ex => P_M_picture x1 M post) := by
  refine nf_start (plainFor_of_name (by decide +kernel)) (fun a => Nat.le_of_ble_eq_true rfl) ?_
  intro D a sz M post ex p e s m below meth c ls h K hl hw
  have hx := K.1
  have hb := K.2.1
  have hl : lv_has ls 10 [(0, .ref (a 19)), (1, .int x1)] := hl
  refine lv_aload_n hx hb d_M_picture_0 rfl (lv_at hl 0 rfl) ?_
  refine lv_iload_n hx hb d_M_picture_1 rfl (lv_at hl 1 rfl) ?_
  refine nf_callW (ex := (fun _ _ => False)) (As := [.int x1]) (st0 := [.int x1, .ref (a 19)]) (rest := [.ref (a 19)]) K hw (nf_invS hx hb K.2.2.2.1 (nf_Kg K nw_1008) (nf_Kg K nw_1009) (nf_Kg K nw_9) (nf_Kg K nw_1010) ⟨by decide, by decide⟩ rfl nl_M_isRegister rfl d_M_picture_2) (c_M_isRegister l hfl x1) nw_1010 nw_9 rfl ⟨by decide, by decide⟩ (Nat.le_of_ble_eq_true rfl) hl.1 ⟨Nat.le_of_ble_eq_true rfl, Nat.le_of_ble_eq_true rfl⟩ h (fun _ _ h => h.elim) (fun r1 M2 H locs h hw => ?_)
  refine W.eq (g2 := F0 m 5 ls [.int r1, .ref (a 19)]) rfl ?_
  refine nf_if_ne hx hb d_M_picture_5 (tgt := 12) (by decide) (fun hc => ?_) (fun hc => ?_)
  · have h := h.1 hc
    refine lv_iconst (v := (1 : Int32)) hx hb d_M_picture_8 (by decide) ?_
    refine lv_goto hx hb d_M_picture_9 (tgt := 26) (by decide) ?_
    exact w_M_picture_26 hfl K x1 (1 : Int32) M2 _ _ _ h (lv_sub hl [0, 1] rfl) hw
  · have h := h.2 hc
    refine lv_aload_n hx hb d_M_picture_12 rfl (lv_at hl 0 rfl) ?_
    refine nf_get (v := .ref (a 22)) K hw 19 7 5 nw_936 rfl rfl ni_M (by decide) rfl rfl d_M_picture_13 ?_
    refine lv_iload_n hx hb d_M_picture_16 rfl (lv_at hl 1 rfl) ?_
    obtain ⟨g3, h⟩ := h
    refine nf_iald K hw 22 5 rfl rfl g3 d_M_picture_17 ?_
    refine nf_if_ge hx hb d_M_picture_18 (tgt := 25) (by decide) (fun hc => ?_) (fun hc => ?_)
    · have h := h.1 hc
      refine lv_iconst (v := (2 : Int32)) hx hb d_M_picture_21 (by decide) ?_
      refine lv_goto hx hb d_M_picture_22 (tgt := 26) (by decide) ?_
      exact w_M_picture_26 hfl K x1 (2 : Int32) M2 _ _ _ h (lv_sub hl [0, 1] rfl) hw
    · have h := h.2 hc
      refine lv_iconst (v := (0 : Int32)) hx hb d_M_picture_25 (by decide) ?_
      exact w_M_picture_26 hfl K x1 (0 : Int32) M2 _ _ _ h (lv_sub hl [0, 1] rfl) hw
theorem d_M_addLetters_0 : decode nb_M_addLetters 0 = .ok (.aload_n 0, 1) := by decide +kernel
theorem d_M_addLetters_1 : decode nb_M_addLetters 1 = .ok (.iconst 0, 1) := by decide +kernel
theorem d_M_addLetters_2 : decode nb_M_addLetters 2 = .ok (.putfield 62, 3) := by decide +kernel
theorem d_M_addLetters_5 : decode nb_M_addLetters 5 = .ok (.lload_n 1, 1) := by decide +kernel
theorem d_M_addLetters_6 : decode nb_M_addLetters 6 = .ok (.lstore 4, 2) := by decide +kernel
theorem d_M_addLetters_8 : decode nb_M_addLetters 8 = .ok (.lload 4, 2) := by decide +kernel
theorem d_M_addLetters_10 : decode nb_M_addLetters 10 = .ok (.lconst 0, 1) := by decide +kernel
theorem d_M_addLetters_11 : decode nb_M_addLetters 11 = .ok (.lcmp, 1) := by decide +kernel
theorem d_M_addLetters_12 : decode nb_M_addLetters 12 = .ok (.ifCond .le 44, 3) := by decide +kernel
theorem d_M_addLetters_15 : decode nb_M_addLetters 15 = .ok (.aload_n 0, 1) := by decide +kernel
theorem d_M_addLetters_16 : decode nb_M_addLetters 16 = .ok (.getfield 30, 3) := by decide +kernel
theorem d_M_addLetters_19 : decode nb_M_addLetters 19 = .ok (.aload_n 0, 1) := by decide +kernel
theorem d_M_addLetters_20 : decode nb_M_addLetters 20 = .ok (.getfield 62, 3) := by decide +kernel
theorem d_M_addLetters_23 : decode nb_M_addLetters 23 = .ok (.lload 4, 2) := by decide +kernel
theorem d_M_addLetters_25 : decode nb_M_addLetters 25 = .ok (.lconst 1, 1) := by decide +kernel
theorem d_M_addLetters_26 : decode nb_M_addLetters 26 = .ok (.lsub, 1) := by decide +kernel
theorem d_M_addLetters_27 : decode nb_M_addLetters 27 = .ok (.ldc2_w 308, 3) := by decide +kernel
theorem d_M_addLetters_30 : decode nb_M_addLetters 30 = .ok (.lrem, 1) := by decide +kernel
theorem d_M_addLetters_31 : decode nb_M_addLetters 31 = .ok (.l2i, 1) := by decide +kernel
theorem d_M_addLetters_32 : decode nb_M_addLetters 32 = .ok (.iastore, 1) := by decide +kernel
theorem d_M_addLetters_33 : decode nb_M_addLetters 33 = .ok (.lload 4, 2) := by decide +kernel
theorem d_M_addLetters_35 : decode nb_M_addLetters 35 = .ok (.lconst 1, 1) := by decide +kernel
theorem d_M_addLetters_36 : decode nb_M_addLetters 36 = .ok (.lsub, 1) := by decide +kernel
theorem d_M_addLetters_37 : decode nb_M_addLetters 37 = .ok (.ldc2_w 308, 3) := by decide +kernel
theorem d_M_addLetters_40 : decode nb_M_addLetters 40 = .ok (.ldiv, 1) := by decide +kernel
theorem d_M_addLetters_41 : decode nb_M_addLetters 41 = .ok (.lstore 4, 2) := by decide +kernel
theorem d_M_addLetters_43 : decode nb_M_addLetters 43 = .ok (.aload_n 0, 1) := by decide +kernel
theorem d_M_addLetters_44 : decode nb_M_addLetters 44 = .ok (.dup, 1) := by decide +kernel
theorem d_M_addLetters_45 : decode nb_M_addLetters 45 = .ok (.getfield 62, 3) := by decide +kernel
theorem d_M_addLetters_48 : decode nb_M_addLetters 48 = .ok (.iconst 1, 1) := by decide +kernel
theorem d_M_addLetters_49 : decode nb_M_addLetters 49 = .ok (.iadd, 1) := by decide +kernel
theorem d_M_addLetters_50 : decode nb_M_addLetters 50 = .ok (.putfield 62, 3) := by decide +kernel
theorem d_M_addLetters_53 : decode nb_M_addLetters 53 = .ok (.goto (-45), 3) := by decide +kernel
theorem d_M_addLetters_56 : decode nb_M_addLetters 56 = .ok (.aload_n 0, 1) := by decide +kernel
theorem d_M_addLetters_57 : decode nb_M_addLetters 57 = .ok (.getfield 62, 3) := by decide +kernel
theorem d_M_addLetters_60 : decode nb_M_addLetters 60 = .ok (.iconst 1, 1) := by decide +kernel
theorem d_M_addLetters_61 : decode nb_M_addLetters 61 = .ok (.isub, 1) := by decide +kernel
theorem d_M_addLetters_62 : decode nb_M_addLetters 62 = .ok (.istore 6, 2) := by decide +kernel
theorem d_M_addLetters_64 : decode nb_M_addLetters 64 = .ok (.iload 6, 2) := by decide +kernel
theorem d_M_addLetters_66 : decode nb_M_addLetters 66 = .ok (.ifCond .lt 22, 3) := by decide +kernel
theorem d_M_addLetters_69 : decode nb_M_addLetters 69 = .ok (.aload_n 0, 1) := by decide +kernel
theorem d_M_addLetters_70 : decode nb_M_addLetters 70 = .ok (.iload_n 3, 1) := by decide +kernel
theorem d_M_addLetters_71 : decode nb_M_addLetters 71 = .ok (.aload_n 0, 1) := by decide +kernel
theorem d_M_addLetters_72 : decode nb_M_addLetters 72 = .ok (.getfield 30, 3) := by decide +kernel
theorem d_M_addLetters_75 : decode nb_M_addLetters 75 = .ok (.iload 6, 2) := by decide +kernel
theorem d_M_addLetters_77 : decode nb_M_addLetters 77 = .ok (.iaload, 1) := by decide +kernel
theorem d_M_addLetters_78 : decode nb_M_addLetters 78 = .ok (.iadd, 1) := by decide +kernel
theorem d_M_addLetters_79 : decode nb_M_addLetters 79 = .ok (.invokevirtual 252, 3) := by decide +kernel
theorem d_M_addLetters_82 : decode nb_M_addLetters 82 = .ok (.iinc 6 (-1), 3) := by decide +kernel
theorem d_M_addLetters_85 : decode nb_M_addLetters 85 = .ok (.goto (-21), 3) := by decide +kernel
theorem d_M_addLetters_88 : decode nb_M_addLetters 88 = .ok (.return_, 1) := by decide +kernel
abbrev rm_M_addLetters : Room := ({ frames := 1, cells := 0, slots := 0, locals := 21 })
theorem w_M_addLetters_64 {post : Unit → nf_M → Prop} (hfl : l.flags = flags0) (K : nf_K p s m args meth c "NumberForgeModel" nb_M_addLetters 7 none D a sz) : ∀ (n : Nat) (x3 : Int32) (x6 : Int32) (M : nf_M) (H : Heap) (locs : List Loc) (ls : Array Slot), B_M_addLetters_64 post n x3 x6 M → lv_has ls 7 [(0, .ref (a 19)), (3, .int x3), (6, .int x6)] → nf_W D a s sz H locs M → W p l e rm_M_addLetters s m args below meth c H locs 0 0 (nf_MQ below (nf_Q nf_jN D a post ex (nf_A a sz)) args s rm_M_addLetters.cells rm_M_addLetters.slots (nf_A a sz)) (F0 m 64 ls []) := by
  have hx := K.1
  have hb := K.2.1
  intro n
  induction n with
  | zero => intro x3 x6 M H locs ls h hl hw; exact h.elim
  | succ n ih =>
    intro x3 x6 M H locs ls h hl hw
    refine lv_iload hx hb d_M_addLetters_64 (lv_at hl 2 rfl) ?_
    refine nf_if_lt hx hb d_M_addLetters_66 (tgt := 88) (by decide) (fun hc => ?_) (fun hc => ?_)
    · have h := h.1 hc
      exact nf_vret K hw d_M_addLetters_88 (Nat.le_of_ble_eq_true rfl) (Nat.le_of_ble_eq_true rfl) (r := ()) rfl h
    · have h := h.2 hc
      refine lv_aload_n hx hb d_M_addLetters_69 rfl (lv_at hl 0 rfl) ?_
      refine lv_iload_n hx hb d_M_addLetters_70 rfl (lv_at hl 1 rfl) ?_
      refine lv_aload_n hx hb d_M_addLetters_71 rfl (lv_at hl 0 rfl) ?_
      refine nf_get (v := .ref (a 26)) K hw 19 7 14 nw_945 rfl rfl ni_M (by decide) rfl rfl d_M_addLetters_72 ?_
      refine lv_iload hx hb d_M_addLetters_75 (lv_at hl 2 rfl) ?_
      obtain ⟨g1, h⟩ := h
      refine nf_iald K hw 26 9 rfl rfl g1 d_M_addLetters_77 ?_
      refine lv_iadd hx hb d_M_addLetters_78 ?_
      refine nf_callW (ex := (fun _ _ => False)) (As := [.ref (a 19), .int (x3 + (mg_I M 26 x6.toNatClampNeg))]) (st0 := [.int (x3 + (mg_I M 26 x6.toNatClampNeg)), .ref (a 19)]) (rest := []) K hw (nf_invV hx hb K.2.2.2.1 (nf_Kg K nw_1206) (nf_Kg K nw_1208) (nf_Kg K nx_M_add) (nf_Kg K nw_1209) ⟨by decide, by decide⟩ (nf_rcv K hw 19 7 rfl rfl) rfl nl_M_add rfl d_M_addLetters_79) (c_M_add l hfl (x3 + (mg_I M 26 x6.toNatClampNeg))) nw_1209 nw_9 rfl ⟨by decide, by decide⟩ (Nat.le_of_ble_eq_true rfl) hl.1 ⟨Nat.le_of_ble_eq_true rfl, Nat.le_of_ble_eq_true rfl⟩ h (fun _ _ h => h.elim) (fun r2 M3 H locs h hw => ?_)
      refine W.eq (g2 := F0 m 82 ls []) rfl ?_
      refine lv_iinc (k := 2) (v := x6 + (-1 : Int32)) (lv' := [(6, .int (x6 + (-1 : Int32))), (0, .ref (a 19)), (3, .int x3)]) hx hb d_M_addLetters_82 hl rfl (nf_inc (by decide)) (by decide) rfl (fun ls hl => ?_)
      refine lv_goto hx hb d_M_addLetters_85 (tgt := 64) (by decide) ?_
      exact ih x3 (x6 + (-1 : Int32)) M3 _ _ _ h (lv_sub hl [1, 2, 0] rfl) hw
theorem w_M_addLetters_8 {post : Unit → nf_M → Prop} (hfl : l.flags = flags0) (K : nf_K p s m args meth c "NumberForgeModel" nb_M_addLetters 7 none D a sz) : ∀ (n : Nat) (x3 : Int32) (x4 : Int64) (M : nf_M) (H : Heap) (locs : List Loc) (ls : Array Slot), B_M_addLetters_8 post n x3 x4 M → lv_has ls 7 [(0, .ref (a 19)), (3, .int x3), (4, .long x4)] → nf_W D a s sz H locs M → W p l e rm_M_addLetters s m args below meth c H locs 0 0 (nf_MQ below (nf_Q nf_jN D a post ex (nf_A a sz)) args s rm_M_addLetters.cells rm_M_addLetters.slots (nf_A a sz)) (F0 m 8 ls []) := by
  have hx := K.1
  have hb := K.2.1
  intro n
  induction n with
  | zero => intro x3 x4 M H locs ls h hl hw; exact h.elim
  | succ n ih =>
    intro x3 x4 M H locs ls h hl hw
    refine lv_lload hx hb d_M_addLetters_8 (lv_at hl 2 rfl) ?_
    refine lv_lconst (v := (0 : Int64)) hx hb d_M_addLetters_10 (by decide) ?_
    refine nf_lc_le hx hb d_M_addLetters_11 d_M_addLetters_12 (tgt := 56) (by decide) (fun hc => ?_) (fun hc => ?_)
    · have h := h.1 hc
      refine lv_aload_n hx hb d_M_addLetters_15 rfl (lv_at hl 0 rfl) ?_
      refine nf_get (v := .ref (a 26)) K hw 19 7 14 nw_945 rfl rfl ni_M (by decide) rfl rfl d_M_addLetters_16 ?_
      refine lv_aload_n hx hb d_M_addLetters_19 rfl (lv_at hl 0 rfl) ?_
      refine nf_get (v := .int (mg_I M 19 13)) K hw 19 7 13 nw_944 rfl rfl ni_M (by decide) rfl rfl d_M_addLetters_20 ?_
      refine lv_lload hx hb d_M_addLetters_23 (lv_at hl 2 rfl) ?_
      refine lv_lconst (v := (1 : Int64)) hx hb d_M_addLetters_25 (by decide) ?_
      refine lv_lsub hx hb d_M_addLetters_26 ?_
      refine lv_ldc2 (v := (26 : Int64)) hx hb K.2.2.2.1 (nf_Kg K nw_1266) d_M_addLetters_27 ?_
      refine lv_lrem hx hb d_M_addLetters_30 (by decide) ?_
      refine lv_l2i hx hb d_M_addLetters_31 rfl ?_
      refine lv_topi (fun t1 et1 => ?_)
      have h := h t1 et1
      obtain ⟨g2, h⟩ := h
      refine nf_iast (M' := ms_I M 26 (mg_I M 19 13).toNatClampNeg t1) K hw 26 9 rfl rfl g2 rfl d_M_addLetters_32 (fun H locs hw => ?_)
      obtain ⟨M3, eM3⟩ : ∃ z, z = ms_I M 26 (mg_I M 19 13).toNatClampNeg t1 := ⟨_, rfl⟩
      rw [← eM3] at hw
      have h := h M3 eM3
      refine lv_lload hx hb d_M_addLetters_33 (lv_at hl 2 rfl) ?_
      refine lv_lconst (v := (1 : Int64)) hx hb d_M_addLetters_35 (by decide) ?_
      refine lv_lsub hx hb d_M_addLetters_36 ?_
      refine lv_ldc2 (v := (26 : Int64)) hx hb K.2.2.2.1 (nf_Kg K nw_1266) d_M_addLetters_37 ?_
      refine lv_ldiv hx hb d_M_addLetters_40 (by decide) ?_
      refine lv_topl (fun t4 et4 => ?_)
      have h := h t4 et4
      refine lv_lstore (lv' := [(4, .long t4), (0, .ref (a 19)), (3, .int x3)]) hx hb d_M_addLetters_41 hl (by decide) rfl (fun ls hl => ?_)
      refine lv_aload_n hx hb d_M_addLetters_43 rfl (lv_at hl 1 rfl) ?_
      refine lv_dup hx hb d_M_addLetters_44 rfl ?_
      refine nf_get (v := .int (mg_I M3 19 13)) K hw 19 7 13 nw_944 rfl rfl ni_M (by decide) rfl rfl d_M_addLetters_45 ?_
      refine lv_iconst (v := (1 : Int32)) hx hb d_M_addLetters_48 (by decide) ?_
      refine lv_iadd hx hb d_M_addLetters_49 ?_
      refine lv_topi (fun t5 et5 => ?_)
      have h := h t5 et5
      refine nf_put (M' := ms_I M3 19 13 t5) K hw 19 7 13 nw_944 rfl rfl rfl ni_M ny_M nq_M nn_M (by decide) rfl rfl rfl rfl (Nat.le_of_ble_eq_true rfl) d_M_addLetters_50 (fun H locs hw => ?_)
      obtain ⟨M6, eM6⟩ : ∃ z, z = ms_I M3 19 13 t5 := ⟨_, rfl⟩
      rw [← eM6] at hw
      have h := h M6 eM6
      refine lv_goto hx hb d_M_addLetters_53 (tgt := 8) (by decide) ?_
      exact ih x3 t4 M6 _ _ _ h (lv_sub hl [1, 2, 0] rfl) hw
    · have h := h.2 hc
      refine lv_aload_n hx hb d_M_addLetters_56 rfl (lv_at hl 0 rfl) ?_
      refine nf_get (v := .int (mg_I M 19 13)) K hw 19 7 13 nw_944 rfl rfl ni_M (by decide) rfl rfl d_M_addLetters_57 ?_
      refine lv_iconst (v := (1 : Int32)) hx hb d_M_addLetters_60 (by decide) ?_
      refine lv_isub hx hb d_M_addLetters_61 ?_
      refine lv_topi (fun t7 et7 => ?_)
      have h := h t7 et7
      refine lv_istore (lv' := [(6, .int t7), (0, .ref (a 19)), (3, .int x3), (4, .long x4)]) hx hb d_M_addLetters_62 hl (by decide) rfl (fun ls hl => ?_)
      obtain ⟨n9, h⟩ := h
      exact w_M_addLetters_64 hfl K n9 x3 t7 M _ _ _ h (lv_sub hl [1, 2, 0] rfl) hw
theorem c_M_addLetters (l : Launch) (hfl : l.flags = flags0) (x1 : Int64) (x3 : Int32) : nf_C nf_jN l nm_M_addLetters nb_M_addLetters 7 none rm_M_addLetters (fun a => [.ref (a 19), .long x1, .int x3]) (fun M post ex => P_M_addLetters x1 x3 M post) := by
  refine nf_start (plainFor_of_name (by decide +kernel)) (fun a => Nat.le_of_ble_eq_true rfl) ?_
  intro D a sz M post ex p e s m below meth c ls h K hl hw
  have hx := K.1
  have hb := K.2.1
  have hl : lv_has ls 7 [(0, .ref (a 19)), (1, .long x1), (3, .int x3)] := hl
  refine lv_aload_n hx hb d_M_addLetters_0 rfl (lv_at hl 0 rfl) ?_
  refine lv_iconst (v := (0 : Int32)) hx hb d_M_addLetters_1 (by decide) ?_
  refine nf_put (M' := ms_I M 19 13 (0 : Int32)) K hw 19 7 13 nw_944 rfl rfl rfl ni_M ny_M nq_M nn_M (by decide) rfl rfl rfl rfl (Nat.le_of_ble_eq_true rfl) d_M_addLetters_2 (fun H locs hw => ?_)
  obtain ⟨M1, eM1⟩ : ∃ z, z = ms_I M 19 13 (0 : Int32) := ⟨_, rfl⟩
  rw [← eM1] at hw
  have h := h M1 eM1
  refine lv_lload_n hx hb d_M_addLetters_5 rfl (lv_at hl 1 rfl) ?_
  refine lv_lstore (lv' := [(4, .long x1), (0, .ref (a 19)), (1, .long x1), (3, .int x3)]) hx hb d_M_addLetters_6 hl (by decide) rfl (fun ls hl => ?_)
  obtain ⟨n, h⟩ := h
  exact w_M_addLetters_8 hfl K n x3 x1 M1 _ _ _ h (lv_sub hl [1, 3, 0] rfl) hw
theorem d_M_roman_0 : decode nb_M_roman 0 = .ok (.ldc2_w 310, 3) := by decide +kernel
theorem d_M_roman_3 : decode nb_M_roman 3 = .ok (.bipush 8, 2) := by decide +kernel
theorem d_M_roman_5 : decode nb_M_roman 5 = .ok (.iload_n 0, 1) := by decide +kernel
theorem d_M_roman_6 : decode nb_M_roman 6 = .ok (.imul, 1) := by decide +kernel
theorem d_M_roman_7 : decode nb_M_roman 7 = .ok (.lshr, 1) := by decide +kernel
theorem d_M_roman_8 : decode nb_M_roman 8 = .ok (.l2i, 1) := by decide +kernel
theorem d_M_roman_9 : decode nb_M_roman 9 = .ok (.sipush 255, 3) := by decide +kernel
theorem d_M_roman_12 : decode nb_M_roman 12 = .ok (.iand, 1) := by decide +kernel
theorem d_M_roman_13 : decode nb_M_roman 13 = .ok (.istore_n 2, 1) := by decide +kernel
theorem d_M_roman_14 : decode nb_M_roman 14 = .ok (.iload_n 1, 1) := by decide +kernel
theorem d_M_roman_15 : decode nb_M_roman 15 = .ok (.ifCond .eq 10, 3) := by decide +kernel
theorem d_M_roman_18 : decode nb_M_roman 18 = .ok (.iload_n 2, 1) := by decide +kernel
theorem d_M_roman_19 : decode nb_M_roman 19 = .ok (.bipush 32, 2) := by decide +kernel
theorem d_M_roman_21 : decode nb_M_roman 21 = .ok (.isub, 1) := by decide +kernel
theorem d_M_roman_22 : decode nb_M_roman 22 = .ok (.goto 4, 3) := by decide +kernel
theorem d_M_roman_25 : decode nb_M_roman 25 = .ok (.iload_n 2, 1) := by decide +kernel
theorem d_M_roman_26 : decode nb_M_roman 26 = .ok (.ireturn, 1) := by decide +kernel
abbrev rm_M_roman : Room := ({ frames := 0, cells := 0, slots := 0, locals := 0 })
theorem w_M_roman_26 {post : Int32 → nf_M → Prop} (hfl : l.flags = flags0) (K : nf_K p s m args meth c "NumberForgeModel" nb_M_roman 3 (some FieldType.int) D a sz) : ∀ (xy0 : Int32) (M : nf_M) (H : Heap) (locs : List Loc) (ls : Array Slot), B_M_roman_26 post xy0 M → lv_has ls 3 [] → nf_W D a s sz H locs M → W p l e rm_M_roman s m args below meth c H locs 0 0 (nf_MQ below (nf_Q nf_jI D a post ex (nf_A a sz)) args s rm_M_roman.cells rm_M_roman.slots (nf_A a sz)) (F0 m 26 ls [.int xy0]) := by
  have hx := K.1
  have hb := K.2.1
  intro xy0 M H locs ls h hl hw
  exact nf_iret K hw d_M_roman_26 rfl (Nat.le_of_ble_eq_true rfl) (Nat.le_of_ble_eq_true rfl) (r := xy0) rfl h
theorem c_M_roman (l : Launch) (hfl : l.flags = flags0) (x0 : Int32) (x1 : Int32) : nf_C nf_jI l nm_M_roman nb_M_roman 3 (some FieldType.int) rm_M_roman (fun a => [.int x0, .int x1]) (fun M post ex => P_M_roman x0 x1 M post) := by
  refine nf_start (plainFor_of_name (by decide +kernel)) (fun a => Nat.le_of_ble_eq_true rfl) ?_
  intro D a sz M post ex p e s m below meth c ls h K hl hw
  have hx := K.1
  have hb := K.2.1
  have hl : lv_has ls 3 [(0, .int x0), (1, .int x1)] := hl
  refine lv_ldc2 (v := (30791150645835369 : Int64)) hx hb K.2.2.2.1 (nf_Kg K nw_1275) d_M_roman_0 ?_
  refine lv_bipush (v := (8 : Int32)) hx hb d_M_roman_3 (by decide) ?_
  refine lv_iload_n hx hb d_M_roman_5 rfl (lv_at hl 0 rfl) ?_
  refine lv_imul hx hb d_M_roman_6 ?_
  refine lv_lshr hx hb d_M_roman_7 rfl ?_
  refine lv_l2i hx hb d_M_roman_8 rfl ?_
  refine lv_sipush (v := (255 : Int32)) hx hb d_M_roman_9 (by decide) ?_
  refine lv_iand hx hb d_M_roman_12 ?_
  refine lv_topi (fun t1 et1 => ?_)
  have h := h t1 et1
  refine lv_istore_n (lv' := [(2, .int t1), (0, .int x0), (1, .int x1)]) hx hb d_M_roman_13 rfl hl (by decide) rfl (fun ls hl => ?_)
  refine lv_iload_n hx hb d_M_roman_14 rfl (lv_at hl 2 rfl) ?_
  refine nf_if_eq hx hb d_M_roman_15 (tgt := 25) (by decide) (fun hc => ?_) (fun hc => ?_)
  · have h := h.1 hc
    refine lv_iload_n hx hb d_M_roman_25 rfl (lv_at hl 0 rfl) ?_
    exact w_M_roman_26 hfl K t1 M _ _ _ h (lv_sub hl [] rfl) hw
  · have h := h.2 hc
    refine lv_iload_n hx hb d_M_roman_18 rfl (lv_at hl 0 rfl) ?_
    refine lv_bipush (v := (32 : Int32)) hx hb d_M_roman_19 (by decide) ?_
    refine lv_isub hx hb d_M_roman_21 ?_
    refine lv_goto hx hb d_M_roman_22 (tgt := 26) (by decide) ?_
    exact w_M_roman_26 hfl K (t1 - (32 : Int32)) M _ _ _ h (lv_sub hl [] rfl) hw
theorem d_M_addRoman_0 : decode nb_M_addRoman 0 = .ok (.iconst 3, 1) := by decide +kernel
theorem d_M_addRoman_1 : decode nb_M_addRoman 1 = .ok (.istore_n 3, 1) := by decide +kernel
theorem d_M_addRoman_2 : decode nb_M_addRoman 2 = .ok (.iload_n 3, 1) := by decide +kernel
theorem d_M_addRoman_3 : decode nb_M_addRoman 3 = .ok (.ifCond .lt 124, 3) := by decide +kernel
theorem d_M_addRoman_6 : decode nb_M_addRoman 6 = .ok (.iload_n 1, 1) := by decide +kernel
theorem d_M_addRoman_7 : decode nb_M_addRoman 7 = .ok (.iload_n 3, 1) := by decide +kernel
theorem d_M_addRoman_8 : decode nb_M_addRoman 8 = .ok (.invokestatic 42, 3) := by decide +kernel
theorem d_M_addRoman_11 : decode nb_M_addRoman 11 = .ok (.l2i, 1) := by decide +kernel
theorem d_M_addRoman_12 : decode nb_M_addRoman 12 = .ok (.idiv, 1) := by decide +kernel
theorem d_M_addRoman_13 : decode nb_M_addRoman 13 = .ok (.bipush 10, 2) := by decide +kernel
theorem d_M_addRoman_15 : decode nb_M_addRoman 15 = .ok (.irem, 1) := by decide +kernel
theorem d_M_addRoman_16 : decode nb_M_addRoman 16 = .ok (.istore 4, 2) := by decide +kernel
theorem d_M_addRoman_18 : decode nb_M_addRoman 18 = .ok (.iconst 2, 1) := by decide +kernel
theorem d_M_addRoman_19 : decode nb_M_addRoman 19 = .ok (.iload_n 3, 1) := by decide +kernel
theorem d_M_addRoman_20 : decode nb_M_addRoman 20 = .ok (.imul, 1) := by decide +kernel
theorem d_M_addRoman_21 : decode nb_M_addRoman 21 = .ok (.istore 5, 2) := by decide +kernel
theorem d_M_addRoman_23 : decode nb_M_addRoman 23 = .ok (.iload 4, 2) := by decide +kernel
theorem d_M_addRoman_25 : decode nb_M_addRoman 25 = .ok (.bipush 9, 2) := by decide +kernel
theorem d_M_addRoman_27 : decode nb_M_addRoman 27 = .ok (.if_icmp .eq 9, 3) := by decide +kernel
theorem d_M_addRoman_30 : decode nb_M_addRoman 30 = .ok (.iload 4, 2) := by decide +kernel
theorem d_M_addRoman_32 : decode nb_M_addRoman 32 = .ok (.iconst 4, 1) := by decide +kernel
theorem d_M_addRoman_33 : decode nb_M_addRoman 33 = .ok (.if_icmp .ne 42, 3) := by decide +kernel
theorem d_M_addRoman_36 : decode nb_M_addRoman 36 = .ok (.aload_n 0, 1) := by decide +kernel
theorem d_M_addRoman_37 : decode nb_M_addRoman 37 = .ok (.iload 5, 2) := by decide +kernel
theorem d_M_addRoman_39 : decode nb_M_addRoman 39 = .ok (.iload_n 2, 1) := by decide +kernel
theorem d_M_addRoman_40 : decode nb_M_addRoman 40 = .ok (.invokestatic 312, 3) := by decide +kernel
theorem d_M_addRoman_43 : decode nb_M_addRoman 43 = .ok (.invokevirtual 252, 3) := by decide +kernel
theorem d_M_addRoman_46 : decode nb_M_addRoman 46 = .ok (.aload_n 0, 1) := by decide +kernel
theorem d_M_addRoman_47 : decode nb_M_addRoman 47 = .ok (.iload 4, 2) := by decide +kernel
theorem d_M_addRoman_49 : decode nb_M_addRoman 49 = .ok (.bipush 9, 2) := by decide +kernel
theorem d_M_addRoman_51 : decode nb_M_addRoman 51 = .ok (.if_icmp .ne 10, 3) := by decide +kernel
theorem d_M_addRoman_54 : decode nb_M_addRoman 54 = .ok (.iload 5, 2) := by decide +kernel
theorem d_M_addRoman_56 : decode nb_M_addRoman 56 = .ok (.iconst 2, 1) := by decide +kernel
theorem d_M_addRoman_57 : decode nb_M_addRoman 57 = .ok (.iadd, 1) := by decide +kernel
theorem d_M_addRoman_58 : decode nb_M_addRoman 58 = .ok (.goto 7, 3) := by decide +kernel
theorem d_M_addRoman_61 : decode nb_M_addRoman 61 = .ok (.iload 5, 2) := by decide +kernel
theorem d_M_addRoman_63 : decode nb_M_addRoman 63 = .ok (.iconst 1, 1) := by decide +kernel
theorem d_M_addRoman_64 : decode nb_M_addRoman 64 = .ok (.iadd, 1) := by decide +kernel
theorem d_M_addRoman_65 : decode nb_M_addRoman 65 = .ok (.iload_n 2, 1) := by decide +kernel
theorem d_M_addRoman_66 : decode nb_M_addRoman 66 = .ok (.invokestatic 312, 3) := by decide +kernel
theorem d_M_addRoman_69 : decode nb_M_addRoman 69 = .ok (.invokevirtual 252, 3) := by decide +kernel
theorem d_M_addRoman_72 : decode nb_M_addRoman 72 = .ok (.goto 49, 3) := by decide +kernel
theorem d_M_addRoman_75 : decode nb_M_addRoman 75 = .ok (.iload 4, 2) := by decide +kernel
theorem d_M_addRoman_77 : decode nb_M_addRoman 77 = .ok (.iconst 4, 1) := by decide +kernel
theorem d_M_addRoman_78 : decode nb_M_addRoman 78 = .ok (.if_icmp .le 15, 3) := by decide +kernel
theorem d_M_addRoman_81 : decode nb_M_addRoman 81 = .ok (.aload_n 0, 1) := by decide +kernel
theorem d_M_addRoman_82 : decode nb_M_addRoman 82 = .ok (.iload 5, 2) := by decide +kernel
theorem d_M_addRoman_84 : decode nb_M_addRoman 84 = .ok (.iconst 1, 1) := by decide +kernel
theorem d_M_addRoman_85 : decode nb_M_addRoman 85 = .ok (.iadd, 1) := by decide +kernel
theorem d_M_addRoman_86 : decode nb_M_addRoman 86 = .ok (.iload_n 2, 1) := by decide +kernel
theorem d_M_addRoman_87 : decode nb_M_addRoman 87 = .ok (.invokestatic 312, 3) := by decide +kernel
theorem d_M_addRoman_90 : decode nb_M_addRoman 90 = .ok (.invokevirtual 252, 3) := by decide +kernel
theorem d_M_addRoman_93 : decode nb_M_addRoman 93 = .ok (.iconst 0, 1) := by decide +kernel
theorem d_M_addRoman_94 : decode nb_M_addRoman 94 = .ok (.istore 6, 2) := by decide +kernel
theorem d_M_addRoman_96 : decode nb_M_addRoman 96 = .ok (.iload 6, 2) := by decide +kernel
theorem d_M_addRoman_98 : decode nb_M_addRoman 98 = .ok (.iload 4, 2) := by decide +kernel
theorem d_M_addRoman_100 : decode nb_M_addRoman 100 = .ok (.iconst 5, 1) := by decide +kernel
theorem d_M_addRoman_101 : decode nb_M_addRoman 101 = .ok (.irem, 1) := by decide +kernel
theorem d_M_addRoman_102 : decode nb_M_addRoman 102 = .ok (.if_icmp .ge 19, 3) := by decide +kernel
theorem d_M_addRoman_105 : decode nb_M_addRoman 105 = .ok (.aload_n 0, 1) := by decide +kernel
theorem d_M_addRoman_106 : decode nb_M_addRoman 106 = .ok (.iload 5, 2) := by decide +kernel
theorem d_M_addRoman_108 : decode nb_M_addRoman 108 = .ok (.iload_n 2, 1) := by decide +kernel
theorem d_M_addRoman_109 : decode nb_M_addRoman 109 = .ok (.invokestatic 312, 3) := by decide +kernel
theorem d_M_addRoman_112 : decode nb_M_addRoman 112 = .ok (.invokevirtual 252, 3) := by decide +kernel
theorem d_M_addRoman_115 : decode nb_M_addRoman 115 = .ok (.iinc 6 1, 3) := by decide +kernel
theorem d_M_addRoman_118 : decode nb_M_addRoman 118 = .ok (.goto (-22), 3) := by decide +kernel
theorem d_M_addRoman_121 : decode nb_M_addRoman 121 = .ok (.iinc 3 (-1), 3) := by decide +kernel
theorem d_M_addRoman_124 : decode nb_M_addRoman 124 = .ok (.goto (-122), 3) := by decide +kernel
theorem d_M_addRoman_127 : decode nb_M_addRoman 127 = .ok (.return_, 1) := by decide +kernel
abbrev rm_M_addRoman : Room := ({ frames := 1, cells := 0, slots := 0, locals := 23 })
theorem w_M_addRoman_121 {post : Unit → nf_M → Prop} (hfl : l.flags = flags0) (K : nf_K p s m args meth c "NumberForgeModel" nb_M_addRoman 7 none D a sz) (k2 : Int32 → Int32 → Int32 → nf_M → Prop) (hk2 : ∀ (x1 : Int32) (x2 : Int32) (x3 : Int32) (M : nf_M) (H : Heap) (locs : List Loc) (ls : Array Slot), k2 x1 x2 x3 M → lv_has ls 7 [(0, .ref (a 19)), (1, .int x1), (2, .int x2), (3, .int x3)] → nf_W D a s sz H locs M → W p l e rm_M_addRoman s m args below meth c H locs 0 0 (nf_MQ below (nf_Q nf_jN D a post ex (nf_A a sz)) args s rm_M_addRoman.cells rm_M_addRoman.slots (nf_A a sz)) (F0 m 2 ls [])) : ∀ (x1 : Int32) (x2 : Int32) (x3 : Int32) (M : nf_M) (H : Heap) (locs : List Loc) (ls : Array Slot), B_M_addRoman_121 k2 post x1 x2 x3 M → lv_has ls 7 [(0, .ref (a 19)), (1, .int x1), (2, .int x2), (3, .int x3)] → nf_W D a s sz H locs M → W p l e rm_M_addRoman s m args below meth c H locs 0 0 (nf_MQ below (nf_Q nf_jN D a post ex (nf_A a sz)) args s rm_M_addRoman.cells rm_M_addRoman.slots (nf_A a sz)) (F0 m 121 ls []) := by
  have hx := K.1
  have hb := K.2.1
  intro x1 x2 x3 M H locs ls h hl hw
  refine lv_iinc (k := 3) (v := x3 + (-1 : Int32)) (lv' := [(3, .int (x3 + (-1 : Int32))), (0, .ref (a 19)), (1, .int x1), (2, .int x2)]) hx hb d_M_addRoman_121 hl rfl (nf_inc (by decide)) (by decide) rfl (fun ls hl => ?_)
  refine lv_goto hx hb d_M_addRoman_124 (tgt := 2) (by decide) ?_
  exact hk2 x1 x2 (x3 + (-1 : Int32)) M _ _ _ h (lv_sub hl [1, 2, 3, 0] rfl) hw
theorem w_M_addRoman_65 {post : Unit → nf_M → Prop} (hfl : l.flags = flags0) (K : nf_K p s m args meth c "NumberForgeModel" nb_M_addRoman 7 none D a sz) (k2 : Int32 → Int32 → Int32 → nf_M → Prop) (hk2 : ∀ (x1 : Int32) (x2 : Int32) (x3 : Int32) (M : nf_M) (H : Heap) (locs : List Loc) (ls : Array Slot), k2 x1 x2 x3 M → lv_has ls 7 [(0, .ref (a 19)), (1, .int x1), (2, .int x2), (3, .int x3)] → nf_W D a s sz H locs M → W p l e rm_M_addRoman s m args below meth c H locs 0 0 (nf_MQ below (nf_Q nf_jN D a post ex (nf_A a sz)) args s rm_M_addRoman.cells rm_M_addRoman.slots (nf_A a sz)) (F0 m 2 ls [])) : ∀ (x1 : Int32) (x2 : Int32) (x3 : Int32) (xy0 : Int32) (M : nf_M) (H : Heap) (locs : List Loc) (ls : Array Slot), B_M_addRoman_65 k2 post x1 x2 x3 xy0 M → lv_has ls 7 [(0, .ref (a 19)), (1, .int x1), (2, .int x2), (3, .int x3)] → nf_W D a s sz H locs M → W p l e rm_M_addRoman s m args below meth c H locs 0 0 (nf_MQ below (nf_Q nf_jN D a post ex (nf_A a sz)) args s rm_M_addRoman.cells rm_M_addRoman.slots (nf_A a sz)) (F0 m 65 ls [.int xy0, .ref (a 19)]) := by
  have hx := K.1
  have hb := K.2.1
  intro x1 x2 x3 xy0 M H locs ls h hl hw
  refine lv_iload_n hx hb d_M_addRoman_65 rfl (lv_at hl 2 rfl) ?_
  refine nf_callW (ex := (fun _ _ => False)) (As := [.int xy0, .int x2]) (st0 := [.int x2, .int xy0, .ref (a 19)]) (rest := [.ref (a 19)]) K hw (nf_invS hx hb K.2.2.2.1 (nf_Kg K nw_1272) (nf_Kg K nw_1273) (nf_Kg K nw_9) (nf_Kg K nw_1274) ⟨by decide, by decide⟩ rfl nl_M_roman rfl d_M_addRoman_66) (c_M_roman l hfl xy0 x2) nw_1274 nw_9 rfl ⟨by decide, by decide⟩ (Nat.le_of_ble_eq_true rfl) hl.1 ⟨Nat.le_of_ble_eq_true rfl, Nat.le_of_ble_eq_true rfl⟩ h (fun _ _ h => h.elim) (fun r1 M2 H locs h hw => ?_)
  refine W.eq (g2 := F0 m 69 ls [.int r1, .ref (a 19)]) rfl ?_
  refine nf_callW (ex := (fun _ _ => False)) (As := [.ref (a 19), .int r1]) (st0 := [.int r1, .ref (a 19)]) (rest := []) K hw (nf_invV hx hb K.2.2.2.1 (nf_Kg K nw_1206) (nf_Kg K nw_1208) (nf_Kg K nx_M_add) (nf_Kg K nw_1209) ⟨by decide, by decide⟩ (nf_rcv K hw 19 7 rfl rfl) rfl nl_M_add rfl d_M_addRoman_69) (c_M_add l hfl r1) nw_1209 nw_9 rfl ⟨by decide, by decide⟩ (Nat.le_of_ble_eq_true rfl) hl.1 ⟨Nat.le_of_ble_eq_true rfl, Nat.le_of_ble_eq_true rfl⟩ h (fun _ _ h => h.elim) (fun r3 M4 H locs h hw => ?_)
  refine W.eq (g2 := F0 m 72 ls []) rfl ?_
  refine lv_goto hx hb d_M_addRoman_72 (tgt := 121) (by decide) ?_
  exact w_M_addRoman_121 hfl K k2 hk2 x1 x2 x3 M4 _ _ _ h (lv_sub hl [0, 1, 2, 3] rfl) hw
theorem w_M_addRoman_36 {post : Unit → nf_M → Prop} (hfl : l.flags = flags0) (K : nf_K p s m args meth c "NumberForgeModel" nb_M_addRoman 7 none D a sz) (k2 : Int32 → Int32 → Int32 → nf_M → Prop) (hk2 : ∀ (x1 : Int32) (x2 : Int32) (x3 : Int32) (M : nf_M) (H : Heap) (locs : List Loc) (ls : Array Slot), k2 x1 x2 x3 M → lv_has ls 7 [(0, .ref (a 19)), (1, .int x1), (2, .int x2), (3, .int x3)] → nf_W D a s sz H locs M → W p l e rm_M_addRoman s m args below meth c H locs 0 0 (nf_MQ below (nf_Q nf_jN D a post ex (nf_A a sz)) args s rm_M_addRoman.cells rm_M_addRoman.slots (nf_A a sz)) (F0 m 2 ls [])) : ∀ (x1 : Int32) (x2 : Int32) (x3 : Int32) (x4 : Int32) (x5 : Int32) (M : nf_M) (H : Heap) (locs : List Loc) (ls : Array Slot), B_M_addRoman_36 k2 post x1 x2 x3 x4 x5 M → lv_has ls 7 [(0, .ref (a 19)), (1, .int x1), (2, .int x2), (3, .int x3), (4, .int x4), (5, .int x5)] → nf_W D a s sz H locs M → W p l e rm_M_addRoman s m args below meth c H locs 0 0 (nf_MQ below (nf_Q nf_jN D a post ex (nf_A a sz)) args s rm_M_addRoman.cells rm_M_addRoman.slots (nf_A a sz)) (F0 m 36 ls []) := by
  have hx := K.1
  have hb := K.2.1
  intro x1 x2 x3 x4 x5 M H locs ls h hl hw
  refine lv_aload_n hx hb d_M_addRoman_36 rfl (lv_at hl 0 rfl) ?_
  refine lv_iload hx hb d_M_addRoman_37 (lv_at hl 5 rfl) ?_
  refine lv_iload_n hx hb d_M_addRoman_39 rfl (lv_at hl 2 rfl) ?_
  refine nf_callW (ex := (fun _ _ => False)) (As := [.int x5, .int x2]) (st0 := [.int x2, .int x5, .ref (a 19)]) (rest := [.ref (a 19)]) K hw (nf_invS hx hb K.2.2.2.1 (nf_Kg K nw_1272) (nf_Kg K nw_1273) (nf_Kg K nw_9) (nf_Kg K nw_1274) ⟨by decide, by decide⟩ rfl nl_M_roman rfl d_M_addRoman_40) (c_M_roman l hfl x5 x2) nw_1274 nw_9 rfl ⟨by decide, by decide⟩ (Nat.le_of_ble_eq_true rfl) hl.1 ⟨Nat.le_of_ble_eq_true rfl, Nat.le_of_ble_eq_true rfl⟩ h (fun _ _ h => h.elim) (fun r1 M2 H locs h hw => ?_)
  refine W.eq (g2 := F0 m 43 ls [.int r1, .ref (a 19)]) rfl ?_
  refine nf_callW (ex := (fun _ _ => False)) (As := [.ref (a 19), .int r1]) (st0 := [.int r1, .ref (a 19)]) (rest := []) K hw (nf_invV hx hb K.2.2.2.1 (nf_Kg K nw_1206) (nf_Kg K nw_1208) (nf_Kg K nx_M_add) (nf_Kg K nw_1209) ⟨by decide, by decide⟩ (nf_rcv K hw 19 7 rfl rfl) rfl nl_M_add rfl d_M_addRoman_43) (c_M_add l hfl r1) nw_1209 nw_9 rfl ⟨by decide, by decide⟩ (Nat.le_of_ble_eq_true rfl) hl.1 ⟨Nat.le_of_ble_eq_true rfl, Nat.le_of_ble_eq_true rfl⟩ h (fun _ _ h => h.elim) (fun r3 M4 H locs h hw => ?_)
  refine W.eq (g2 := F0 m 46 ls []) rfl ?_
  refine lv_aload_n hx hb d_M_addRoman_46 rfl (lv_at hl 0 rfl) ?_
  refine lv_iload hx hb d_M_addRoman_47 (lv_at hl 4 rfl) ?_
  refine lv_bipush (v := (9 : Int32)) hx hb d_M_addRoman_49 (by decide) ?_
  refine nf_ic_ne hx hb d_M_addRoman_51 (tgt := 61) (by decide) (fun hc => ?_) (fun hc => ?_)
  · have h := h.1 hc
    refine lv_iload hx hb d_M_addRoman_54 (lv_at hl 5 rfl) ?_
    refine lv_iconst (v := (2 : Int32)) hx hb d_M_addRoman_56 (by decide) ?_
    refine lv_iadd hx hb d_M_addRoman_57 ?_
    refine lv_goto hx hb d_M_addRoman_58 (tgt := 65) (by decide) ?_
    exact w_M_addRoman_65 hfl K k2 hk2 x1 x2 x3 (x5 + (2 : Int32)) M4 _ _ _ h (lv_sub hl [0, 1, 2, 3] rfl) hw
  · have h := h.2 hc
    refine lv_iload hx hb d_M_addRoman_61 (lv_at hl 5 rfl) ?_
    refine lv_iconst (v := (1 : Int32)) hx hb d_M_addRoman_63 (by decide) ?_
    refine lv_iadd hx hb d_M_addRoman_64 ?_
    exact w_M_addRoman_65 hfl K k2 hk2 x1 x2 x3 (x5 + (1 : Int32)) M4 _ _ _ h (lv_sub hl [0, 1, 2, 3] rfl) hw
theorem w_M_addRoman_96 {post : Unit → nf_M → Prop} (hfl : l.flags = flags0) (K : nf_K p s m args meth c "NumberForgeModel" nb_M_addRoman 7 none D a sz) (k2 : Int32 → Int32 → Int32 → nf_M → Prop) (hk2 : ∀ (x1 : Int32) (x2 : Int32) (x3 : Int32) (M : nf_M) (H : Heap) (locs : List Loc) (ls : Array Slot), k2 x1 x2 x3 M → lv_has ls 7 [(0, .ref (a 19)), (1, .int x1), (2, .int x2), (3, .int x3)] → nf_W D a s sz H locs M → W p l e rm_M_addRoman s m args below meth c H locs 0 0 (nf_MQ below (nf_Q nf_jN D a post ex (nf_A a sz)) args s rm_M_addRoman.cells rm_M_addRoman.slots (nf_A a sz)) (F0 m 2 ls [])) : ∀ (n : Nat) (x1 : Int32) (x2 : Int32) (x3 : Int32) (x4 : Int32) (x5 : Int32) (x6 : Int32) (M : nf_M) (H : Heap) (locs : List Loc) (ls : Array Slot), B_M_addRoman_96 k2 post n x1 x2 x3 x4 x5 x6 M → lv_has ls 7 [(0, .ref (a 19)), (1, .int x1), (2, .int x2), (3, .int x3), (4, .int x4), (5, .int x5), (6, .int x6)] → nf_W D a s sz H locs M → W p l e rm_M_addRoman s m args below meth c H locs 0 0 (nf_MQ below (nf_Q nf_jN D a post ex (nf_A a sz)) args s rm_M_addRoman.cells rm_M_addRoman.slots (nf_A a sz)) (F0 m 96 ls []) := by
  have hx := K.1
  have hb := K.2.1
  intro n
  induction n with
  | zero => intro x1 x2 x3 x4 x5 x6 M H locs ls h hl hw; exact h.elim
  | succ n ih =>
    intro x1 x2 x3 x4 x5 x6 M H locs ls h hl hw
    refine lv_iload hx hb d_M_addRoman_96 (lv_at hl 6 rfl) ?_
    refine lv_iload hx hb d_M_addRoman_98 (lv_at hl 4 rfl) ?_
    refine lv_iconst (v := (5 : Int32)) hx hb d_M_addRoman_100 (by decide) ?_
    refine lv_irem hx hb d_M_addRoman_101 (by decide) ?_
    refine nf_ic_ge hx hb d_M_addRoman_102 (tgt := 121) (by decide) (fun hc => ?_) (fun hc => ?_)
    · have h := h.1 hc
      refine lv_aload_n hx hb d_M_addRoman_105 rfl (lv_at hl 0 rfl) ?_
      refine lv_iload hx hb d_M_addRoman_106 (lv_at hl 5 rfl) ?_
      refine lv_iload_n hx hb d_M_addRoman_108 rfl (lv_at hl 2 rfl) ?_
      refine nf_callW (ex := (fun _ _ => False)) (As := [.int x5, .int x2]) (st0 := [.int x2, .int x5, .ref (a 19)]) (rest := [.ref (a 19)]) K hw (nf_invS hx hb K.2.2.2.1 (nf_Kg K nw_1272) (nf_Kg K nw_1273) (nf_Kg K nw_9) (nf_Kg K nw_1274) ⟨by decide, by decide⟩ rfl nl_M_roman rfl d_M_addRoman_109) (c_M_roman l hfl x5 x2) nw_1274 nw_9 rfl ⟨by decide, by decide⟩ (Nat.le_of_ble_eq_true rfl) hl.1 ⟨Nat.le_of_ble_eq_true rfl, Nat.le_of_ble_eq_true rfl⟩ h (fun _ _ h => h.elim) (fun r1 M2 H locs h hw => ?_)
      refine W.eq (g2 := F0 m 112 ls [.int r1, .ref (a 19)]) rfl ?_
      refine nf_callW (ex := (fun _ _ => False)) (As := [.ref (a 19), .int r1]) (st0 := [.int r1, .ref (a 19)]) (rest := []) K hw (nf_invV hx hb K.2.2.2.1 (nf_Kg K nw_1206) (nf_Kg K nw_1208) (nf_Kg K nx_M_add) (nf_Kg K nw_1209) ⟨by decide, by decide⟩ (nf_rcv K hw 19 7 rfl rfl) rfl nl_M_add rfl d_M_addRoman_112) (c_M_add l hfl r1) nw_1209 nw_9 rfl ⟨by decide, by decide⟩ (Nat.le_of_ble_eq_true rfl) hl.1 ⟨Nat.le_of_ble_eq_true rfl, Nat.le_of_ble_eq_true rfl⟩ h (fun _ _ h => h.elim) (fun r3 M4 H locs h hw => ?_)
      refine W.eq (g2 := F0 m 115 ls []) rfl ?_
      refine lv_iinc (k := 6) (v := x6 + (1 : Int32)) (lv' := [(6, .int (x6 + (1 : Int32))), (0, .ref (a 19)), (1, .int x1), (2, .int x2), (3, .int x3), (4, .int x4), (5, .int x5)]) hx hb d_M_addRoman_115 hl rfl (nf_inc (by decide)) (by decide) rfl (fun ls hl => ?_)
      refine lv_goto hx hb d_M_addRoman_118 (tgt := 96) (by decide) ?_
      exact ih x1 x2 x3 x4 x5 (x6 + (1 : Int32)) M4 _ _ _ h (lv_sub hl [1, 2, 3, 4, 5, 6, 0] rfl) hw
    · have h := h.2 hc
      exact w_M_addRoman_121 hfl K k2 hk2 x1 x2 x3 M _ _ _ h (lv_sub hl [0, 1, 2, 3] rfl) hw
theorem w_M_addRoman_93 {post : Unit → nf_M → Prop} (hfl : l.flags = flags0) (K : nf_K p s m args meth c "NumberForgeModel" nb_M_addRoman 7 none D a sz) (k2 : Int32 → Int32 → Int32 → nf_M → Prop) (hk2 : ∀ (x1 : Int32) (x2 : Int32) (x3 : Int32) (M : nf_M) (H : Heap) (locs : List Loc) (ls : Array Slot), k2 x1 x2 x3 M → lv_has ls 7 [(0, .ref (a 19)), (1, .int x1), (2, .int x2), (3, .int x3)] → nf_W D a s sz H locs M → W p l e rm_M_addRoman s m args below meth c H locs 0 0 (nf_MQ below (nf_Q nf_jN D a post ex (nf_A a sz)) args s rm_M_addRoman.cells rm_M_addRoman.slots (nf_A a sz)) (F0 m 2 ls [])) : ∀ (x1 : Int32) (x2 : Int32) (x3 : Int32) (x4 : Int32) (x5 : Int32) (M : nf_M) (H : Heap) (locs : List Loc) (ls : Array Slot), B_M_addRoman_93 k2 post x1 x2 x3 x4 x5 M → lv_has ls 7 [(0, .ref (a 19)), (1, .int x1), (2, .int x2), (3, .int x3), (4, .int x4), (5, .int x5)] → nf_W D a s sz H locs M → W p l e rm_M_addRoman s m args below meth c H locs 0 0 (nf_MQ below (nf_Q nf_jN D a post ex (nf_A a sz)) args s rm_M_addRoman.cells rm_M_addRoman.slots (nf_A a sz)) (F0 m 93 ls []) := by
  have hx := K.1
  have hb := K.2.1
  intro x1 x2 x3 x4 x5 M H locs ls h hl hw
  refine lv_iconst (v := (0 : Int32)) hx hb d_M_addRoman_93 (by decide) ?_
  refine lv_istore (lv' := [(6, .int (0 : Int32)), (0, .ref (a 19)), (1, .int x1), (2, .int x2), (3, .int x3), (4, .int x4), (5, .int x5)]) hx hb d_M_addRoman_94 hl (by decide) rfl (fun ls hl => ?_)
  obtain ⟨n, h⟩ := h
  exact w_M_addRoman_96 hfl K k2 hk2 n x1 x2 x3 x4 x5 (0 : Int32) M _ _ _ h (lv_sub hl [1, 2, 3, 4, 5, 6, 0] rfl) hw
theorem w_M_addRoman_2 {post : Unit → nf_M → Prop} (hfl : l.flags = flags0) (K : nf_K p s m args meth c "NumberForgeModel" nb_M_addRoman 7 none D a sz) : ∀ (n : Nat) (x1 : Int32) (x2 : Int32) (x3 : Int32) (M : nf_M) (H : Heap) (locs : List Loc) (ls : Array Slot), B_M_addRoman_2 post n x1 x2 x3 M → lv_has ls 7 [(0, .ref (a 19)), (1, .int x1), (2, .int x2), (3, .int x3)] → nf_W D a s sz H locs M → W p l e rm_M_addRoman s m args below meth c H locs 0 0 (nf_MQ below (nf_Q nf_jN D a post ex (nf_A a sz)) args s rm_M_addRoman.cells rm_M_addRoman.slots (nf_A a sz)) (F0 m 2 ls []) := by
  have hx := K.1
  have hb := K.2.1
  intro n
  induction n with
  | zero => intro x1 x2 x3 M H locs ls h hl hw; exact h.elim
  | succ n ih =>
    intro x1 x2 x3 M H locs ls h hl hw
    refine lv_iload_n hx hb d_M_addRoman_2 rfl (lv_at hl 3 rfl) ?_
    refine nf_if_lt hx hb d_M_addRoman_3 (tgt := 127) (by decide) (fun hc => ?_) (fun hc => ?_)
    · have h := h.1 hc
      exact nf_vret K hw d_M_addRoman_127 (Nat.le_of_ble_eq_true rfl) (Nat.le_of_ble_eq_true rfl) (r := ()) rfl h
    · have h := h.2 hc
      refine lv_iload_n hx hb d_M_addRoman_6 rfl (lv_at hl 1 rfl) ?_
      refine lv_iload_n hx hb d_M_addRoman_7 rfl (lv_at hl 3 rfl) ?_
      refine nf_callW (ex := (fun _ _ => False)) (As := [.int x3]) (st0 := [.int x3, .int x1]) (rest := [.int x1]) K hw (nf_invS hx hb K.2.2.2.1 (nf_Kg K nw_1066) (nf_Kg K nw_1067) (nf_Kg K nw_9) (nf_Kg K nw_1068) ⟨by decide, by decide⟩ rfl nl_M_power rfl d_M_addRoman_8) (c_M_power l hfl x3) nw_1068 nw_9 rfl ⟨by decide, by decide⟩ (Nat.le_of_ble_eq_true rfl) hl.1 ⟨Nat.le_of_ble_eq_true rfl, Nat.le_of_ble_eq_true rfl⟩ h (fun _ _ h => h.elim) (fun r1 M2 H locs h hw => ?_)
      refine W.eq (g2 := F0 m 11 ls [.long r1, .int x1]) rfl ?_
      refine lv_l2i hx hb d_M_addRoman_11 rfl ?_
      obtain ⟨g3, h⟩ := h
      refine lv_idiv hx hb d_M_addRoman_12 g3 ?_
      refine lv_bipush (v := (10 : Int32)) hx hb d_M_addRoman_13 (by decide) ?_
      refine lv_irem hx hb d_M_addRoman_15 (by decide) ?_
      refine lv_topi (fun t4 et4 => ?_)
      have h := h t4 et4
      refine lv_istore (lv' := [(4, .int t4), (0, .ref (a 19)), (1, .int x1), (2, .int x2), (3, .int x3)]) hx hb d_M_addRoman_16 hl (by decide) rfl (fun ls hl => ?_)
      refine lv_iconst (v := (2 : Int32)) hx hb d_M_addRoman_18 (by decide) ?_
      refine lv_iload_n hx hb d_M_addRoman_19 rfl (lv_at hl 4 rfl) ?_
      refine lv_imul hx hb d_M_addRoman_20 ?_
      refine lv_topi (fun t5 et5 => ?_)
      have h := h t5 et5
      refine lv_istore (lv' := [(5, .int t5), (4, .int t4), (0, .ref (a 19)), (1, .int x1), (2, .int x2), (3, .int x3)]) hx hb d_M_addRoman_21 hl (by decide) rfl (fun ls hl => ?_)
      refine lv_iload hx hb d_M_addRoman_23 (lv_at hl 1 rfl) ?_
      refine lv_bipush (v := (9 : Int32)) hx hb d_M_addRoman_25 (by decide) ?_
      refine nf_ic_eq hx hb d_M_addRoman_27 (tgt := 36) (by decide) (fun hc => ?_) (fun hc => ?_)
      · have h := h.1 hc
        exact w_M_addRoman_36 hfl K (fun x1 x2 x3 z => B_M_addRoman_2 post n x1 x2 x3 z) (fun x1 x2 x3 z H locs ls hh hll hww => ih x1 x2 x3 z H locs ls hh hll hww) x1 x2 x3 t4 t5 M2 _ _ _ h (lv_sub hl [2, 3, 4, 5, 1, 0] rfl) hw
      · have h := h.2 hc
        refine lv_iload hx hb d_M_addRoman_30 (lv_at hl 1 rfl) ?_
        refine lv_iconst (v := (4 : Int32)) hx hb d_M_addRoman_32 (by decide) ?_
        refine nf_ic_ne hx hb d_M_addRoman_33 (tgt := 75) (by decide) (fun hc => ?_) (fun hc => ?_)
        · have h := h.1 hc
          exact w_M_addRoman_36 hfl K (fun x1 x2 x3 z => B_M_addRoman_2 post n x1 x2 x3 z) (fun x1 x2 x3 z H locs ls hh hll hww => ih x1 x2 x3 z H locs ls hh hll hww) x1 x2 x3 t4 t5 M2 _ _ _ h (lv_sub hl [2, 3, 4, 5, 1, 0] rfl) hw
        · have h := h.2 hc
          refine lv_iload hx hb d_M_addRoman_75 (lv_at hl 1 rfl) ?_
          refine lv_iconst (v := (4 : Int32)) hx hb d_M_addRoman_77 (by decide) ?_
          refine nf_ic_le hx hb d_M_addRoman_78 (tgt := 93) (by decide) (fun hc => ?_) (fun hc => ?_)
          · have h := h.1 hc
            refine lv_aload_n hx hb d_M_addRoman_81 rfl (lv_at hl 2 rfl) ?_
            refine lv_iload hx hb d_M_addRoman_82 (lv_at hl 0 rfl) ?_
            refine lv_iconst (v := (1 : Int32)) hx hb d_M_addRoman_84 (by decide) ?_
            refine lv_iadd hx hb d_M_addRoman_85 ?_
            refine lv_iload_n hx hb d_M_addRoman_86 rfl (lv_at hl 4 rfl) ?_
            refine nf_callW (ex := (fun _ _ => False)) (As := [.int (t5 + (1 : Int32)), .int x2]) (st0 := [.int x2, .int (t5 + (1 : Int32)), .ref (a 19)]) (rest := [.ref (a 19)]) K hw (nf_invS hx hb K.2.2.2.1 (nf_Kg K nw_1272) (nf_Kg K nw_1273) (nf_Kg K nw_9) (nf_Kg K nw_1274) ⟨by decide, by decide⟩ rfl nl_M_roman rfl d_M_addRoman_87) (c_M_roman l hfl (t5 + (1 : Int32)) x2) nw_1274 nw_9 rfl ⟨by decide, by decide⟩ (Nat.le_of_ble_eq_true rfl) hl.1 ⟨Nat.le_of_ble_eq_true rfl, Nat.le_of_ble_eq_true rfl⟩ h (fun _ _ h => h.elim) (fun r6 M7 H locs h hw => ?_)
            refine W.eq (g2 := F0 m 90 ls [.int r6, .ref (a 19)]) rfl ?_
            refine nf_callW (ex := (fun _ _ => False)) (As := [.ref (a 19), .int r6]) (st0 := [.int r6, .ref (a 19)]) (rest := []) K hw (nf_invV hx hb K.2.2.2.1 (nf_Kg K nw_1206) (nf_Kg K nw_1208) (nf_Kg K nx_M_add) (nf_Kg K nw_1209) ⟨by decide, by decide⟩ (nf_rcv K hw 19 7 rfl rfl) rfl nl_M_add rfl d_M_addRoman_90) (c_M_add l hfl r6) nw_1209 nw_9 rfl ⟨by decide, by decide⟩ (Nat.le_of_ble_eq_true rfl) hl.1 ⟨Nat.le_of_ble_eq_true rfl, Nat.le_of_ble_eq_true rfl⟩ h (fun _ _ h => h.elim) (fun r8 M9 H locs h hw => ?_)
            refine W.eq (g2 := F0 m 93 ls []) rfl ?_
            exact w_M_addRoman_93 hfl K (fun x1 x2 x3 z => B_M_addRoman_2 post n x1 x2 x3 z) (fun x1 x2 x3 z H locs ls hh hll hww => ih x1 x2 x3 z H locs ls hh hll hww) x1 x2 x3 t4 t5 M9 _ _ _ h (lv_sub hl [2, 3, 4, 5, 1, 0] rfl) hw
          · have h := h.2 hc
            exact w_M_addRoman_93 hfl K (fun x1 x2 x3 z => B_M_addRoman_2 post n x1 x2 x3 z) (fun x1 x2 x3 z H locs ls hh hll hww => ih x1 x2 x3 z H locs ls hh hll hww) x1 x2 x3 t4 t5 M2 _ _ _ h (lv_sub hl [2, 3, 4, 5, 1, 0] rfl) hw
theorem c_M_addRoman (l : Launch) (hfl : l.flags = flags0) (x1 : Int32) (x2 : Int32) : nf_C nf_jN l nm_M_addRoman nb_M_addRoman 7 none rm_M_addRoman (fun a => [.ref (a 19), .int x1, .int x2]) (fun M post ex => P_M_addRoman x1 x2 M post) := by
  refine nf_start (plainFor_of_name (by decide +kernel)) (fun a => Nat.le_of_ble_eq_true rfl) ?_
  intro D a sz M post ex p e s m below meth c ls h K hl hw
  have hx := K.1
  have hb := K.2.1
  have hl : lv_has ls 7 [(0, .ref (a 19)), (1, .int x1), (2, .int x2)] := hl
  refine lv_iconst (v := (3 : Int32)) hx hb d_M_addRoman_0 (by decide) ?_
  refine lv_istore_n (lv' := [(3, .int (3 : Int32)), (0, .ref (a 19)), (1, .int x1), (2, .int x2)]) hx hb d_M_addRoman_1 rfl hl (by decide) rfl (fun ls hl => ?_)
  obtain ⟨n, h⟩ := h
  exact w_M_addRoman_2 hfl K n x1 x2 (3 : Int32) M _ _ _ h (lv_sub hl [1, 2, 3, 0] rfl) hw
theorem d_M_letters_0 : decode nb_M_letters 0 = .ok (.aload_n 0, 1) := by decide +kernel
theorem d_M_letters_1 : decode nb_M_letters 1 = .ok (.iload_n 1, 1) := by decide +kernel
theorem d_M_letters_2 : decode nb_M_letters 2 = .ok (.invokestatic 148, 3) := by decide +kernel
theorem d_M_letters_5 : decode nb_M_letters 5 = .ok (.ifCond .eq 12, 3) := by decide +kernel
theorem d_M_letters_8 : decode nb_M_letters 8 = .ok (.iload_n 2, 1) := by decide +kernel
theorem d_M_letters_9 : decode nb_M_letters 9 = .ok (.ifCond .lt 8, 3) := by decide +kernel
theorem d_M_letters_12 : decode nb_M_letters 12 = .ok (.iload_n 2, 1) := by decide +kernel
theorem d_M_letters_13 : decode nb_M_letters 13 = .ok (.iconst 4, 1) := by decide +kernel
theorem d_M_letters_14 : decode nb_M_letters 14 = .ok (.if_icmp .le 7, 3) := by decide +kernel
theorem d_M_letters_17 : decode nb_M_letters 17 = .ok (.iconst 1, 1) := by decide +kernel
theorem d_M_letters_18 : decode nb_M_letters 18 = .ok (.goto 29, 3) := by decide +kernel
theorem d_M_letters_21 : decode nb_M_letters 21 = .ok (.aload_n 0, 1) := by decide +kernel
theorem d_M_letters_22 : decode nb_M_letters 22 = .ok (.getfield 16, 3) := by decide +kernel
theorem d_M_letters_25 : decode nb_M_letters 25 = .ok (.iload_n 1, 1) := by decide +kernel
theorem d_M_letters_26 : decode nb_M_letters 26 = .ok (.iaload, 1) := by decide +kernel
theorem d_M_letters_27 : decode nb_M_letters 27 = .ok (.iconst 1, 1) := by decide +kernel
theorem d_M_letters_28 : decode nb_M_letters 28 = .ok (.if_icmp .lt 14, 3) := by decide +kernel
theorem d_M_letters_31 : decode nb_M_letters 31 = .ok (.aload_n 0, 1) := by decide +kernel
theorem d_M_letters_32 : decode nb_M_letters 32 = .ok (.getfield 16, 3) := by decide +kernel
theorem d_M_letters_35 : decode nb_M_letters 35 = .ok (.iload_n 1, 1) := by decide +kernel
theorem d_M_letters_36 : decode nb_M_letters 36 = .ok (.iaload, 1) := by decide +kernel
theorem d_M_letters_37 : decode nb_M_letters 37 = .ok (.bipush 7, 2) := by decide +kernel
theorem d_M_letters_39 : decode nb_M_letters 39 = .ok (.if_icmp .le 7, 3) := by decide +kernel
theorem d_M_letters_42 : decode nb_M_letters 42 = .ok (.iconst 2, 1) := by decide +kernel
theorem d_M_letters_43 : decode nb_M_letters 43 = .ok (.goto 4, 3) := by decide +kernel
theorem d_M_letters_46 : decode nb_M_letters 46 = .ok (.iconst 0, 1) := by decide +kernel
theorem d_M_letters_47 : decode nb_M_letters 47 = .ok (.putfield 33, 3) := by decide +kernel
theorem d_M_letters_50 : decode nb_M_letters 50 = .ok (.aload_n 0, 1) := by decide +kernel
theorem d_M_letters_51 : decode nb_M_letters 51 = .ok (.getfield 33, 3) := by decide +kernel
theorem d_M_letters_54 : decode nb_M_letters 54 = .ok (.ifCond .le 5, 3) := by decide +kernel
theorem d_M_letters_57 : decode nb_M_letters 57 = .ok (.iconst 0, 1) := by decide +kernel
theorem d_M_letters_58 : decode nb_M_letters 58 = .ok (.ireturn, 1) := by decide +kernel
theorem d_M_letters_59 : decode nb_M_letters 59 = .ok (.aload_n 0, 1) := by decide +kernel
theorem d_M_letters_60 : decode nb_M_letters 60 = .ok (.getfield 19, 3) := by decide +kernel
theorem d_M_letters_63 : decode nb_M_letters 63 = .ok (.iload_n 1, 1) := by decide +kernel
theorem d_M_letters_64 : decode nb_M_letters 64 = .ok (.laload, 1) := by decide +kernel
theorem d_M_letters_65 : decode nb_M_letters 65 = .ok (.lstore_n 3, 1) := by decide +kernel
theorem d_M_letters_66 : decode nb_M_letters 66 = .ok (.aload_n 0, 1) := by decide +kernel
theorem d_M_letters_67 : decode nb_M_letters 67 = .ok (.iconst 0, 1) := by decide +kernel
theorem d_M_letters_68 : decode nb_M_letters 68 = .ok (.putfield 249, 3) := by decide +kernel
theorem d_M_letters_71 : decode nb_M_letters 71 = .ok (.iload_n 2, 1) := by decide +kernel
theorem d_M_letters_72 : decode nb_M_letters 72 = .ok (.ifCond .le 34, 3) := by decide +kernel
theorem d_M_letters_75 : decode nb_M_letters 75 = .ok (.iload_n 2, 1) := by decide +kernel
theorem d_M_letters_76 : decode nb_M_letters 76 = .ok (.iconst 3, 1) := by decide +kernel
theorem d_M_letters_77 : decode nb_M_letters 77 = .ok (.if_icmp .ge 29, 3) := by decide +kernel
theorem d_M_letters_80 : decode nb_M_letters 80 = .ok (.lload_n 3, 1) := by decide +kernel
theorem d_M_letters_81 : decode nb_M_letters 81 = .ok (.lconst 0, 1) := by decide +kernel
theorem d_M_letters_82 : decode nb_M_letters 82 = .ok (.lcmp, 1) := by decide +kernel
theorem d_M_letters_83 : decode nb_M_letters 83 = .ok (.ifCond .le 23, 3) := by decide +kernel
theorem d_M_letters_86 : decode nb_M_letters 86 = .ok (.aload_n 0, 1) := by decide +kernel
theorem d_M_letters_87 : decode nb_M_letters 87 = .ok (.lload_n 3, 1) := by decide +kernel
theorem d_M_letters_88 : decode nb_M_letters 88 = .ok (.iload_n 2, 1) := by decide +kernel
theorem d_M_letters_89 : decode nb_M_letters 89 = .ok (.iconst 1, 1) := by decide +kernel
theorem d_M_letters_90 : decode nb_M_letters 90 = .ok (.if_icmp .ne 8, 3) := by decide +kernel
theorem d_M_letters_93 : decode nb_M_letters 93 = .ok (.bipush 97, 2) := by decide +kernel
theorem d_M_letters_95 : decode nb_M_letters 95 = .ok (.goto 5, 3) := by decide +kernel
theorem d_M_letters_98 : decode nb_M_letters 98 = .ok (.bipush 65, 2) := by decide +kernel
theorem d_M_letters_100 : decode nb_M_letters 100 = .ok (.invokevirtual 316, 3) := by decide +kernel
theorem d_M_letters_103 : decode nb_M_letters 103 = .ok (.goto 47, 3) := by decide +kernel
theorem d_M_letters_106 : decode nb_M_letters 106 = .ok (.iload_n 2, 1) := by decide +kernel
theorem d_M_letters_107 : decode nb_M_letters 107 = .ok (.iconst 2, 1) := by decide +kernel
theorem d_M_letters_108 : decode nb_M_letters 108 = .ok (.if_icmp .le 36, 3) := by decide +kernel
theorem d_M_letters_111 : decode nb_M_letters 111 = .ok (.lload_n 3, 1) := by decide +kernel
theorem d_M_letters_112 : decode nb_M_letters 112 = .ok (.lconst 0, 1) := by decide +kernel
theorem d_M_letters_113 : decode nb_M_letters 113 = .ok (.lcmp, 1) := by decide +kernel
theorem d_M_letters_114 : decode nb_M_letters 114 = .ok (.ifCond .le 30, 3) := by decide +kernel
theorem d_M_letters_117 : decode nb_M_letters 117 = .ok (.lload_n 3, 1) := by decide +kernel
theorem d_M_letters_118 : decode nb_M_letters 118 = .ok (.ldc2_w 319, 3) := by decide +kernel
theorem d_M_letters_121 : decode nb_M_letters 121 = .ok (.lcmp, 1) := by decide +kernel
theorem d_M_letters_122 : decode nb_M_letters 122 = .ok (.ifCond .ge 22, 3) := by decide +kernel
theorem d_M_letters_125 : decode nb_M_letters 125 = .ok (.aload_n 0, 1) := by decide +kernel
theorem d_M_letters_126 : decode nb_M_letters 126 = .ok (.lload_n 3, 1) := by decide +kernel
theorem d_M_letters_127 : decode nb_M_letters 127 = .ok (.l2i, 1) := by decide +kernel
theorem d_M_letters_128 : decode nb_M_letters 128 = .ok (.iload_n 2, 1) := by decide +kernel
theorem d_M_letters_129 : decode nb_M_letters 129 = .ok (.iconst 4, 1) := by decide +kernel
theorem d_M_letters_130 : decode nb_M_letters 130 = .ok (.if_icmp .ne 7, 3) := by decide +kernel
theorem d_M_letters_133 : decode nb_M_letters 133 = .ok (.iconst 1, 1) := by decide +kernel
theorem d_M_letters_134 : decode nb_M_letters 134 = .ok (.goto 4, 3) := by decide +kernel
theorem d_M_letters_137 : decode nb_M_letters 137 = .ok (.iconst 0, 1) := by decide +kernel
theorem d_M_letters_138 : decode nb_M_letters 138 = .ok (.invokevirtual 321, 3) := by decide +kernel
theorem d_M_letters_141 : decode nb_M_letters 141 = .ok (.goto 9, 3) := by decide +kernel
theorem d_M_letters_144 : decode nb_M_letters 144 = .ok (.aload_n 0, 1) := by decide +kernel
theorem d_M_letters_145 : decode nb_M_letters 145 = .ok (.lload_n 3, 1) := by decide +kernel
theorem d_M_letters_146 : decode nb_M_letters 146 = .ok (.iconst 0, 1) := by decide +kernel
theorem d_M_letters_147 : decode nb_M_letters 147 = .ok (.invokevirtual 268, 3) := by decide +kernel
theorem d_M_letters_150 : decode nb_M_letters 150 = .ok (.aload_n 0, 1) := by decide +kernel
theorem d_M_letters_151 : decode nb_M_letters 151 = .ok (.getfield 249, 3) := by decide +kernel
theorem d_M_letters_154 : decode nb_M_letters 154 = .ok (.ireturn, 1) := by decide +kernel
abbrev rm_M_letters : Room := ({ frames := 3, cells := 0, slots := 0, locals := 74 })
theorem w_M_letters_150 {post : Int32 → nf_M → Prop} (hfl : l.flags = flags0) (K : nf_K p s m args meth c "NumberForgeModel" nb_M_letters 5 (some FieldType.int) D a sz) : ∀ (M : nf_M) (H : Heap) (locs : List Loc) (ls : Array Slot), B_M_letters_150 post  M → lv_has ls 5 [(0, .ref (a 19))] → nf_W D a s sz H locs M → W p l e rm_M_letters s m args below meth c H locs 0 0 (nf_MQ below (nf_Q nf_jI D a post ex (nf_A a sz)) args s rm_M_letters.cells rm_M_letters.slots (nf_A a sz)) (F0 m 150 ls []) := by
  have hx := K.1
  have hb := K.2.1
  intro  M H locs ls h hl hw
  refine lv_aload_n hx hb d_M_letters_150 rfl (lv_at hl 0 rfl) ?_
  refine nf_get (v := .int (mg_I M 19 3)) K hw 19 7 3 nw_934 rfl rfl ni_M (by decide) rfl rfl d_M_letters_151 ?_
  exact nf_iret K hw d_M_letters_154 rfl (Nat.le_of_ble_eq_true rfl) (Nat.le_of_ble_eq_true rfl) (r := mg_I M 19 3) rfl h
theorem w_M_letters_100 {post : Int32 → nf_M → Prop} (hfl : l.flags = flags0) (K : nf_K p s m args meth c "NumberForgeModel" nb_M_letters 5 (some FieldType.int) D a sz) : ∀ (xy0 : Int32) (xy1 : Int64) (M : nf_M) (H : Heap) (locs : List Loc) (ls : Array Slot), B_M_letters_100 post xy0 xy1 M → lv_has ls 5 [(0, .ref (a 19))] → nf_W D a s sz H locs M → W p l e rm_M_letters s m args below meth c H locs 0 0 (nf_MQ below (nf_Q nf_jI D a post ex (nf_A a sz)) args s rm_M_letters.cells rm_M_letters.slots (nf_A a sz)) (F0 m 100 ls [.int xy0, .long xy1, .ref (a 19)]) := by
  have hx := K.1
  have hb := K.2.1
  intro xy0 xy1 M H locs ls h hl hw
  refine nf_callW (ex := (fun _ _ => False)) (As := [.ref (a 19), .long xy1, .int xy0]) (st0 := [.int xy0, .long xy1, .ref (a 19)]) (rest := []) K hw (nf_invV hx hb K.2.2.2.1 (nf_Kg K nw_1262) (nf_Kg K nw_1264) (nf_Kg K nx_M_addLetters) (nf_Kg K nw_1265) ⟨by decide, by decide⟩ (nf_rcv K hw 19 7 rfl rfl) rfl nl_M_addLetters rfl d_M_letters_100) (c_M_addLetters l hfl xy1 xy0) nw_1265 nw_9 rfl ⟨by decide, by decide⟩ (Nat.le_of_ble_eq_true rfl) hl.1 ⟨Nat.le_of_ble_eq_true rfl, Nat.le_of_ble_eq_true rfl⟩ h (fun _ _ h => h.elim) (fun r1 M2 H locs h hw => ?_)
  refine W.eq (g2 := F0 m 103 ls []) rfl ?_
  refine lv_goto hx hb d_M_letters_103 (tgt := 150) (by decide) ?_
  exact w_M_letters_150 hfl K  M2 _ _ _ h (lv_sub hl [0] rfl) hw
theorem w_M_letters_138 {post : Int32 → nf_M → Prop} (hfl : l.flags = flags0) (K : nf_K p s m args meth c "NumberForgeModel" nb_M_letters 5 (some FieldType.int) D a sz) : ∀ (xy0 : Int32) (xy1 : Int32) (M : nf_M) (H : Heap) (locs : List Loc) (ls : Array Slot), B_M_letters_138 post xy0 xy1 M → lv_has ls 5 [(0, .ref (a 19))] → nf_W D a s sz H locs M → W p l e rm_M_letters s m args below meth c H locs 0 0 (nf_MQ below (nf_Q nf_jI D a post ex (nf_A a sz)) args s rm_M_letters.cells rm_M_letters.slots (nf_A a sz)) (F0 m 138 ls [.int xy0, .int xy1, .ref (a 19)]) := by
  have hx := K.1
  have hb := K.2.1
  intro xy0 xy1 M H locs ls h hl hw
  refine nf_callW (ex := (fun _ _ => False)) (As := [.ref (a 19), .int xy1, .int xy0]) (st0 := [.int xy0, .int xy1, .ref (a 19)]) (rest := []) K hw (nf_invV hx hb K.2.2.2.1 (nf_Kg K nw_1268) (nf_Kg K nw_1270) (nf_Kg K nx_M_addRoman) (nf_Kg K nw_1271) ⟨by decide, by decide⟩ (nf_rcv K hw 19 7 rfl rfl) rfl nl_M_addRoman rfl d_M_letters_138) (c_M_addRoman l hfl xy1 xy0) nw_1271 nw_9 rfl ⟨by decide, by decide⟩ (Nat.le_of_ble_eq_true rfl) hl.1 ⟨Nat.le_of_ble_eq_true rfl, Nat.le_of_ble_eq_true rfl⟩ h (fun _ _ h => h.elim) (fun r1 M2 H locs h hw => ?_)
  refine W.eq (g2 := F0 m 141 ls []) rfl ?_
  refine lv_goto hx hb d_M_letters_141 (tgt := 150) (by decide) ?_
  exact w_M_letters_150 hfl K  M2 _ _ _ h (lv_sub hl [0] rfl) hw
theorem w_M_letters_144 {post : Int32 → nf_M → Prop} (hfl : l.flags = flags0) (K : nf_K p s m args meth c "NumberForgeModel" nb_M_letters 5 (some FieldType.int) D a sz) : ∀ (x3 : Int64) (M : nf_M) (H : Heap) (locs : List Loc) (ls : Array Slot), B_M_letters_144 post x3 M → lv_has ls 5 [(0, .ref (a 19)), (3, .long x3)] → nf_W D a s sz H locs M → W p l e rm_M_letters s m args below meth c H locs 0 0 (nf_MQ below (nf_Q nf_jI D a post ex (nf_A a sz)) args s rm_M_letters.cells rm_M_letters.slots (nf_A a sz)) (F0 m 144 ls []) := by
  have hx := K.1
  have hb := K.2.1
  intro x3 M H locs ls h hl hw
  refine lv_aload_n hx hb d_M_letters_144 rfl (lv_at hl 0 rfl) ?_
  refine lv_lload_n hx hb d_M_letters_145 rfl (lv_at hl 1 rfl) ?_
  refine lv_iconst (v := (0 : Int32)) hx hb d_M_letters_146 (by decide) ?_
  refine nf_callW (ex := (fun _ _ => False)) (As := [.ref (a 19), .long x3, .int (0 : Int32)]) (st0 := [.int (0 : Int32), .long x3, .ref (a 19)]) (rest := []) K hw (nf_invV hx hb K.2.2.2.1 (nf_Kg K nw_1202) (nf_Kg K nw_1204) (nf_Kg K nx_M_addExact) (nf_Kg K nw_1205) ⟨by decide, by decide⟩ (nf_rcv K hw 19 7 rfl rfl) rfl nl_M_addExact rfl d_M_letters_147) (c_M_addExact l hfl x3 (0 : Int32)) nw_1205 nw_9 rfl ⟨by decide, by decide⟩ (Nat.le_of_ble_eq_true rfl) hl.1 ⟨Nat.le_of_ble_eq_true rfl, Nat.le_of_ble_eq_true rfl⟩ h (fun _ _ h => h.elim) (fun r1 M2 H locs h hw => ?_)
  refine W.eq (g2 := F0 m 150 ls []) rfl ?_
  exact w_M_letters_150 hfl K  M2 _ _ _ h (lv_sub hl [0] rfl) hw
theorem w_M_letters_106 {post : Int32 → nf_M → Prop} (hfl : l.flags = flags0) (K : nf_K p s m args meth c "NumberForgeModel" nb_M_letters 5 (some FieldType.int) D a sz) : ∀ (x2 : Int32) (x3 : Int64) (M : nf_M) (H : Heap) (locs : List Loc) (ls : Array Slot), B_M_letters_106 post x2 x3 M → lv_has ls 5 [(0, .ref (a 19)), (2, .int x2), (3, .long x3)] → nf_W D a s sz H locs M → W p l e rm_M_letters s m args below meth c H locs 0 0 (nf_MQ below (nf_Q nf_jI D a post ex (nf_A a sz)) args s rm_M_letters.cells rm_M_letters.slots (nf_A a sz)) (F0 m 106 ls []) := by
  have hx := K.1
  have hb := K.2.1
  intro x2 x3 M H locs ls h hl hw
  refine lv_iload_n hx hb d_M_letters_106 rfl (lv_at hl 1 rfl) ?_
  refine lv_iconst (v := (2 : Int32)) hx hb d_M_letters_107 (by decide) ?_
  refine nf_ic_le hx hb d_M_letters_108 (tgt := 144) (by decide) (fun hc => ?_) (fun hc => ?_)
  · have h := h.1 hc
    refine lv_lload_n hx hb d_M_letters_111 rfl (lv_at hl 2 rfl) ?_
    refine lv_lconst (v := (0 : Int64)) hx hb d_M_letters_112 (by decide) ?_
    refine nf_lc_le hx hb d_M_letters_113 d_M_letters_114 (tgt := 144) (by decide) (fun hc => ?_) (fun hc => ?_)
    · have h := h.1 hc
      refine lv_lload_n hx hb d_M_letters_117 rfl (lv_at hl 2 rfl) ?_
      refine lv_ldc2 (v := (4000 : Int64)) hx hb K.2.2.2.1 (nf_Kg K nw_1267) d_M_letters_118 ?_
      refine nf_lc_ge hx hb d_M_letters_121 d_M_letters_122 (tgt := 144) (by decide) (fun hc => ?_) (fun hc => ?_)
      · have h := h.1 hc
        refine lv_aload_n hx hb d_M_letters_125 rfl (lv_at hl 0 rfl) ?_
        refine lv_lload_n hx hb d_M_letters_126 rfl (lv_at hl 2 rfl) ?_
        refine lv_l2i hx hb d_M_letters_127 rfl ?_
        refine lv_iload_n hx hb d_M_letters_128 rfl (lv_at hl 1 rfl) ?_
        refine lv_iconst (v := (4 : Int32)) hx hb d_M_letters_129 (by decide) ?_
        refine nf_ic_ne hx hb d_M_letters_130 (tgt := 137) (by decide) (fun hc => ?_) (fun hc => ?_)
        · have h := h.1 hc
          refine lv_iconst (v := (1 : Int32)) hx hb d_M_letters_133 (by decide) ?_
          refine lv_goto hx hb d_M_letters_134 (tgt := 138) (by decide) ?_
          exact w_M_letters_138 hfl K (1 : Int32) (x3.toInt32) M _ _ _ h (lv_sub hl [0] rfl) hw
        · have h := h.2 hc
          refine lv_iconst (v := (0 : Int32)) hx hb d_M_letters_137 (by decide) ?_
          exact w_M_letters_138 hfl K (0 : Int32) (x3.toInt32) M _ _ _ h (lv_sub hl [0] rfl) hw
      · have h := h.2 hc
        exact w_M_letters_144 hfl K x3 M _ _ _ h (lv_sub hl [0, 2] rfl) hw
    · have h := h.2 hc
      exact w_M_letters_144 hfl K x3 M _ _ _ h (lv_sub hl [0, 2] rfl) hw
  · have h := h.2 hc
    exact w_M_letters_144 hfl K x3 M _ _ _ h (lv_sub hl [0, 2] rfl) hw
theorem w_M_letters_47 {post : Int32 → nf_M → Prop} (hfl : l.flags = flags0) (K : nf_K p s m args meth c "NumberForgeModel" nb_M_letters 5 (some FieldType.int) D a sz) : ∀ (x1 : Int32) (x2 : Int32) (xy0 : Int32) (M : nf_M) (H : Heap) (locs : List Loc) (ls : Array Slot), B_M_letters_47 post x1 x2 xy0 M → lv_has ls 5 [(0, .ref (a 19)), (1, .int x1), (2, .int x2)] → nf_W D a s sz H locs M → W p l e rm_M_letters s m args below meth c H locs 0 0 (nf_MQ below (nf_Q nf_jI D a post ex (nf_A a sz)) args s rm_M_letters.cells rm_M_letters.slots (nf_A a sz)) (F0 m 47 ls [.int xy0, .ref (a 19)]) := by
  have hx := K.1
  have hb := K.2.1
  intro x1 x2 xy0 M H locs ls h hl hw
  refine nf_put (M' := ms_I M 19 0 xy0) K hw 19 7 0 nw_931 rfl rfl rfl ni_M ny_M nq_M nn_M (by decide) rfl rfl rfl rfl (Nat.le_of_ble_eq_true rfl) d_M_letters_47 (fun H locs hw => ?_)
  obtain ⟨M1, eM1⟩ : ∃ z, z = ms_I M 19 0 xy0 := ⟨_, rfl⟩
  rw [← eM1] at hw
  have h := h M1 eM1
  refine lv_aload_n hx hb d_M_letters_50 rfl (lv_at hl 0 rfl) ?_
  refine nf_get (v := .int (mg_I M1 19 0)) K hw 19 7 0 nw_931 rfl rfl ni_M (by decide) rfl rfl d_M_letters_51 ?_
  refine nf_if_le hx hb d_M_letters_54 (tgt := 59) (by decide) (fun hc => ?_) (fun hc => ?_)
  · have h := h.1 hc
    refine lv_iconst (v := (0 : Int32)) hx hb d_M_letters_57 (by decide) ?_
    exact nf_iret K hw d_M_letters_58 rfl (Nat.le_of_ble_eq_true rfl) (Nat.le_of_ble_eq_true rfl) (r := (0 : Int32)) rfl h
  · have h := h.2 hc
    refine lv_aload_n hx hb d_M_letters_59 rfl (lv_at hl 0 rfl) ?_
    refine nf_get (v := .ref (a 23)) K hw 19 7 6 nw_937 rfl rfl ni_M (by decide) rfl rfl d_M_letters_60 ?_
    refine lv_iload_n hx hb d_M_letters_63 rfl (lv_at hl 1 rfl) ?_
    obtain ⟨g2, h⟩ := h
    refine nf_lald K hw 23 6 rfl rfl g2 d_M_letters_64 ?_
    refine lv_topl (fun t3 et3 => ?_)
    have h := h t3 et3
    refine lv_lstore_n (lv' := [(3, .long t3), (0, .ref (a 19)), (1, .int x1), (2, .int x2)]) hx hb d_M_letters_65 rfl hl (by decide) rfl (fun ls hl => ?_)
    refine lv_aload_n hx hb d_M_letters_66 rfl (lv_at hl 1 rfl) ?_
    refine lv_iconst (v := (0 : Int32)) hx hb d_M_letters_67 (by decide) ?_
    refine nf_put (M' := ms_I M1 19 3 (0 : Int32)) K hw 19 7 3 nw_934 rfl rfl rfl ni_M ny_M nq_M nn_M (by decide) rfl rfl rfl rfl (Nat.le_of_ble_eq_true rfl) d_M_letters_68 (fun H locs hw => ?_)
    obtain ⟨M4, eM4⟩ : ∃ z, z = ms_I M1 19 3 (0 : Int32) := ⟨_, rfl⟩
    rw [← eM4] at hw
    have h := h M4 eM4
    refine lv_iload_n hx hb d_M_letters_71 rfl (lv_at hl 3 rfl) ?_
    refine nf_if_le hx hb d_M_letters_72 (tgt := 106) (by decide) (fun hc => ?_) (fun hc => ?_)
    · have h := h.1 hc
      refine lv_iload_n hx hb d_M_letters_75 rfl (lv_at hl 3 rfl) ?_
      refine lv_iconst (v := (3 : Int32)) hx hb d_M_letters_76 (by decide) ?_
      refine nf_ic_ge hx hb d_M_letters_77 (tgt := 106) (by decide) (fun hc => ?_) (fun hc => ?_)
      · have h := h.1 hc
        refine lv_lload_n hx hb d_M_letters_80 rfl (lv_at hl 0 rfl) ?_
        refine lv_lconst (v := (0 : Int64)) hx hb d_M_letters_81 (by decide) ?_
        refine nf_lc_le hx hb d_M_letters_82 d_M_letters_83 (tgt := 106) (by decide) (fun hc => ?_) (fun hc => ?_)
        · have h := h.1 hc
          refine lv_aload_n hx hb d_M_letters_86 rfl (lv_at hl 1 rfl) ?_
          refine lv_lload_n hx hb d_M_letters_87 rfl (lv_at hl 0 rfl) ?_
          refine lv_iload_n hx hb d_M_letters_88 rfl (lv_at hl 3 rfl) ?_
          refine lv_iconst (v := (1 : Int32)) hx hb d_M_letters_89 (by decide) ?_
          refine nf_ic_ne hx hb d_M_letters_90 (tgt := 98) (by decide) (fun hc => ?_) (fun hc => ?_)
          · have h := h.1 hc
            refine lv_bipush (v := (97 : Int32)) hx hb d_M_letters_93 (by decide) ?_
            refine lv_goto hx hb d_M_letters_95 (tgt := 100) (by decide) ?_
            exact w_M_letters_100 hfl K (97 : Int32) t3 M4 _ _ _ h (lv_sub hl [1] rfl) hw
          · have h := h.2 hc
            refine lv_bipush (v := (65 : Int32)) hx hb d_M_letters_98 (by decide) ?_
            exact w_M_letters_100 hfl K (65 : Int32) t3 M4 _ _ _ h (lv_sub hl [1] rfl) hw
        · have h := h.2 hc
          exact w_M_letters_106 hfl K x2 t3 M4 _ _ _ h (lv_sub hl [1, 3, 0] rfl) hw
      · have h := h.2 hc
        exact w_M_letters_106 hfl K x2 t3 M4 _ _ _ h (lv_sub hl [1, 3, 0] rfl) hw
    · have h := h.2 hc
      exact w_M_letters_106 hfl K x2 t3 M4 _ _ _ h (lv_sub hl [1, 3, 0] rfl) hw
theorem w_M_letters_17 {post : Int32 → nf_M → Prop} (hfl : l.flags = flags0) (K : nf_K p s m args meth c "NumberForgeModel" nb_M_letters 5 (some FieldType.int) D a sz) : ∀ (x1 : Int32) (x2 : Int32) (M : nf_M) (H : Heap) (locs : List Loc) (ls : Array Slot), B_M_letters_17 post x1 x2 M → lv_has ls 5 [(0, .ref (a 19)), (1, .int x1), (2, .int x2)] → nf_W D a s sz H locs M → W p l e rm_M_letters s m args below meth c H locs 0 0 (nf_MQ below (nf_Q nf_jI D a post ex (nf_A a sz)) args s rm_M_letters.cells rm_M_letters.slots (nf_A a sz)) (F0 m 17 ls [.ref (a 19)]) := by
  have hx := K.1
  have hb := K.2.1
  intro x1 x2 M H locs ls h hl hw
  refine lv_iconst (v := (1 : Int32)) hx hb d_M_letters_17 (by decide) ?_
  refine lv_goto hx hb d_M_letters_18 (tgt := 47) (by decide) ?_
  exact w_M_letters_47 hfl K x1 x2 (1 : Int32) M _ _ _ h (lv_sub hl [0, 1, 2] rfl) hw
theorem w_M_letters_42 {post : Int32 → nf_M → Prop} (hfl : l.flags = flags0) (K : nf_K p s m args meth c "NumberForgeModel" nb_M_letters 5 (some FieldType.int) D a sz) : ∀ (x1 : Int32) (x2 : Int32) (M : nf_M) (H : Heap) (locs : List Loc) (ls : Array Slot), B_M_letters_42 post x1 x2 M → lv_has ls 5 [(0, .ref (a 19)), (1, .int x1), (2, .int x2)] → nf_W D a s sz H locs M → W p l e rm_M_letters s m args below meth c H locs 0 0 (nf_MQ below (nf_Q nf_jI D a post ex (nf_A a sz)) args s rm_M_letters.cells rm_M_letters.slots (nf_A a sz)) (F0 m 42 ls [.ref (a 19)]) := by
  have hx := K.1
  have hb := K.2.1
  intro x1 x2 M H locs ls h hl hw
  refine lv_iconst (v := (2 : Int32)) hx hb d_M_letters_42 (by decide) ?_
  refine lv_goto hx hb d_M_letters_43 (tgt := 47) (by decide) ?_
  exact w_M_letters_47 hfl K x1 x2 (2 : Int32) M _ _ _ h (lv_sub hl [0, 1, 2] rfl) hw
theorem c_M_letters (l : Launch) (hfl : l.flags = flags0) (x1 : Int32) (x2 : Int32) : nf_C nf_jI l nm_M_letters nb_M_letters 5 (some FieldType.int) rm_M_letters (fun a => [.ref (a 19), .int x1, .int x2]) (fun M post ex => P_M_letters x1 x2 M post) := by
  refine nf_start (plainFor_of_name (by decide +kernel)) (fun a => Nat.le_of_ble_eq_true rfl) ?_
  intro D a sz M post ex p e s m below meth c ls h K hl hw
  have hx := K.1
  have hb := K.2.1
  have hl : lv_has ls 5 [(0, .ref (a 19)), (1, .int x1), (2, .int x2)] := hl
  refine lv_aload_n hx hb d_M_letters_0 rfl (lv_at hl 0 rfl) ?_
  refine lv_iload_n hx hb d_M_letters_1 rfl (lv_at hl 1 rfl) ?_
  refine nf_callW (ex := (fun _ _ => False)) (As := [.int x1]) (st0 := [.int x1, .ref (a 19)]) (rest := [.ref (a 19)]) K hw (nf_invS hx hb K.2.2.2.1 (nf_Kg K nw_1008) (nf_Kg K nw_1009) (nf_Kg K nw_9) (nf_Kg K nw_1010) ⟨by decide, by decide⟩ rfl nl_M_isRegister rfl d_M_letters_2) (c_M_isRegister l hfl x1) nw_1010 nw_9 rfl ⟨by decide, by decide⟩ (Nat.le_of_ble_eq_true rfl) hl.1 ⟨Nat.le_of_ble_eq_true rfl, Nat.le_of_ble_eq_true rfl⟩ h (fun _ _ h => h.elim) (fun r1 M2 H locs h hw => ?_)
  refine W.eq (g2 := F0 m 5 ls [.int r1, .ref (a 19)]) rfl ?_
  refine nf_if_eq hx hb d_M_letters_5 (tgt := 17) (by decide) (fun hc => ?_) (fun hc => ?_)
  · have h := h.1 hc
    exact w_M_letters_17 hfl K x1 x2 M2 _ _ _ h (lv_sub hl [0, 1, 2] rfl) hw
  · have h := h.2 hc
    refine lv_iload_n hx hb d_M_letters_8 rfl (lv_at hl 2 rfl) ?_
    refine nf_if_lt hx hb d_M_letters_9 (tgt := 17) (by decide) (fun hc => ?_) (fun hc => ?_)
    · have h := h.1 hc
      exact w_M_letters_17 hfl K x1 x2 M2 _ _ _ h (lv_sub hl [0, 1, 2] rfl) hw
    · have h := h.2 hc
      refine lv_iload_n hx hb d_M_letters_12 rfl (lv_at hl 2 rfl) ?_
      refine lv_iconst (v := (4 : Int32)) hx hb d_M_letters_13 (by decide) ?_
      refine nf_ic_le hx hb d_M_letters_14 (tgt := 21) (by decide) (fun hc => ?_) (fun hc => ?_)
      · have h := h.1 hc
        exact w_M_letters_17 hfl K x1 x2 M2 _ _ _ h (lv_sub hl [0, 1, 2] rfl) hw
      · have h := h.2 hc
        refine lv_aload_n hx hb d_M_letters_21 rfl (lv_at hl 0 rfl) ?_
        refine nf_get (v := .ref (a 22)) K hw 19 7 5 nw_936 rfl rfl ni_M (by decide) rfl rfl d_M_letters_22 ?_
        refine lv_iload_n hx hb d_M_letters_25 rfl (lv_at hl 1 rfl) ?_
        obtain ⟨g3, h⟩ := h
        refine nf_iald K hw 22 5 rfl rfl g3 d_M_letters_26 ?_
        refine lv_iconst (v := (1 : Int32)) hx hb d_M_letters_27 (by decide) ?_
        refine nf_ic_lt hx hb d_M_letters_28 (tgt := 42) (by decide) (fun hc => ?_) (fun hc => ?_)
        · have h := h.1 hc
          exact w_M_letters_42 hfl K x1 x2 M2 _ _ _ h (lv_sub hl [0, 1, 2] rfl) hw
        · have h := h.2 hc
          refine lv_aload_n hx hb d_M_letters_31 rfl (lv_at hl 0 rfl) ?_
          refine nf_get (v := .ref (a 22)) K hw 19 7 5 nw_936 rfl rfl ni_M (by decide) rfl rfl d_M_letters_32 ?_
          refine lv_iload_n hx hb d_M_letters_35 rfl (lv_at hl 1 rfl) ?_
          obtain ⟨g4, h⟩ := h
          refine nf_iald K hw 22 5 rfl rfl g4 d_M_letters_36 ?_
          refine lv_bipush (v := (7 : Int32)) hx hb d_M_letters_37 (by decide) ?_
          refine nf_ic_le hx hb d_M_letters_39 (tgt := 46) (by decide) (fun hc => ?_) (fun hc => ?_)
          · have h := h.1 hc
            exact w_M_letters_42 hfl K x1 x2 M2 _ _ _ h (lv_sub hl [0, 1, 2] rfl) hw
          · have h := h.2 hc
            refine lv_iconst (v := (0 : Int32)) hx hb d_M_letters_46 (by decide) ?_
            exact w_M_letters_47 hfl K x1 x2 (0 : Int32) M2 _ _ _ h (lv_sub hl [0, 1, 2] rfl) hw
theorem d_M_output_0 : decode nb_M_output 0 = .ok (.aload_n 0, 1) := by decide +kernel
theorem d_M_output_1 : decode nb_M_output 1 = .ok (.iconst 0, 1) := by decide +kernel
theorem d_M_output_2 : decode nb_M_output 2 = .ok (.putfield 33, 3) := by decide +kernel
theorem d_M_output_5 : decode nb_M_output 5 = .ok (.iload_n 1, 1) := by decide +kernel
theorem d_M_output_6 : decode nb_M_output 6 = .ok (.iconst (-1), 1) := by decide +kernel
theorem d_M_output_7 : decode nb_M_output 7 = .ok (.if_icmp .ne 10, 3) := by decide +kernel
theorem d_M_output_10 : decode nb_M_output 10 = .ok (.aload_n 0, 1) := by decide +kernel
theorem d_M_output_11 : decode nb_M_output 11 = .ok (.getfield 249, 3) := by decide +kernel
theorem d_M_output_14 : decode nb_M_output 14 = .ok (.goto 25, 3) := by decide +kernel
theorem d_M_output_17 : decode nb_M_output 17 = .ok (.iload_n 1, 1) := by decide +kernel
theorem d_M_output_18 : decode nb_M_output 18 = .ok (.ifCond .lt 11, 3) := by decide +kernel
theorem d_M_output_21 : decode nb_M_output 21 = .ok (.iload_n 1, 1) := by decide +kernel
theorem d_M_output_22 : decode nb_M_output 22 = .ok (.aload_n 0, 1) := by decide +kernel
theorem d_M_output_23 : decode nb_M_output 23 = .ok (.getfield 249, 3) := by decide +kernel
theorem d_M_output_26 : decode nb_M_output 26 = .ok (.if_icmp .lt 7, 3) := by decide +kernel
theorem d_M_output_29 : decode nb_M_output 29 = .ok (.iconst (-1), 1) := by decide +kernel
theorem d_M_output_30 : decode nb_M_output 30 = .ok (.goto 9, 3) := by decide +kernel
theorem d_M_output_33 : decode nb_M_output 33 = .ok (.aload_n 0, 1) := by decide +kernel
theorem d_M_output_34 : decode nb_M_output 34 = .ok (.getfield 13, 3) := by decide +kernel
theorem d_M_output_37 : decode nb_M_output 37 = .ok (.iload_n 1, 1) := by decide +kernel
theorem d_M_output_38 : decode nb_M_output 38 = .ok (.iaload, 1) := by decide +kernel
theorem d_M_output_39 : decode nb_M_output 39 = .ok (.ireturn, 1) := by decide +kernel
abbrev rm_M_output : Room := ({ frames := 0, cells := 0, slots := 0, locals := 0 })
theorem w_M_output_39 {post : Int32 → nf_M → Prop} (hfl : l.flags = flags0) (K : nf_K p s m args meth c "NumberForgeModel" nb_M_output 2 (some FieldType.int) D a sz) : ∀ (xy0 : Int32) (M : nf_M) (H : Heap) (locs : List Loc) (ls : Array Slot), B_M_output_39 post xy0 M → lv_has ls 2 [] → nf_W D a s sz H locs M → W p l e rm_M_output s m args below meth c H locs 0 0 (nf_MQ below (nf_Q nf_jI D a post ex (nf_A a sz)) args s rm_M_output.cells rm_M_output.slots (nf_A a sz)) (F0 m 39 ls [.int xy0]) := by
  have hx := K.1
  have hb := K.2.1
  intro xy0 M H locs ls h hl hw
  exact nf_iret K hw d_M_output_39 rfl (Nat.le_of_ble_eq_true rfl) (Nat.le_of_ble_eq_true rfl) (r := xy0) rfl h
theorem w_M_output_29 {post : Int32 → nf_M → Prop} (hfl : l.flags = flags0) (K : nf_K p s m args meth c "NumberForgeModel" nb_M_output 2 (some FieldType.int) D a sz) : ∀ (M : nf_M) (H : Heap) (locs : List Loc) (ls : Array Slot), B_M_output_29 post  M → lv_has ls 2 [] → nf_W D a s sz H locs M → W p l e rm_M_output s m args below meth c H locs 0 0 (nf_MQ below (nf_Q nf_jI D a post ex (nf_A a sz)) args s rm_M_output.cells rm_M_output.slots (nf_A a sz)) (F0 m 29 ls []) := by
  have hx := K.1
  have hb := K.2.1
  intro  M H locs ls h hl hw
  refine lv_iconst (v := (-1 : Int32)) hx hb d_M_output_29 (by decide) ?_
  refine lv_goto hx hb d_M_output_30 (tgt := 39) (by decide) ?_
  exact w_M_output_39 hfl K (-1 : Int32) M _ _ _ h (lv_sub hl [] rfl) hw
theorem c_M_output (l : Launch) (hfl : l.flags = flags0) (x1 : Int32) : nf_C nf_jI l nm_M_output nb_M_output 2 (some FieldType.int) rm_M_output (fun a => [.ref (a 19), .int x1]) (fun M post ex => P_M_output x1 M post) := by
  refine nf_start (plainFor_of_name (by decide +kernel)) (fun a => Nat.le_of_ble_eq_true rfl) ?_
  intro D a sz M post ex p e s m below meth c ls h K hl hw
  have hx := K.1
  have hb := K.2.1
  have hl : lv_has ls 2 [(0, .ref (a 19)), (1, .int x1)] := hl
  refine lv_aload_n hx hb d_M_output_0 rfl (lv_at hl 0 rfl) ?_
  refine lv_iconst (v := (0 : Int32)) hx hb d_M_output_1 (by decide) ?_
  refine nf_put (M' := ms_I M 19 0 (0 : Int32)) K hw 19 7 0 nw_931 rfl rfl rfl ni_M ny_M nq_M nn_M (by decide) rfl rfl rfl rfl (Nat.le_of_ble_eq_true rfl) d_M_output_2 (fun H locs hw => ?_)
  obtain ⟨M1, eM1⟩ : ∃ z, z = ms_I M 19 0 (0 : Int32) := ⟨_, rfl⟩
  rw [← eM1] at hw
  have h := h M1 eM1
  refine lv_iload_n hx hb d_M_output_5 rfl (lv_at hl 1 rfl) ?_
  refine lv_iconst (v := (-1 : Int32)) hx hb d_M_output_6 (by decide) ?_
  refine nf_ic_ne hx hb d_M_output_7 (tgt := 17) (by decide) (fun hc => ?_) (fun hc => ?_)
  · have h := h.1 hc
    refine lv_aload_n hx hb d_M_output_10 rfl (lv_at hl 0 rfl) ?_
    refine nf_get (v := .int (mg_I M1 19 3)) K hw 19 7 3 nw_934 rfl rfl ni_M (by decide) rfl rfl d_M_output_11 ?_
    refine lv_goto hx hb d_M_output_14 (tgt := 39) (by decide) ?_
    exact w_M_output_39 hfl K (mg_I M1 19 3) M1 _ _ _ h (lv_sub hl [] rfl) hw
  · have h := h.2 hc
    refine lv_iload_n hx hb d_M_output_17 rfl (lv_at hl 1 rfl) ?_
    refine nf_if_lt hx hb d_M_output_18 (tgt := 29) (by decide) (fun hc => ?_) (fun hc => ?_)
    · have h := h.1 hc
      exact w_M_output_29 hfl K  M1 _ _ _ h (lv_sub hl [] rfl) hw
    · have h := h.2 hc
      refine lv_iload_n hx hb d_M_output_21 rfl (lv_at hl 1 rfl) ?_
      refine lv_aload_n hx hb d_M_output_22 rfl (lv_at hl 0 rfl) ?_
      refine nf_get (v := .int (mg_I M1 19 3)) K hw 19 7 3 nw_934 rfl rfl ni_M (by decide) rfl rfl d_M_output_23 ?_
      refine nf_ic_lt hx hb d_M_output_26 (tgt := 33) (by decide) (fun hc => ?_) (fun hc => ?_)
      · have h := h.1 hc
        refine lv_aload_n hx hb d_M_output_33 rfl (lv_at hl 0 rfl) ?_
        refine nf_get (v := .ref (a 21)) K hw 19 7 4 nw_935 rfl rfl ni_M (by decide) rfl rfl d_M_output_34 ?_
        refine lv_iload_n hx hb d_M_output_37 rfl (lv_at hl 1 rfl) ?_
        obtain ⟨g2, h⟩ := h
        refine nf_iald K hw 21 4 rfl rfl g2 d_M_output_38 ?_
        exact w_M_output_39 hfl K (mg_I M1 21 x1.toNatClampNeg) M1 _ _ _ h (lv_sub hl [] rfl) hw
      · have h := h.2 hc
        exact w_M_output_29 hfl K  M1 _ _ _ h (lv_sub hl [] rfl) hw
end NW10
