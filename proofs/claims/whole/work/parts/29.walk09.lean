/-! walks (printed by wip/whole/gen/drive.py) -/
section NW9
variable {p : Program} {l : Launch} {e : Env} {s : State} {m : MethodId} {args : Array Value} {below : List Frame} {meth : Method} {c : Code} {D : va_G} {a : Nat → Nat} {sz : Nat} {ex : Nat → nf_M → Prop}
theorem d_M_writeReal_0 : decode nb_M_writeReal 0 = .ok (.dload_n 1, 1) := by decide +kernel
theorem d_M_writeReal_1 : decode nb_M_writeReal 1 = .ok (.dconst 0, 1) := by decide +kernel
theorem d_M_writeReal_2 : decode nb_M_writeReal 2 = .ok (.dcmp .g, 1) := by decide +kernel
theorem d_M_writeReal_3 : decode nb_M_writeReal 3 = .ok (.ifCond .ge 8, 3) := by decide +kernel
theorem d_M_writeReal_6 : decode nb_M_writeReal 6 = .ok (.dload_n 1, 1) := by decide +kernel
theorem d_M_writeReal_7 : decode nb_M_writeReal 7 = .ok (.dneg, 1) := by decide +kernel
theorem d_M_writeReal_8 : decode nb_M_writeReal 8 = .ok (.goto 4, 3) := by decide +kernel
theorem d_M_writeReal_11 : decode nb_M_writeReal 11 = .ok (.dload_n 1, 1) := by decide +kernel
theorem d_M_writeReal_12 : decode nb_M_writeReal 12 = .ok (.dstore 4, 2) := by decide +kernel
theorem d_M_writeReal_14 : decode nb_M_writeReal 14 = .ok (.dload_n 1, 1) := by decide +kernel
theorem d_M_writeReal_15 : decode nb_M_writeReal 15 = .ok (.dconst 0, 1) := by decide +kernel
theorem d_M_writeReal_16 : decode nb_M_writeReal 16 = .ok (.dcmp .g, 1) := by decide +kernel
theorem d_M_writeReal_17 : decode nb_M_writeReal 17 = .ok (.ifCond .lt 17, 3) := by decide +kernel
theorem d_M_writeReal_20 : decode nb_M_writeReal 20 = .ok (.dload_n 1, 1) := by decide +kernel
theorem d_M_writeReal_21 : decode nb_M_writeReal 21 = .ok (.dconst 0, 1) := by decide +kernel
theorem d_M_writeReal_22 : decode nb_M_writeReal 22 = .ok (.dcmp .l, 1) := by decide +kernel
theorem d_M_writeReal_23 : decode nb_M_writeReal 23 = .ok (.ifCond .ne 17, 3) := by decide +kernel
theorem d_M_writeReal_26 : decode nb_M_writeReal 26 = .ok (.dconst 1, 1) := by decide +kernel
theorem d_M_writeReal_27 : decode nb_M_writeReal 27 = .ok (.dload_n 1, 1) := by decide +kernel
theorem d_M_writeReal_28 : decode nb_M_writeReal 28 = .ok (.ddiv, 1) := by decide +kernel
theorem d_M_writeReal_29 : decode nb_M_writeReal 29 = .ok (.dconst 0, 1) := by decide +kernel
theorem d_M_writeReal_30 : decode nb_M_writeReal 30 = .ok (.dcmp .g, 1) := by decide +kernel
theorem d_M_writeReal_31 : decode nb_M_writeReal 31 = .ok (.ifCond .ge 9, 3) := by decide +kernel
theorem d_M_writeReal_34 : decode nb_M_writeReal 34 = .ok (.aload_n 0, 1) := by decide +kernel
theorem d_M_writeReal_35 : decode nb_M_writeReal 35 = .ok (.bipush 45, 2) := by decide +kernel
theorem d_M_writeReal_37 : decode nb_M_writeReal 37 = .ok (.invokevirtual 252, 3) := by decide +kernel
theorem d_M_writeReal_40 : decode nb_M_writeReal 40 = .ok (.dload 4, 2) := by decide +kernel
theorem d_M_writeReal_42 : decode nb_M_writeReal 42 = .ok (.dconst 0, 1) := by decide +kernel
theorem d_M_writeReal_43 : decode nb_M_writeReal 43 = .ok (.dcmp .l, 1) := by decide +kernel
theorem d_M_writeReal_44 : decode nb_M_writeReal 44 = .ok (.ifCond .ne 10, 3) := by decide +kernel
theorem d_M_writeReal_47 : decode nb_M_writeReal 47 = .ok (.aload_n 0, 1) := by decide +kernel
theorem d_M_writeReal_48 : decode nb_M_writeReal 48 = .ok (.bipush 48, 2) := by decide +kernel
theorem d_M_writeReal_50 : decode nb_M_writeReal 50 = .ok (.invokevirtual 252, 3) := by decide +kernel
theorem d_M_writeReal_53 : decode nb_M_writeReal 53 = .ok (.return_, 1) := by decide +kernel
theorem d_M_writeReal_54 : decode nb_M_writeReal 54 = .ok (.dload 4, 2) := by decide +kernel
theorem d_M_writeReal_56 : decode nb_M_writeReal 56 = .ok (.invokestatic 166, 3) := by decide +kernel
theorem d_M_writeReal_59 : decode nb_M_writeReal 59 = .ok (.ifCond .eq 22, 3) := by decide +kernel
theorem d_M_writeReal_62 : decode nb_M_writeReal 62 = .ok (.aload_n 0, 1) := by decide +kernel
theorem d_M_writeReal_63 : decode nb_M_writeReal 63 = .ok (.bipush 73, 2) := by decide +kernel
theorem d_M_writeReal_65 : decode nb_M_writeReal 65 = .ok (.invokevirtual 252, 3) := by decide +kernel
theorem d_M_writeReal_68 : decode nb_M_writeReal 68 = .ok (.aload_n 0, 1) := by decide +kernel
theorem d_M_writeReal_69 : decode nb_M_writeReal 69 = .ok (.bipush 78, 2) := by decide +kernel
theorem d_M_writeReal_71 : decode nb_M_writeReal 71 = .ok (.invokevirtual 252, 3) := by decide +kernel
theorem d_M_writeReal_74 : decode nb_M_writeReal 74 = .ok (.aload_n 0, 1) := by decide +kernel
theorem d_M_writeReal_75 : decode nb_M_writeReal 75 = .ok (.bipush 70, 2) := by decide +kernel
theorem d_M_writeReal_77 : decode nb_M_writeReal 77 = .ok (.invokevirtual 252, 3) := by decide +kernel
theorem d_M_writeReal_80 : decode nb_M_writeReal 80 = .ok (.return_, 1) := by decide +kernel
theorem d_M_writeReal_81 : decode nb_M_writeReal 81 = .ok (.bipush (-8), 2) := by decide +kernel
theorem d_M_writeReal_83 : decode nb_M_writeReal 83 = .ok (.istore 6, 2) := by decide +kernel
theorem d_M_writeReal_85 : decode nb_M_writeReal 85 = .ok (.bipush (-7), 2) := by decide +kernel
theorem d_M_writeReal_87 : decode nb_M_writeReal 87 = .ok (.istore 7, 2) := by decide +kernel
theorem d_M_writeReal_89 : decode nb_M_writeReal 89 = .ok (.iload 7, 2) := by decide +kernel
theorem d_M_writeReal_91 : decode nb_M_writeReal 91 = .ok (.bipush 16, 2) := by decide +kernel
theorem d_M_writeReal_93 : decode nb_M_writeReal 93 = .ok (.if_icmp .ge 45, 3) := by decide +kernel
theorem d_M_writeReal_96 : decode nb_M_writeReal 96 = .ok (.iload 7, 2) := by decide +kernel
theorem d_M_writeReal_98 : decode nb_M_writeReal 98 = .ok (.ifCond .ge 14, 3) := by decide +kernel
theorem d_M_writeReal_101 : decode nb_M_writeReal 101 = .ok (.dconst 1, 1) := by decide +kernel
theorem d_M_writeReal_102 : decode nb_M_writeReal 102 = .ok (.iload 7, 2) := by decide +kernel
theorem d_M_writeReal_104 : decode nb_M_writeReal 104 = .ok (.ineg, 1) := by decide +kernel
theorem d_M_writeReal_105 : decode nb_M_writeReal 105 = .ok (.invokestatic 141, 3) := by decide +kernel
theorem d_M_writeReal_108 : decode nb_M_writeReal 108 = .ok (.ddiv, 1) := by decide +kernel
theorem d_M_writeReal_109 : decode nb_M_writeReal 109 = .ok (.goto 8, 3) := by decide +kernel
theorem d_M_writeReal_112 : decode nb_M_writeReal 112 = .ok (.iload 7, 2) := by decide +kernel
theorem d_M_writeReal_114 : decode nb_M_writeReal 114 = .ok (.invokestatic 141, 3) := by decide +kernel
theorem d_M_writeReal_117 : decode nb_M_writeReal 117 = .ok (.dload 4, 2) := by decide +kernel
theorem d_M_writeReal_119 : decode nb_M_writeReal 119 = .ok (.dcmp .g, 1) := by decide +kernel
theorem d_M_writeReal_120 : decode nb_M_writeReal 120 = .ok (.ifCond .gt 8, 3) := by decide +kernel
theorem d_M_writeReal_123 : decode nb_M_writeReal 123 = .ok (.iload 7, 2) := by decide +kernel
theorem d_M_writeReal_125 : decode nb_M_writeReal 125 = .ok (.goto 5, 3) := by decide +kernel
theorem d_M_writeReal_128 : decode nb_M_writeReal 128 = .ok (.iload 6, 2) := by decide +kernel
theorem d_M_writeReal_130 : decode nb_M_writeReal 130 = .ok (.istore 6, 2) := by decide +kernel
theorem d_M_writeReal_132 : decode nb_M_writeReal 132 = .ok (.iinc 7 1, 3) := by decide +kernel
theorem d_M_writeReal_135 : decode nb_M_writeReal 135 = .ok (.goto (-46), 3) := by decide +kernel
theorem d_M_writeReal_138 : decode nb_M_writeReal 138 = .ok (.lconst 0, 1) := by decide +kernel
theorem d_M_writeReal_139 : decode nb_M_writeReal 139 = .ok (.lstore 7, 2) := by decide +kernel
theorem d_M_writeReal_141 : decode nb_M_writeReal 141 = .ok (.iconst 0, 1) := by decide +kernel
theorem d_M_writeReal_142 : decode nb_M_writeReal 142 = .ok (.istore 9, 2) := by decide +kernel
theorem d_M_writeReal_144 : decode nb_M_writeReal 144 = .ok (.iconst 0, 1) := by decide +kernel
theorem d_M_writeReal_145 : decode nb_M_writeReal 145 = .ok (.istore 10, 2) := by decide +kernel
theorem d_M_writeReal_147 : decode nb_M_writeReal 147 = .ok (.iconst 1, 1) := by decide +kernel
theorem d_M_writeReal_148 : decode nb_M_writeReal 148 = .ok (.istore 11, 2) := by decide +kernel
theorem d_M_writeReal_150 : decode nb_M_writeReal 150 = .ok (.iload 11, 2) := by decide +kernel
theorem d_M_writeReal_152 : decode nb_M_writeReal 152 = .ok (.iload_n 3, 1) := by decide +kernel
theorem d_M_writeReal_153 : decode nb_M_writeReal 153 = .ok (.ifCond .eq 8, 3) := by decide +kernel
theorem d_M_writeReal_156 : decode nb_M_writeReal 156 = .ok (.bipush 8, 2) := by decide +kernel
theorem d_M_writeReal_158 : decode nb_M_writeReal 158 = .ok (.goto 5, 3) := by decide +kernel
theorem d_M_writeReal_161 : decode nb_M_writeReal 161 = .ok (.bipush 15, 2) := by decide +kernel
theorem d_M_writeReal_163 : decode nb_M_writeReal 163 = .ok (.if_icmp .gt 112, 3) := by decide +kernel
theorem d_M_writeReal_166 : decode nb_M_writeReal 166 = .ok (.iload 10, 2) := by decide +kernel
theorem d_M_writeReal_168 : decode nb_M_writeReal 168 = .ok (.ifCond .ne 107, 3) := by decide +kernel
theorem d_M_writeReal_171 : decode nb_M_writeReal 171 = .ok (.iload 6, 2) := by decide +kernel
theorem d_M_writeReal_173 : decode nb_M_writeReal 173 = .ok (.iload 11, 2) := by decide +kernel
theorem d_M_writeReal_175 : decode nb_M_writeReal 175 = .ok (.isub, 1) := by decide +kernel
theorem d_M_writeReal_176 : decode nb_M_writeReal 176 = .ok (.iconst 1, 1) := by decide +kernel
theorem d_M_writeReal_177 : decode nb_M_writeReal 177 = .ok (.iadd, 1) := by decide +kernel
theorem d_M_writeReal_178 : decode nb_M_writeReal 178 = .ok (.istore 9, 2) := by decide +kernel
theorem d_M_writeReal_180 : decode nb_M_writeReal 180 = .ok (.iload 9, 2) := by decide +kernel
theorem d_M_writeReal_182 : decode nb_M_writeReal 182 = .ok (.ifCond .ge 15, 3) := by decide +kernel
theorem d_M_writeReal_185 : decode nb_M_writeReal 185 = .ok (.dload 4, 2) := by decide +kernel
theorem d_M_writeReal_187 : decode nb_M_writeReal 187 = .ok (.iload 9, 2) := by decide +kernel
theorem d_M_writeReal_189 : decode nb_M_writeReal 189 = .ok (.ineg, 1) := by decide +kernel
theorem d_M_writeReal_190 : decode nb_M_writeReal 190 = .ok (.invokestatic 141, 3) := by decide +kernel
theorem d_M_writeReal_193 : decode nb_M_writeReal 193 = .ok (.dmul, 1) := by decide +kernel
theorem d_M_writeReal_194 : decode nb_M_writeReal 194 = .ok (.goto 11, 3) := by decide +kernel
theorem d_M_writeReal_197 : decode nb_M_writeReal 197 = .ok (.dload 4, 2) := by decide +kernel
theorem d_M_writeReal_199 : decode nb_M_writeReal 199 = .ok (.iload 9, 2) := by decide +kernel
theorem d_M_writeReal_201 : decode nb_M_writeReal 201 = .ok (.invokestatic 141, 3) := by decide +kernel
theorem d_M_writeReal_204 : decode nb_M_writeReal 204 = .ok (.ddiv, 1) := by decide +kernel
theorem d_M_writeReal_205 : decode nb_M_writeReal 205 = .ok (.invokestatic 242, 3) := by decide +kernel
theorem d_M_writeReal_208 : decode nb_M_writeReal 208 = .ok (.lstore 7, 2) := by decide +kernel
theorem d_M_writeReal_210 : decode nb_M_writeReal 210 = .ok (.iload 9, 2) := by decide +kernel
theorem d_M_writeReal_212 : decode nb_M_writeReal 212 = .ok (.ifCond .ge 16, 3) := by decide +kernel
theorem d_M_writeReal_215 : decode nb_M_writeReal 215 = .ok (.lload 7, 2) := by decide +kernel
theorem d_M_writeReal_217 : decode nb_M_writeReal 217 = .ok (.l2d, 1) := by decide +kernel
theorem d_M_writeReal_218 : decode nb_M_writeReal 218 = .ok (.iload 9, 2) := by decide +kernel
theorem d_M_writeReal_220 : decode nb_M_writeReal 220 = .ok (.ineg, 1) := by decide +kernel
theorem d_M_writeReal_221 : decode nb_M_writeReal 221 = .ok (.invokestatic 141, 3) := by decide +kernel
theorem d_M_writeReal_224 : decode nb_M_writeReal 224 = .ok (.ddiv, 1) := by decide +kernel
theorem d_M_writeReal_225 : decode nb_M_writeReal 225 = .ok (.goto 12, 3) := by decide +kernel
theorem d_M_writeReal_228 : decode nb_M_writeReal 228 = .ok (.lload 7, 2) := by decide +kernel
theorem d_M_writeReal_230 : decode nb_M_writeReal 230 = .ok (.l2d, 1) := by decide +kernel
theorem d_M_writeReal_231 : decode nb_M_writeReal 231 = .ok (.iload 9, 2) := by decide +kernel
theorem d_M_writeReal_233 : decode nb_M_writeReal 233 = .ok (.invokestatic 141, 3) := by decide +kernel
theorem d_M_writeReal_236 : decode nb_M_writeReal 236 = .ok (.dmul, 1) := by decide +kernel
theorem d_M_writeReal_237 : decode nb_M_writeReal 237 = .ok (.dstore 12, 2) := by decide +kernel
theorem d_M_writeReal_239 : decode nb_M_writeReal 239 = .ok (.iload_n 3, 1) := by decide +kernel
theorem d_M_writeReal_240 : decode nb_M_writeReal 240 = .ok (.ifCond .eq 10, 3) := by decide +kernel
theorem d_M_writeReal_243 : decode nb_M_writeReal 243 = .ok (.dload 12, 2) := by decide +kernel
theorem d_M_writeReal_245 : decode nb_M_writeReal 245 = .ok (.d2f, 1) := by decide +kernel
theorem d_M_writeReal_246 : decode nb_M_writeReal 246 = .ok (.f2d, 1) := by decide +kernel
theorem d_M_writeReal_247 : decode nb_M_writeReal 247 = .ok (.goto 5, 3) := by decide +kernel
theorem d_M_writeReal_250 : decode nb_M_writeReal 250 = .ok (.dload 12, 2) := by decide +kernel
theorem d_M_writeReal_252 : decode nb_M_writeReal 252 = .ok (.dstore 12, 2) := by decide +kernel
theorem d_M_writeReal_254 : decode nb_M_writeReal 254 = .ok (.dload 12, 2) := by decide +kernel
theorem d_M_writeReal_256 : decode nb_M_writeReal 256 = .ok (.dload 4, 2) := by decide +kernel
theorem d_M_writeReal_258 : decode nb_M_writeReal 258 = .ok (.dcmp .l, 1) := by decide +kernel
theorem d_M_writeReal_259 : decode nb_M_writeReal 259 = .ok (.ifCond .ne 7, 3) := by decide +kernel
theorem d_M_writeReal_262 : decode nb_M_writeReal 262 = .ok (.iconst 1, 1) := by decide +kernel
theorem d_M_writeReal_263 : decode nb_M_writeReal 263 = .ok (.goto 4, 3) := by decide +kernel
theorem d_M_writeReal_266 : decode nb_M_writeReal 266 = .ok (.iconst 0, 1) := by decide +kernel
theorem d_M_writeReal_267 : decode nb_M_writeReal 267 = .ok (.istore 10, 2) := by decide +kernel
theorem d_M_writeReal_269 : decode nb_M_writeReal 269 = .ok (.iinc 11 1, 3) := by decide +kernel
theorem d_M_writeReal_272 : decode nb_M_writeReal 272 = .ok (.goto (-122), 3) := by decide +kernel
theorem d_M_writeReal_275 : decode nb_M_writeReal 275 = .ok (.aload_n 0, 1) := by decide +kernel
theorem d_M_writeReal_276 : decode nb_M_writeReal 276 = .ok (.lload 7, 2) := by decide +kernel
theorem d_M_writeReal_278 : decode nb_M_writeReal 278 = .ok (.iload 9, 2) := by decide +kernel
theorem d_M_writeReal_280 : decode nb_M_writeReal 280 = .ok (.dload 4, 2) := by decide +kernel
theorem d_M_writeReal_282 : decode nb_M_writeReal 282 = .ok (.ldc2_w 262, 3) := by decide +kernel
theorem d_M_writeReal_285 : decode nb_M_writeReal 285 = .ok (.dcmp .l, 1) := by decide +kernel
theorem d_M_writeReal_286 : decode nb_M_writeReal 286 = .ok (.ifCond .lt 16, 3) := by decide +kernel
theorem d_M_writeReal_289 : decode nb_M_writeReal 289 = .ok (.dload 4, 2) := by decide +kernel
theorem d_M_writeReal_291 : decode nb_M_writeReal 291 = .ok (.ldc2_w 240, 3) := by decide +kernel
theorem d_M_writeReal_294 : decode nb_M_writeReal 294 = .ok (.dcmp .g, 1) := by decide +kernel
theorem d_M_writeReal_295 : decode nb_M_writeReal 295 = .ok (.ifCond .ge 7, 3) := by decide +kernel
theorem d_M_writeReal_298 : decode nb_M_writeReal 298 = .ok (.iconst 1, 1) := by decide +kernel
theorem d_M_writeReal_299 : decode nb_M_writeReal 299 = .ok (.goto 4, 3) := by decide +kernel
theorem d_M_writeReal_302 : decode nb_M_writeReal 302 = .ok (.iconst 0, 1) := by decide +kernel
theorem d_M_writeReal_303 : decode nb_M_writeReal 303 = .ok (.invokevirtual 264, 3) := by decide +kernel
theorem d_M_writeReal_306 : decode nb_M_writeReal 306 = .ok (.return_, 1) := by decide +kernel
abbrev rm_M_writeReal : Room := ({ frames := 3, cells := 0, slots := 0, locals := 78 })
theorem w_M_writeReal_130 {post : Unit → nf_M → Prop} (hfl : l.flags = flags0) (K : nf_K p s m args meth c "NumberForgeModel" nb_M_writeReal 14 none D a sz) (k89 : Int32 → UInt64 → Int32 → Int32 → nf_M → Prop) (hk89 : ∀ (x3 : Int32) (x4 : UInt64) (x6 : Int32) (x7 : Int32) (M : nf_M) (H : Heap) (locs : List Loc) (ls : Array Slot), k89 x3 x4 x6 x7 M → lv_has ls 14 [(0, .ref (a 19)), (3, .int x3), (4, .double x4), (6, .int x6), (7, .int x7)] → nf_W D a s sz H locs M → W p l e rm_M_writeReal s m args below meth c H locs 0 0 (nf_MQ below (nf_Q nf_jN D a post ex (nf_A a sz)) args s rm_M_writeReal.cells rm_M_writeReal.slots (nf_A a sz)) (F0 m 89 ls [])) : ∀ (x3 : Int32) (x4 : UInt64) (x7 : Int32) (xy0 : Int32) (M : nf_M) (H : Heap) (locs : List Loc) (ls : Array Slot), B_M_writeReal_130 k89 post x3 x4 x7 xy0 M → lv_has ls 14 [(0, .ref (a 19)), (3, .int x3), (4, .double x4), (7, .int x7)] → nf_W D a s sz H locs M → W p l e rm_M_writeReal s m args below meth c H locs 0 0 (nf_MQ below (nf_Q nf_jN D a post ex (nf_A a sz)) args s rm_M_writeReal.cells rm_M_writeReal.slots (nf_A a sz)) (F0 m 130 ls [.int xy0]) := by
  have hx := K.1
  have hb := K.2.1
  intro x3 x4 x7 xy0 M H locs ls h hl hw
  refine lv_istore (lv' := [(6, .int xy0), (0, .ref (a 19)), (3, .int x3), (4, .double x4), (7, .int x7)]) hx hb d_M_writeReal_130 hl (by decide) rfl (fun ls hl => ?_)
  refine lv_iinc (k := 4) (v := x7 + (1 : Int32)) (lv' := [(7, .int (x7 + (1 : Int32))), (6, .int xy0), (0, .ref (a 19)), (3, .int x3), (4, .double x4)]) hx hb d_M_writeReal_132 hl rfl (nf_inc (by decide)) (by decide) rfl (fun ls hl => ?_)
  refine lv_goto hx hb d_M_writeReal_135 (tgt := 89) (by decide) ?_
  exact hk89 x3 x4 xy0 (x7 + (1 : Int32)) M _ _ _ h (lv_sub hl [2, 3, 4, 1, 0] rfl) hw
theorem w_M_writeReal_117 {post : Unit → nf_M → Prop} (hfl : l.flags = flags0) (K : nf_K p s m args meth c "NumberForgeModel" nb_M_writeReal 14 none D a sz) (k89 : Int32 → UInt64 → Int32 → Int32 → nf_M → Prop) (hk89 : ∀ (x3 : Int32) (x4 : UInt64) (x6 : Int32) (x7 : Int32) (M : nf_M) (H : Heap) (locs : List Loc) (ls : Array Slot), k89 x3 x4 x6 x7 M → lv_has ls 14 [(0, .ref (a 19)), (3, .int x3), (4, .double x4), (6, .int x6), (7, .int x7)] → nf_W D a s sz H locs M → W p l e rm_M_writeReal s m args below meth c H locs 0 0 (nf_MQ below (nf_Q nf_jN D a post ex (nf_A a sz)) args s rm_M_writeReal.cells rm_M_writeReal.slots (nf_A a sz)) (F0 m 89 ls [])) : ∀ (x3 : Int32) (x4 : UInt64) (x6 : Int32) (x7 : Int32) (xy0 : UInt64) (M : nf_M) (H : Heap) (locs : List Loc) (ls : Array Slot), B_M_writeReal_117 k89 post x3 x4 x6 x7 xy0 M → lv_has ls 14 [(0, .ref (a 19)), (3, .int x3), (4, .double x4), (6, .int x6), (7, .int x7)] → nf_W D a s sz H locs M → W p l e rm_M_writeReal s m args below meth c H locs 0 0 (nf_MQ below (nf_Q nf_jN D a post ex (nf_A a sz)) args s rm_M_writeReal.cells rm_M_writeReal.slots (nf_A a sz)) (F0 m 117 ls [.double xy0]) := by
  have hx := K.1
  have hb := K.2.1
  intro x3 x4 x6 x7 xy0 M H locs ls h hl hw
  refine lv_dload hx hb d_M_writeReal_117 (lv_at hl 2 rfl) ?_
  refine nf_dg_gt hx hb d_M_writeReal_119 d_M_writeReal_120 (tgt := 128) (by decide) (fun hc => ?_) (fun hc => ?_)
  · have h := h.1 hc
    refine lv_iload hx hb d_M_writeReal_123 (lv_at hl 4 rfl) ?_
    refine lv_goto hx hb d_M_writeReal_125 (tgt := 130) (by decide) ?_
    exact w_M_writeReal_130 hfl K k89 hk89 x3 x4 x7 x7 M _ _ _ h (lv_sub hl [0, 1, 2, 4] rfl) hw
  · have h := h.2 hc
    refine lv_iload hx hb d_M_writeReal_128 (lv_at hl 3 rfl) ?_
    exact w_M_writeReal_130 hfl K k89 hk89 x3 x4 x7 x6 M _ _ _ h (lv_sub hl [0, 1, 2, 4] rfl) hw
theorem w_M_writeReal_267 {post : Unit → nf_M → Prop} (hfl : l.flags = flags0) (K : nf_K p s m args meth c "NumberForgeModel" nb_M_writeReal 14 none D a sz) (k150 : Int32 → UInt64 → Int32 → Int64 → Int32 → Int32 → Int32 → nf_M → Prop) (hk150 : ∀ (x3 : Int32) (x4 : UInt64) (x6 : Int32) (x7 : Int64) (x9 : Int32) (x10 : Int32) (x11 : Int32) (M : nf_M) (H : Heap) (locs : List Loc) (ls : Array Slot), k150 x3 x4 x6 x7 x9 x10 x11 M → lv_has ls 14 [(0, .ref (a 19)), (3, .int x3), (4, .double x4), (6, .int x6), (7, .long x7), (9, .int x9), (10, .int x10), (11, .int x11)] → nf_W D a s sz H locs M → W p l e rm_M_writeReal s m args below meth c H locs 0 0 (nf_MQ below (nf_Q nf_jN D a post ex (nf_A a sz)) args s rm_M_writeReal.cells rm_M_writeReal.slots (nf_A a sz)) (F0 m 150 ls [])) : ∀ (x3 : Int32) (x4 : UInt64) (x6 : Int32) (x7 : Int64) (x9 : Int32) (x11 : Int32) (xy0 : Int32) (M : nf_M) (H : Heap) (locs : List Loc) (ls : Array Slot), B_M_writeReal_267 k150 post x3 x4 x6 x7 x9 x11 xy0 M → lv_has ls 14 [(0, .ref (a 19)), (3, .int x3), (4, .double x4), (6, .int x6), (7, .long x7), (9, .int x9), (11, .int x11)] → nf_W D a s sz H locs M → W p l e rm_M_writeReal s m args below meth c H locs 0 0 (nf_MQ below (nf_Q nf_jN D a post ex (nf_A a sz)) args s rm_M_writeReal.cells rm_M_writeReal.slots (nf_A a sz)) (F0 m 267 ls [.int xy0]) := by
  have hx := K.1
  have hb := K.2.1
  intro x3 x4 x6 x7 x9 x11 xy0 M H locs ls h hl hw
  refine lv_istore (lv' := [(10, .int xy0), (0, .ref (a 19)), (3, .int x3), (4, .double x4), (6, .int x6), (7, .long x7), (9, .int x9), (11, .int x11)]) hx hb d_M_writeReal_267 hl (by decide) rfl (fun ls hl => ?_)
  refine lv_iinc (k := 7) (v := x11 + (1 : Int32)) (lv' := [(11, .int (x11 + (1 : Int32))), (10, .int xy0), (0, .ref (a 19)), (3, .int x3), (4, .double x4), (6, .int x6), (7, .long x7), (9, .int x9)]) hx hb d_M_writeReal_269 hl rfl (nf_inc (by decide)) (by decide) rfl (fun ls hl => ?_)
  refine lv_goto hx hb d_M_writeReal_272 (tgt := 150) (by decide) ?_
  exact hk150 x3 x4 x6 x7 x9 xy0 (x11 + (1 : Int32)) M _ _ _ h (lv_sub hl [2, 3, 4, 5, 6, 7, 1, 0] rfl) hw
theorem w_M_writeReal_252 {post : Unit → nf_M → Prop} (hfl : l.flags = flags0) (K : nf_K p s m args meth c "NumberForgeModel" nb_M_writeReal 14 none D a sz) (k150 : Int32 → UInt64 → Int32 → Int64 → Int32 → Int32 → Int32 → nf_M → Prop) (hk150 : ∀ (x3 : Int32) (x4 : UInt64) (x6 : Int32) (x7 : Int64) (x9 : Int32) (x10 : Int32) (x11 : Int32) (M : nf_M) (H : Heap) (locs : List Loc) (ls : Array Slot), k150 x3 x4 x6 x7 x9 x10 x11 M → lv_has ls 14 [(0, .ref (a 19)), (3, .int x3), (4, .double x4), (6, .int x6), (7, .long x7), (9, .int x9), (10, .int x10), (11, .int x11)] → nf_W D a s sz H locs M → W p l e rm_M_writeReal s m args below meth c H locs 0 0 (nf_MQ below (nf_Q nf_jN D a post ex (nf_A a sz)) args s rm_M_writeReal.cells rm_M_writeReal.slots (nf_A a sz)) (F0 m 150 ls [])) : ∀ (x3 : Int32) (x4 : UInt64) (x6 : Int32) (x7 : Int64) (x9 : Int32) (x11 : Int32) (xy0 : UInt64) (M : nf_M) (H : Heap) (locs : List Loc) (ls : Array Slot), B_M_writeReal_252 k150 post x3 x4 x6 x7 x9 x11 xy0 M → lv_has ls 14 [(0, .ref (a 19)), (3, .int x3), (4, .double x4), (6, .int x6), (7, .long x7), (9, .int x9), (11, .int x11)] → nf_W D a s sz H locs M → W p l e rm_M_writeReal s m args below meth c H locs 0 0 (nf_MQ below (nf_Q nf_jN D a post ex (nf_A a sz)) args s rm_M_writeReal.cells rm_M_writeReal.slots (nf_A a sz)) (F0 m 252 ls [.double xy0]) := by
  have hx := K.1
  have hb := K.2.1
  intro x3 x4 x6 x7 x9 x11 xy0 M H locs ls h hl hw
  refine lv_dstore (lv' := [(12, .double xy0), (0, .ref (a 19)), (3, .int x3), (4, .double x4), (6, .int x6), (7, .long x7), (9, .int x9), (11, .int x11)]) hx hb d_M_writeReal_252 hl (by decide) rfl (fun ls hl => ?_)
  refine lv_dload hx hb d_M_writeReal_254 (lv_at hl 0 rfl) ?_
  refine lv_dload hx hb d_M_writeReal_256 (lv_at hl 3 rfl) ?_
  refine nf_dl_ne hx hb d_M_writeReal_258 d_M_writeReal_259 (tgt := 266) (by decide) (fun hc => ?_) (fun hc => ?_)
  · have h := h.1 hc
    refine lv_iconst (v := (1 : Int32)) hx hb d_M_writeReal_262 (by decide) ?_
    refine lv_goto hx hb d_M_writeReal_263 (tgt := 267) (by decide) ?_
    exact w_M_writeReal_267 hfl K k150 hk150 x3 x4 x6 x7 x9 x11 (1 : Int32) M _ _ _ h (lv_sub hl [1, 2, 3, 4, 5, 6, 7] rfl) hw
  · have h := h.2 hc
    refine lv_iconst (v := (0 : Int32)) hx hb d_M_writeReal_266 (by decide) ?_
    exact w_M_writeReal_267 hfl K k150 hk150 x3 x4 x6 x7 x9 x11 (0 : Int32) M _ _ _ h (lv_sub hl [1, 2, 3, 4, 5, 6, 7] rfl) hw
theorem w_M_writeReal_237 {post : Unit → nf_M → Prop} (hfl : l.flags = flags0) (K : nf_K p s m args meth c "NumberForgeModel" nb_M_writeReal 14 none D a sz) (k150 : Int32 → UInt64 → Int32 → Int64 → Int32 → Int32 → Int32 → nf_M → Prop) (hk150 : ∀ (x3 : Int32) (x4 : UInt64) (x6 : Int32) (x7 : Int64) (x9 : Int32) (x10 : Int32) (x11 : Int32) (M : nf_M) (H : Heap) (locs : List Loc) (ls : Array Slot), k150 x3 x4 x6 x7 x9 x10 x11 M → lv_has ls 14 [(0, .ref (a 19)), (3, .int x3), (4, .double x4), (6, .int x6), (7, .long x7), (9, .int x9), (10, .int x10), (11, .int x11)] → nf_W D a s sz H locs M → W p l e rm_M_writeReal s m args below meth c H locs 0 0 (nf_MQ below (nf_Q nf_jN D a post ex (nf_A a sz)) args s rm_M_writeReal.cells rm_M_writeReal.slots (nf_A a sz)) (F0 m 150 ls [])) : ∀ (x3 : Int32) (x4 : UInt64) (x6 : Int32) (x7 : Int64) (x9 : Int32) (x11 : Int32) (xy0 : UInt64) (M : nf_M) (H : Heap) (locs : List Loc) (ls : Array Slot), B_M_writeReal_237 k150 post x3 x4 x6 x7 x9 x11 xy0 M → lv_has ls 14 [(0, .ref (a 19)), (3, .int x3), (4, .double x4), (6, .int x6), (7, .long x7), (9, .int x9), (11, .int x11)] → nf_W D a s sz H locs M → W p l e rm_M_writeReal s m args below meth c H locs 0 0 (nf_MQ below (nf_Q nf_jN D a post ex (nf_A a sz)) args s rm_M_writeReal.cells rm_M_writeReal.slots (nf_A a sz)) (F0 m 237 ls [.double xy0]) := by
  have hx := K.1
  have hb := K.2.1
  intro x3 x4 x6 x7 x9 x11 xy0 M H locs ls h hl hw
  refine lv_dstore (lv' := [(12, .double xy0), (0, .ref (a 19)), (3, .int x3), (4, .double x4), (6, .int x6), (7, .long x7), (9, .int x9), (11, .int x11)]) hx hb d_M_writeReal_237 hl (by decide) rfl (fun ls hl => ?_)
  refine lv_iload_n hx hb d_M_writeReal_239 rfl (lv_at hl 2 rfl) ?_
  refine nf_if_eq hx hb d_M_writeReal_240 (tgt := 250) (by decide) (fun hc => ?_) (fun hc => ?_)
  · have h := h.1 hc
    refine lv_dload hx hb d_M_writeReal_250 (lv_at hl 0 rfl) ?_
    exact w_M_writeReal_252 hfl K k150 hk150 x3 x4 x6 x7 x9 x11 xy0 M _ _ _ h (lv_sub hl [1, 2, 3, 4, 5, 6, 7] rfl) hw
  · have h := h.2 hc
    refine lv_dload hx hb d_M_writeReal_243 (lv_at hl 0 rfl) ?_
    obtain ⟨g1, h⟩ := h
    refine lv_d2f hx hb d_M_writeReal_245 g1 ?_
    obtain ⟨g2, h⟩ := h
    refine lv_f2d hx hb d_M_writeReal_246 g2 ?_
    refine lv_goto hx hb d_M_writeReal_247 (tgt := 252) (by decide) ?_
    exact w_M_writeReal_252 hfl K k150 hk150 x3 x4 x6 x7 x9 x11 (FP.f2d (FP.d2f xy0)) M _ _ _ h (lv_sub hl [1, 2, 3, 4, 5, 6, 7] rfl) hw
theorem w_M_writeReal_205 {post : Unit → nf_M → Prop} (hfl : l.flags = flags0) (K : nf_K p s m args meth c "NumberForgeModel" nb_M_writeReal 14 none D a sz) (k150 : Int32 → UInt64 → Int32 → Int64 → Int32 → Int32 → Int32 → nf_M → Prop) (hk150 : ∀ (x3 : Int32) (x4 : UInt64) (x6 : Int32) (x7 : Int64) (x9 : Int32) (x10 : Int32) (x11 : Int32) (M : nf_M) (H : Heap) (locs : List Loc) (ls : Array Slot), k150 x3 x4 x6 x7 x9 x10 x11 M → lv_has ls 14 [(0, .ref (a 19)), (3, .int x3), (4, .double x4), (6, .int x6), (7, .long x7), (9, .int x9), (10, .int x10), (11, .int x11)] → nf_W D a s sz H locs M → W p l e rm_M_writeReal s m args below meth c H locs 0 0 (nf_MQ below (nf_Q nf_jN D a post ex (nf_A a sz)) args s rm_M_writeReal.cells rm_M_writeReal.slots (nf_A a sz)) (F0 m 150 ls [])) : ∀ (x3 : Int32) (x4 : UInt64) (x6 : Int32) (x9 : Int32) (x11 : Int32) (xy0 : UInt64) (M : nf_M) (H : Heap) (locs : List Loc) (ls : Array Slot), B_M_writeReal_205 k150 post x3 x4 x6 x9 x11 xy0 M → lv_has ls 14 [(0, .ref (a 19)), (3, .int x3), (4, .double x4), (6, .int x6), (9, .int x9), (11, .int x11)] → nf_W D a s sz H locs M → W p l e rm_M_writeReal s m args below meth c H locs 0 0 (nf_MQ below (nf_Q nf_jN D a post ex (nf_A a sz)) args s rm_M_writeReal.cells rm_M_writeReal.slots (nf_A a sz)) (F0 m 205 ls [.double xy0]) := by
  have hx := K.1
  have hb := K.2.1
  intro x3 x4 x6 x9 x11 xy0 M H locs ls h hl hw
  refine nf_callW (ex := (fun _ _ => False)) (As := [.double xy0]) (st0 := [.double xy0]) (rest := []) K hw (nf_invS hx hb K.2.2.2.1 (nf_Kg K nw_1179) (nf_Kg K nw_1180) (nf_Kg K nw_9) (nf_Kg K nw_1181) ⟨by decide, by decide⟩ rfl nl_M_even rfl d_M_writeReal_205) (c_M_even l hfl xy0) nw_1181 nw_9 rfl ⟨by decide, by decide⟩ (Nat.le_of_ble_eq_true rfl) hl.1 ⟨Nat.le_of_ble_eq_true rfl, Nat.le_of_ble_eq_true rfl⟩ h (fun _ _ h => h.elim) (fun r1 M2 H locs h hw => ?_)
  refine W.eq (g2 := F0 m 208 ls [.long r1]) rfl ?_
  refine lv_lstore (lv' := [(7, .long r1), (0, .ref (a 19)), (3, .int x3), (4, .double x4), (6, .int x6), (9, .int x9), (11, .int x11)]) hx hb d_M_writeReal_208 hl (by decide) rfl (fun ls hl => ?_)
  refine lv_iload hx hb d_M_writeReal_210 (lv_at hl 5 rfl) ?_
  refine nf_if_ge hx hb d_M_writeReal_212 (tgt := 228) (by decide) (fun hc => ?_) (fun hc => ?_)
  · have h := h.1 hc
    refine lv_lload hx hb d_M_writeReal_215 (lv_at hl 0 rfl) ?_
    refine lv_l2d hx hb d_M_writeReal_217 ?_
    refine lv_iload hx hb d_M_writeReal_218 (lv_at hl 5 rfl) ?_
    refine lv_ineg hx hb d_M_writeReal_220 ?_
    refine nf_callW (ex := (fun _ _ => False)) (As := [.int (-x9)]) (st0 := [.int (-x9), .double (FP.l2d r1)]) (rest := [.double (FP.l2d r1)]) K hw (nf_invS hx hb K.2.2.2.1 (nf_Kg K nw_1063) (nf_Kg K nw_1064) (nf_Kg K nw_9) (nf_Kg K nw_1065) ⟨by decide, by decide⟩ rfl nl_M_ten rfl d_M_writeReal_221) (c_M_ten l hfl (-x9)) nw_1065 nw_9 rfl ⟨by decide, by decide⟩ (Nat.le_of_ble_eq_true rfl) hl.1 ⟨Nat.le_of_ble_eq_true rfl, Nat.le_of_ble_eq_true rfl⟩ h (fun _ _ h => h.elim) (fun r3 M4 H locs h hw => ?_)
    refine W.eq (g2 := F0 m 224 ls [.double r3, .double (FP.l2d r1)]) rfl ?_
    obtain ⟨g5, h⟩ := h
    refine lv_ddiv hx hb d_M_writeReal_224 g5 ?_
    refine lv_goto hx hb d_M_writeReal_225 (tgt := 237) (by decide) ?_
    exact w_M_writeReal_237 hfl K k150 hk150 x3 x4 x6 r1 x9 x11 (FP.ddiv (FP.l2d r1) r3) M4 _ _ _ h (lv_sub hl [1, 2, 3, 4, 0, 5, 6] rfl) hw
  · have h := h.2 hc
    refine lv_lload hx hb d_M_writeReal_228 (lv_at hl 0 rfl) ?_
    refine lv_l2d hx hb d_M_writeReal_230 ?_
    refine lv_iload hx hb d_M_writeReal_231 (lv_at hl 5 rfl) ?_
    refine nf_callW (ex := (fun _ _ => False)) (As := [.int x9]) (st0 := [.int x9, .double (FP.l2d r1)]) (rest := [.double (FP.l2d r1)]) K hw (nf_invS hx hb K.2.2.2.1 (nf_Kg K nw_1063) (nf_Kg K nw_1064) (nf_Kg K nw_9) (nf_Kg K nw_1065) ⟨by decide, by decide⟩ rfl nl_M_ten rfl d_M_writeReal_233) (c_M_ten l hfl x9) nw_1065 nw_9 rfl ⟨by decide, by decide⟩ (Nat.le_of_ble_eq_true rfl) hl.1 ⟨Nat.le_of_ble_eq_true rfl, Nat.le_of_ble_eq_true rfl⟩ h (fun _ _ h => h.elim) (fun r6 M7 H locs h hw => ?_)
    refine W.eq (g2 := F0 m 236 ls [.double r6, .double (FP.l2d r1)]) rfl ?_
    obtain ⟨g8, h⟩ := h
    refine lv_dmul hx hb d_M_writeReal_236 g8 ?_
    exact w_M_writeReal_237 hfl K k150 hk150 x3 x4 x6 r1 x9 x11 (FP.dmul (FP.l2d r1) r6) M7 _ _ _ h (lv_sub hl [1, 2, 3, 4, 0, 5, 6] rfl) hw
theorem w_M_writeReal_303 {post : Unit → nf_M → Prop} (hfl : l.flags = flags0) (K : nf_K p s m args meth c "NumberForgeModel" nb_M_writeReal 14 none D a sz) : ∀ (xy0 : Int32) (xy1 : Int32) (xy2 : Int64) (M : nf_M) (H : Heap) (locs : List Loc) (ls : Array Slot), B_M_writeReal_303 post xy0 xy1 xy2 M → lv_has ls 14 [] → nf_W D a s sz H locs M → W p l e rm_M_writeReal s m args below meth c H locs 0 0 (nf_MQ below (nf_Q nf_jN D a post ex (nf_A a sz)) args s rm_M_writeReal.cells rm_M_writeReal.slots (nf_A a sz)) (F0 m 303 ls [.int xy0, .int xy1, .long xy2, .ref (a 19)]) := by
  have hx := K.1
  have hb := K.2.1
  intro xy0 xy1 xy2 M H locs ls h hl hw
  refine nf_callW (ex := (fun _ _ => False)) (As := [.ref (a 19), .long xy2, .int xy1, .int xy0]) (st0 := [.int xy0, .int xy1, .long xy2, .ref (a 19)]) (rest := []) K hw (nf_invV hx hb K.2.2.2.1 (nf_Kg K nw_1219) (nf_Kg K nw_1221) (nf_Kg K nx_M_addReal) (nf_Kg K nw_1222) ⟨by decide, by decide⟩ (nf_rcv K hw 19 7 rfl rfl) rfl nl_M_addReal rfl d_M_writeReal_303) (c_M_addReal l hfl xy2 xy1 xy0) nw_1222 nw_9 rfl ⟨by decide, by decide⟩ (Nat.le_of_ble_eq_true rfl) hl.1 ⟨Nat.le_of_ble_eq_true rfl, Nat.le_of_ble_eq_true rfl⟩ h (fun _ _ h => h.elim) (fun r1 M2 H locs h hw => ?_)
  refine W.eq (g2 := F0 m 306 ls []) rfl ?_
  exact nf_vret K hw d_M_writeReal_306 (Nat.le_of_ble_eq_true rfl) (Nat.le_of_ble_eq_true rfl) (r := ()) rfl h
theorem w_M_writeReal_302 {post : Unit → nf_M → Prop} (hfl : l.flags = flags0) (K : nf_K p s m args meth c "NumberForgeModel" nb_M_writeReal 14 none D a sz) : ∀ (xy0 : Int32) (xy1 : Int64) (M : nf_M) (H : Heap) (locs : List Loc) (ls : Array Slot), B_M_writeReal_302 post xy0 xy1 M → lv_has ls 14 [] → nf_W D a s sz H locs M → W p l e rm_M_writeReal s m args below meth c H locs 0 0 (nf_MQ below (nf_Q nf_jN D a post ex (nf_A a sz)) args s rm_M_writeReal.cells rm_M_writeReal.slots (nf_A a sz)) (F0 m 302 ls [.int xy0, .long xy1, .ref (a 19)]) := by
  have hx := K.1
  have hb := K.2.1
  intro xy0 xy1 M H locs ls h hl hw
  refine lv_iconst (v := (0 : Int32)) hx hb d_M_writeReal_302 (by decide) ?_
  exact w_M_writeReal_303 hfl K (0 : Int32) xy0 xy1 M _ _ _ h (lv_sub hl [] rfl) hw
theorem w_M_writeReal_275 {post : Unit → nf_M → Prop} (hfl : l.flags = flags0) (K : nf_K p s m args meth c "NumberForgeModel" nb_M_writeReal 14 none D a sz) : ∀ (x4 : UInt64) (x7 : Int64) (x9 : Int32) (M : nf_M) (H : Heap) (locs : List Loc) (ls : Array Slot), B_M_writeReal_275 post x4 x7 x9 M → lv_has ls 14 [(0, .ref (a 19)), (4, .double x4), (7, .long x7), (9, .int x9)] → nf_W D a s sz H locs M → W p l e rm_M_writeReal s m args below meth c H locs 0 0 (nf_MQ below (nf_Q nf_jN D a post ex (nf_A a sz)) args s rm_M_writeReal.cells rm_M_writeReal.slots (nf_A a sz)) (F0 m 275 ls []) := by
  have hx := K.1
  have hb := K.2.1
  intro x4 x7 x9 M H locs ls h hl hw
  refine lv_aload_n hx hb d_M_writeReal_275 rfl (lv_at hl 0 rfl) ?_
  refine lv_lload hx hb d_M_writeReal_276 (lv_at hl 2 rfl) ?_
  refine lv_iload hx hb d_M_writeReal_278 (lv_at hl 3 rfl) ?_
  refine lv_dload hx hb d_M_writeReal_280 (lv_at hl 1 rfl) ?_
  refine lv_ldc2d (v := (4517329193108106637 : UInt64)) hx hb K.2.2.2.1 (nf_Kg K nw_1218) d_M_writeReal_282 ?_
  refine nf_dl_lt hx hb d_M_writeReal_285 d_M_writeReal_286 (tgt := 302) (by decide) (fun hc => ?_) (fun hc => ?_)
  · have h := h.1 hc
    refine lv_dload hx hb d_M_writeReal_289 (lv_at hl 1 rfl) ?_
    refine lv_ldc2d (v := (4696837146684686336 : UInt64)) hx hb K.2.2.2.1 (nf_Kg K nw_1178) d_M_writeReal_291 ?_
    refine nf_dg_ge hx hb d_M_writeReal_294 d_M_writeReal_295 (tgt := 302) (by decide) (fun hc => ?_) (fun hc => ?_)
    · have h := h.1 hc
      refine lv_iconst (v := (1 : Int32)) hx hb d_M_writeReal_298 (by decide) ?_
      refine lv_goto hx hb d_M_writeReal_299 (tgt := 303) (by decide) ?_
      exact w_M_writeReal_303 hfl K (1 : Int32) x9 x7 M _ _ _ h (lv_sub hl [] rfl) hw
    · have h := h.2 hc
      exact w_M_writeReal_302 hfl K x9 x7 M _ _ _ h (lv_sub hl [] rfl) hw
  · have h := h.2 hc
    exact w_M_writeReal_302 hfl K x9 x7 M _ _ _ h (lv_sub hl [] rfl) hw
theorem w_M_writeReal_163 {post : Unit → nf_M → Prop} (hfl : l.flags = flags0) (K : nf_K p s m args meth c "NumberForgeModel" nb_M_writeReal 14 none D a sz) (k150 : Int32 → UInt64 → Int32 → Int64 → Int32 → Int32 → Int32 → nf_M → Prop) (hk150 : ∀ (x3 : Int32) (x4 : UInt64) (x6 : Int32) (x7 : Int64) (x9 : Int32) (x10 : Int32) (x11 : Int32) (M : nf_M) (H : Heap) (locs : List Loc) (ls : Array Slot), k150 x3 x4 x6 x7 x9 x10 x11 M → lv_has ls 14 [(0, .ref (a 19)), (3, .int x3), (4, .double x4), (6, .int x6), (7, .long x7), (9, .int x9), (10, .int x10), (11, .int x11)] → nf_W D a s sz H locs M → W p l e rm_M_writeReal s m args below meth c H locs 0 0 (nf_MQ below (nf_Q nf_jN D a post ex (nf_A a sz)) args s rm_M_writeReal.cells rm_M_writeReal.slots (nf_A a sz)) (F0 m 150 ls [])) : ∀ (x3 : Int32) (x4 : UInt64) (x6 : Int32) (x7 : Int64) (x9 : Int32) (x10 : Int32) (x11 : Int32) (xy0 : Int32) (xy1 : Int32) (M : nf_M) (H : Heap) (locs : List Loc) (ls : Array Slot), B_M_writeReal_163 k150 post x3 x4 x6 x7 x9 x10 x11 xy0 xy1 M → lv_has ls 14 [(0, .ref (a 19)), (3, .int x3), (4, .double x4), (6, .int x6), (7, .long x7), (9, .int x9), (10, .int x10), (11, .int x11)] → nf_W D a s sz H locs M → W p l e rm_M_writeReal s m args below meth c H locs 0 0 (nf_MQ below (nf_Q nf_jN D a post ex (nf_A a sz)) args s rm_M_writeReal.cells rm_M_writeReal.slots (nf_A a sz)) (F0 m 163 ls [.int xy0, .int xy1]) := by
  have hx := K.1
  have hb := K.2.1
  intro x3 x4 x6 x7 x9 x10 x11 xy0 xy1 M H locs ls h hl hw
  refine nf_ic_gt hx hb d_M_writeReal_163 (tgt := 275) (by decide) (fun hc => ?_) (fun hc => ?_)
  · have h := h.1 hc
    exact w_M_writeReal_275 hfl K x4 x7 x9 M _ _ _ h (lv_sub hl [0, 2, 4, 5] rfl) hw
  · have h := h.2 hc
    refine lv_iload hx hb d_M_writeReal_166 (lv_at hl 6 rfl) ?_
    refine nf_if_ne hx hb d_M_writeReal_168 (tgt := 275) (by decide) (fun hc => ?_) (fun hc => ?_)
    · have h := h.1 hc
      refine lv_iload hx hb d_M_writeReal_171 (lv_at hl 3 rfl) ?_
      refine lv_iload hx hb d_M_writeReal_173 (lv_at hl 7 rfl) ?_
      refine lv_isub hx hb d_M_writeReal_175 ?_
      refine lv_iconst (v := (1 : Int32)) hx hb d_M_writeReal_176 (by decide) ?_
      refine lv_iadd hx hb d_M_writeReal_177 ?_
      refine lv_topi (fun t1 et1 => ?_)
      have h := h t1 et1
      refine lv_istore (lv' := [(9, .int t1), (0, .ref (a 19)), (3, .int x3), (4, .double x4), (6, .int x6), (7, .long x7), (10, .int x10), (11, .int x11)]) hx hb d_M_writeReal_178 hl (by decide) rfl (fun ls hl => ?_)
      refine lv_iload hx hb d_M_writeReal_180 (lv_at hl 0 rfl) ?_
      refine nf_if_ge hx hb d_M_writeReal_182 (tgt := 197) (by decide) (fun hc => ?_) (fun hc => ?_)
      · have h := h.1 hc
        refine lv_dload hx hb d_M_writeReal_185 (lv_at hl 3 rfl) ?_
        refine lv_iload hx hb d_M_writeReal_187 (lv_at hl 0 rfl) ?_
        refine lv_ineg hx hb d_M_writeReal_189 ?_
        refine nf_callW (ex := (fun _ _ => False)) (As := [.int (-t1)]) (st0 := [.int (-t1), .double x4]) (rest := [.double x4]) K hw (nf_invS hx hb K.2.2.2.1 (nf_Kg K nw_1063) (nf_Kg K nw_1064) (nf_Kg K nw_9) (nf_Kg K nw_1065) ⟨by decide, by decide⟩ rfl nl_M_ten rfl d_M_writeReal_190) (c_M_ten l hfl (-t1)) nw_1065 nw_9 rfl ⟨by decide, by decide⟩ (Nat.le_of_ble_eq_true rfl) hl.1 ⟨Nat.le_of_ble_eq_true rfl, Nat.le_of_ble_eq_true rfl⟩ h (fun _ _ h => h.elim) (fun r2 M3 H locs h hw => ?_)
        refine W.eq (g2 := F0 m 193 ls [.double r2, .double x4]) rfl ?_
        obtain ⟨g4, h⟩ := h
        refine lv_dmul hx hb d_M_writeReal_193 g4 ?_
        refine lv_goto hx hb d_M_writeReal_194 (tgt := 205) (by decide) ?_
        exact w_M_writeReal_205 hfl K k150 hk150 x3 x4 x6 t1 x11 (FP.dmul x4 r2) M3 _ _ _ h (lv_sub hl [1, 2, 3, 4, 0, 7] rfl) hw
      · have h := h.2 hc
        refine lv_dload hx hb d_M_writeReal_197 (lv_at hl 3 rfl) ?_
        refine lv_iload hx hb d_M_writeReal_199 (lv_at hl 0 rfl) ?_
        refine nf_callW (ex := (fun _ _ => False)) (As := [.int t1]) (st0 := [.int t1, .double x4]) (rest := [.double x4]) K hw (nf_invS hx hb K.2.2.2.1 (nf_Kg K nw_1063) (nf_Kg K nw_1064) (nf_Kg K nw_9) (nf_Kg K nw_1065) ⟨by decide, by decide⟩ rfl nl_M_ten rfl d_M_writeReal_201) (c_M_ten l hfl t1) nw_1065 nw_9 rfl ⟨by decide, by decide⟩ (Nat.le_of_ble_eq_true rfl) hl.1 ⟨Nat.le_of_ble_eq_true rfl, Nat.le_of_ble_eq_true rfl⟩ h (fun _ _ h => h.elim) (fun r5 M6 H locs h hw => ?_)
        refine W.eq (g2 := F0 m 204 ls [.double r5, .double x4]) rfl ?_
        obtain ⟨g7, h⟩ := h
        refine lv_ddiv hx hb d_M_writeReal_204 g7 ?_
        exact w_M_writeReal_205 hfl K k150 hk150 x3 x4 x6 t1 x11 (FP.ddiv x4 r5) M6 _ _ _ h (lv_sub hl [1, 2, 3, 4, 0, 7] rfl) hw
    · have h := h.2 hc
      exact w_M_writeReal_275 hfl K x4 x7 x9 M _ _ _ h (lv_sub hl [0, 2, 4, 5] rfl) hw
theorem w_M_writeReal_150 {post : Unit → nf_M → Prop} (hfl : l.flags = flags0) (K : nf_K p s m args meth c "NumberForgeModel" nb_M_writeReal 14 none D a sz) : ∀ (n : Nat) (x3 : Int32) (x4 : UInt64) (x6 : Int32) (x7 : Int64) (x9 : Int32) (x10 : Int32) (x11 : Int32) (M : nf_M) (H : Heap) (locs : List Loc) (ls : Array Slot), B_M_writeReal_150 post n x3 x4 x6 x7 x9 x10 x11 M → lv_has ls 14 [(0, .ref (a 19)), (3, .int x3), (4, .double x4), (6, .int x6), (7, .long x7), (9, .int x9), (10, .int x10), (11, .int x11)] → nf_W D a s sz H locs M → W p l e rm_M_writeReal s m args below meth c H locs 0 0 (nf_MQ below (nf_Q nf_jN D a post ex (nf_A a sz)) args s rm_M_writeReal.cells rm_M_writeReal.slots (nf_A a sz)) (F0 m 150 ls []) := by
  have hx := K.1
  have hb := K.2.1
  intro n
  induction n with
  | zero => intro x3 x4 x6 x7 x9 x10 x11 M H locs ls h hl hw; exact h.elim
  | succ n ih =>
    intro x3 x4 x6 x7 x9 x10 x11 M H locs ls h hl hw
    refine lv_iload hx hb d_M_writeReal_150 (lv_at hl 7 rfl) ?_
    refine lv_iload_n hx hb d_M_writeReal_152 rfl (lv_at hl 1 rfl) ?_
    refine nf_if_eq hx hb d_M_writeReal_153 (tgt := 161) (by decide) (fun hc => ?_) (fun hc => ?_)
    · have h := h.1 hc
      refine lv_bipush (v := (15 : Int32)) hx hb d_M_writeReal_161 (by decide) ?_
      exact w_M_writeReal_163 hfl K (fun x3 x4 x6 x7 x9 x10 x11 z => B_M_writeReal_150 post n x3 x4 x6 x7 x9 x10 x11 z) (fun x3 x4 x6 x7 x9 x10 x11 z H locs ls hh hll hww => ih x3 x4 x6 x7 x9 x10 x11 z H locs ls hh hll hww) x3 x4 x6 x7 x9 x10 x11 (15 : Int32) x11 M _ _ _ h (lv_sub hl [0, 1, 2, 3, 4, 5, 6, 7] rfl) hw
    · have h := h.2 hc
      refine lv_bipush (v := (8 : Int32)) hx hb d_M_writeReal_156 (by decide) ?_
      refine lv_goto hx hb d_M_writeReal_158 (tgt := 163) (by decide) ?_
      exact w_M_writeReal_163 hfl K (fun x3 x4 x6 x7 x9 x10 x11 z => B_M_writeReal_150 post n x3 x4 x6 x7 x9 x10 x11 z) (fun x3 x4 x6 x7 x9 x10 x11 z H locs ls hh hll hww => ih x3 x4 x6 x7 x9 x10 x11 z H locs ls hh hll hww) x3 x4 x6 x7 x9 x10 x11 (8 : Int32) x11 M _ _ _ h (lv_sub hl [0, 1, 2, 3, 4, 5, 6, 7] rfl) hw
theorem w_M_writeReal_89 {post : Unit → nf_M → Prop} (hfl : l.flags = flags0) (K : nf_K p s m args meth c "NumberForgeModel" nb_M_writeReal 14 none D a sz) : ∀ (n : Nat) (x3 : Int32) (x4 : UInt64) (x6 : Int32) (x7 : Int32) (M : nf_M) (H : Heap) (locs : List Loc) (ls : Array Slot), B_M_writeReal_89 post n x3 x4 x6 x7 M → lv_has ls 14 [(0, .ref (a 19)), (3, .int x3), (4, .double x4), (6, .int x6), (7, .int x7)] → nf_W D a s sz H locs M → W p l e rm_M_writeReal s m args below meth c H locs 0 0 (nf_MQ below (nf_Q nf_jN D a post ex (nf_A a sz)) args s rm_M_writeReal.cells rm_M_writeReal.slots (nf_A a sz)) (F0 m 89 ls []) := by
  have hx := K.1
  have hb := K.2.1
  intro n
  induction n with
  | zero => intro x3 x4 x6 x7 M H locs ls h hl hw; exact h.elim
  | succ n ih =>
    intro x3 x4 x6 x7 M H locs ls h hl hw
    refine lv_iload hx hb d_M_writeReal_89 (lv_at hl 4 rfl) ?_
    refine lv_bipush (v := (16 : Int32)) hx hb d_M_writeReal_91 (by decide) ?_
    refine nf_ic_ge hx hb d_M_writeReal_93 (tgt := 138) (by decide) (fun hc => ?_) (fun hc => ?_)
    · have h := h.1 hc
      refine lv_iload hx hb d_M_writeReal_96 (lv_at hl 4 rfl) ?_
      refine nf_if_ge hx hb d_M_writeReal_98 (tgt := 112) (by decide) (fun hc => ?_) (fun hc => ?_)
      · have h := h.1 hc
        refine lv_dconst1 hx hb d_M_writeReal_101 ?_
        refine lv_iload hx hb d_M_writeReal_102 (lv_at hl 4 rfl) ?_
        refine lv_ineg hx hb d_M_writeReal_104 ?_
        refine nf_callW (ex := (fun _ _ => False)) (As := [.int (-x7)]) (st0 := [.int (-x7), .double (FP.dconst1)]) (rest := [.double (FP.dconst1)]) K hw (nf_invS hx hb K.2.2.2.1 (nf_Kg K nw_1063) (nf_Kg K nw_1064) (nf_Kg K nw_9) (nf_Kg K nw_1065) ⟨by decide, by decide⟩ rfl nl_M_ten rfl d_M_writeReal_105) (c_M_ten l hfl (-x7)) nw_1065 nw_9 rfl ⟨by decide, by decide⟩ (Nat.le_of_ble_eq_true rfl) hl.1 ⟨Nat.le_of_ble_eq_true rfl, Nat.le_of_ble_eq_true rfl⟩ h (fun _ _ h => h.elim) (fun r1 M2 H locs h hw => ?_)
        refine W.eq (g2 := F0 m 108 ls [.double r1, .double (FP.dconst1)]) rfl ?_
        obtain ⟨g3, h⟩ := h
        refine lv_ddiv hx hb d_M_writeReal_108 g3 ?_
        refine lv_goto hx hb d_M_writeReal_109 (tgt := 117) (by decide) ?_
        exact w_M_writeReal_117 hfl K (fun x3 x4 x6 x7 z => B_M_writeReal_89 post n x3 x4 x6 x7 z) (fun x3 x4 x6 x7 z H locs ls hh hll hww => ih x3 x4 x6 x7 z H locs ls hh hll hww) x3 x4 x6 x7 (FP.ddiv (FP.dconst1) r1) M2 _ _ _ h (lv_sub hl [0, 1, 2, 3, 4] rfl) hw
      · have h := h.2 hc
        refine lv_iload hx hb d_M_writeReal_112 (lv_at hl 4 rfl) ?_
        refine nf_callW (ex := (fun _ _ => False)) (As := [.int x7]) (st0 := [.int x7]) (rest := []) K hw (nf_invS hx hb K.2.2.2.1 (nf_Kg K nw_1063) (nf_Kg K nw_1064) (nf_Kg K nw_9) (nf_Kg K nw_1065) ⟨by decide, by decide⟩ rfl nl_M_ten rfl d_M_writeReal_114) (c_M_ten l hfl x7) nw_1065 nw_9 rfl ⟨by decide, by decide⟩ (Nat.le_of_ble_eq_true rfl) hl.1 ⟨Nat.le_of_ble_eq_true rfl, Nat.le_of_ble_eq_true rfl⟩ h (fun _ _ h => h.elim) (fun r4 M5 H locs h hw => ?_)
        refine W.eq (g2 := F0 m 117 ls [.double r4]) rfl ?_
        exact w_M_writeReal_117 hfl K (fun x3 x4 x6 x7 z => B_M_writeReal_89 post n x3 x4 x6 x7 z) (fun x3 x4 x6 x7 z H locs ls hh hll hww => ih x3 x4 x6 x7 z H locs ls hh hll hww) x3 x4 x6 x7 r4 M5 _ _ _ h (lv_sub hl [0, 1, 2, 3, 4] rfl) hw
    · have h := h.2 hc
      refine lv_lconst (v := (0 : Int64)) hx hb d_M_writeReal_138 (by decide) ?_
      refine lv_lstore (lv' := [(7, .long (0 : Int64)), (0, .ref (a 19)), (3, .int x3), (4, .double x4), (6, .int x6)]) hx hb d_M_writeReal_139 hl (by decide) rfl (fun ls hl => ?_)
      refine lv_iconst (v := (0 : Int32)) hx hb d_M_writeReal_141 (by decide) ?_
      refine lv_istore (lv' := [(9, .int (0 : Int32)), (7, .long (0 : Int64)), (0, .ref (a 19)), (3, .int x3), (4, .double x4), (6, .int x6)]) hx hb d_M_writeReal_142 hl (by decide) rfl (fun ls hl => ?_)
      refine lv_iconst (v := (0 : Int32)) hx hb d_M_writeReal_144 (by decide) ?_
      refine lv_istore (lv' := [(10, .int (0 : Int32)), (9, .int (0 : Int32)), (7, .long (0 : Int64)), (0, .ref (a 19)), (3, .int x3), (4, .double x4), (6, .int x6)]) hx hb d_M_writeReal_145 hl (by decide) rfl (fun ls hl => ?_)
      refine lv_iconst (v := (1 : Int32)) hx hb d_M_writeReal_147 (by decide) ?_
      refine lv_istore (lv' := [(11, .int (1 : Int32)), (10, .int (0 : Int32)), (9, .int (0 : Int32)), (7, .long (0 : Int64)), (0, .ref (a 19)), (3, .int x3), (4, .double x4), (6, .int x6)]) hx hb d_M_writeReal_148 hl (by decide) rfl (fun ls hl => ?_)
      obtain ⟨n9, h⟩ := h
      exact w_M_writeReal_150 hfl K n9 x3 x4 x6 (0 : Int64) (0 : Int32) (0 : Int32) (1 : Int32) M _ _ _ h (lv_sub hl [4, 5, 6, 7, 3, 2, 1, 0] rfl) hw
theorem w_M_writeReal_40 {post : Unit → nf_M → Prop} (hfl : l.flags = flags0) (K : nf_K p s m args meth c "NumberForgeModel" nb_M_writeReal 14 none D a sz) : ∀ (x3 : Int32) (x4 : UInt64) (M : nf_M) (H : Heap) (locs : List Loc) (ls : Array Slot), B_M_writeReal_40 post x3 x4 M → lv_has ls 14 [(0, .ref (a 19)), (3, .int x3), (4, .double x4)] → nf_W D a s sz H locs M → W p l e rm_M_writeReal s m args below meth c H locs 0 0 (nf_MQ below (nf_Q nf_jN D a post ex (nf_A a sz)) args s rm_M_writeReal.cells rm_M_writeReal.slots (nf_A a sz)) (F0 m 40 ls []) := by
  have hx := K.1
  have hb := K.2.1
  intro x3 x4 M H locs ls h hl hw
  refine lv_dload hx hb d_M_writeReal_40 (lv_at hl 2 rfl) ?_
  refine lv_dconst0 hx hb d_M_writeReal_42 ?_
  refine nf_dl_ne hx hb d_M_writeReal_43 d_M_writeReal_44 (tgt := 54) (by decide) (fun hc => ?_) (fun hc => ?_)
  · have h := h.1 hc
    refine lv_aload_n hx hb d_M_writeReal_47 rfl (lv_at hl 0 rfl) ?_
    refine lv_bipush (v := (48 : Int32)) hx hb d_M_writeReal_48 (by decide) ?_
    refine nf_callW (ex := (fun _ _ => False)) (As := [.ref (a 19), .int (48 : Int32)]) (st0 := [.int (48 : Int32), .ref (a 19)]) (rest := []) K hw (nf_invV hx hb K.2.2.2.1 (nf_Kg K nw_1206) (nf_Kg K nw_1208) (nf_Kg K nx_M_add) (nf_Kg K nw_1209) ⟨by decide, by decide⟩ (nf_rcv K hw 19 7 rfl rfl) rfl nl_M_add rfl d_M_writeReal_50) (c_M_add l hfl (48 : Int32)) nw_1209 nw_9 rfl ⟨by decide, by decide⟩ (Nat.le_of_ble_eq_true rfl) hl.1 ⟨Nat.le_of_ble_eq_true rfl, Nat.le_of_ble_eq_true rfl⟩ h (fun _ _ h => h.elim) (fun r1 M2 H locs h hw => ?_)
    refine W.eq (g2 := F0 m 53 ls []) rfl ?_
    exact nf_vret K hw d_M_writeReal_53 (Nat.le_of_ble_eq_true rfl) (Nat.le_of_ble_eq_true rfl) (r := ()) rfl h
  · have h := h.2 hc
    refine lv_dload hx hb d_M_writeReal_54 (lv_at hl 2 rfl) ?_
    refine nf_callW (ex := (fun _ _ => False)) (As := [.double x4]) (st0 := [.double x4]) (rest := []) K hw (nf_invS hx hb K.2.2.2.1 (nf_Kg K nw_1097) (nf_Kg K nw_1098) (nf_Kg K nw_9) (nf_Kg K nw_1099) ⟨by decide, by decide⟩ rfl nl_M_isInfinite rfl d_M_writeReal_56) (c_M_isInfinite l hfl x4) nw_1099 nw_9 rfl ⟨by decide, by decide⟩ (Nat.le_of_ble_eq_true rfl) hl.1 ⟨Nat.le_of_ble_eq_true rfl, Nat.le_of_ble_eq_true rfl⟩ h (fun _ _ h => h.elim) (fun r3 M4 H locs h hw => ?_)
    refine W.eq (g2 := F0 m 59 ls [.int r3]) rfl ?_
    refine nf_if_eq hx hb d_M_writeReal_59 (tgt := 81) (by decide) (fun hc => ?_) (fun hc => ?_)
    · have h := h.1 hc
      refine lv_bipush (v := (-8 : Int32)) hx hb d_M_writeReal_81 (by decide) ?_
      refine lv_istore (lv' := [(6, .int (-8 : Int32)), (0, .ref (a 19)), (3, .int x3), (4, .double x4)]) hx hb d_M_writeReal_83 hl (by decide) rfl (fun ls hl => ?_)
      refine lv_bipush (v := (-7 : Int32)) hx hb d_M_writeReal_85 (by decide) ?_
      refine lv_istore (lv' := [(7, .int (-7 : Int32)), (6, .int (-8 : Int32)), (0, .ref (a 19)), (3, .int x3), (4, .double x4)]) hx hb d_M_writeReal_87 hl (by decide) rfl (fun ls hl => ?_)
      obtain ⟨n, h⟩ := h
      exact w_M_writeReal_89 hfl K n x3 x4 (-8 : Int32) (-7 : Int32) M4 _ _ _ h (lv_sub hl [2, 3, 4, 1, 0] rfl) hw
    · have h := h.2 hc
      refine lv_aload_n hx hb d_M_writeReal_62 rfl (lv_at hl 0 rfl) ?_
      refine lv_bipush (v := (73 : Int32)) hx hb d_M_writeReal_63 (by decide) ?_
      refine nf_callW (ex := (fun _ _ => False)) (As := [.ref (a 19), .int (73 : Int32)]) (st0 := [.int (73 : Int32), .ref (a 19)]) (rest := []) K hw (nf_invV hx hb K.2.2.2.1 (nf_Kg K nw_1206) (nf_Kg K nw_1208) (nf_Kg K nx_M_add) (nf_Kg K nw_1209) ⟨by decide, by decide⟩ (nf_rcv K hw 19 7 rfl rfl) rfl nl_M_add rfl d_M_writeReal_65) (c_M_add l hfl (73 : Int32)) nw_1209 nw_9 rfl ⟨by decide, by decide⟩ (Nat.le_of_ble_eq_true rfl) hl.1 ⟨Nat.le_of_ble_eq_true rfl, Nat.le_of_ble_eq_true rfl⟩ h (fun _ _ h => h.elim) (fun r5 M6 H locs h hw => ?_)
      refine W.eq (g2 := F0 m 68 ls []) rfl ?_
      refine lv_aload_n hx hb d_M_writeReal_68 rfl (lv_at hl 0 rfl) ?_
      refine lv_bipush (v := (78 : Int32)) hx hb d_M_writeReal_69 (by decide) ?_
      refine nf_callW (ex := (fun _ _ => False)) (As := [.ref (a 19), .int (78 : Int32)]) (st0 := [.int (78 : Int32), .ref (a 19)]) (rest := []) K hw (nf_invV hx hb K.2.2.2.1 (nf_Kg K nw_1206) (nf_Kg K nw_1208) (nf_Kg K nx_M_add) (nf_Kg K nw_1209) ⟨by decide, by decide⟩ (nf_rcv K hw 19 7 rfl rfl) rfl nl_M_add rfl d_M_writeReal_71) (c_M_add l hfl (78 : Int32)) nw_1209 nw_9 rfl ⟨by decide, by decide⟩ (Nat.le_of_ble_eq_true rfl) hl.1 ⟨Nat.le_of_ble_eq_true rfl, Nat.le_of_ble_eq_true rfl⟩ h (fun _ _ h => h.elim) (fun r7 M8 H locs h hw => ?_)
      refine W.eq (g2 := F0 m 74 ls []) rfl ?_
      refine lv_aload_n hx hb d_M_writeReal_74 rfl (lv_at hl 0 rfl) ?_
      refine lv_bipush (v := (70 : Int32)) hx hb d_M_writeReal_75 (by decide) ?_
      refine nf_callW (ex := (fun _ _ => False)) (As := [.ref (a 19), .int (70 : Int32)]) (st0 := [.int (70 : Int32), .ref (a 19)]) (rest := []) K hw (nf_invV hx hb K.2.2.2.1 (nf_Kg K nw_1206) (nf_Kg K nw_1208) (nf_Kg K nx_M_add) (nf_Kg K nw_1209) ⟨by decide, by decide⟩ (nf_rcv K hw 19 7 rfl rfl) rfl nl_M_add rfl d_M_writeReal_77) (c_M_add l hfl (70 : Int32)) nw_1209 nw_9 rfl ⟨by decide, by decide⟩ (Nat.le_of_ble_eq_true rfl) hl.1 ⟨Nat.le_of_ble_eq_true rfl, Nat.le_of_ble_eq_true rfl⟩ h (fun _ _ h => h.elim) (fun r9 M10 H locs h hw => ?_)
      refine W.eq (g2 := F0 m 80 ls []) rfl ?_
      exact nf_vret K hw d_M_writeReal_80 (Nat.le_of_ble_eq_true rfl) (Nat.le_of_ble_eq_true rfl) (r := ()) rfl h
theorem w_M_writeReal_34 {post : Unit → nf_M → Prop} (hfl : l.flags = flags0) (K : nf_K p s m args meth c "NumberForgeModel" nb_M_writeReal 14 none D a sz) : ∀ (x3 : Int32) (x4 : UInt64) (M : nf_M) (H : Heap) (locs : List Loc) (ls : Array Slot), B_M_writeReal_34 post x3 x4 M → lv_has ls 14 [(0, .ref (a 19)), (3, .int x3), (4, .double x4)] → nf_W D a s sz H locs M → W p l e rm_M_writeReal s m args below meth c H locs 0 0 (nf_MQ below (nf_Q nf_jN D a post ex (nf_A a sz)) args s rm_M_writeReal.cells rm_M_writeReal.slots (nf_A a sz)) (F0 m 34 ls []) := by
  have hx := K.1
  have hb := K.2.1
  intro x3 x4 M H locs ls h hl hw
  refine lv_aload_n hx hb d_M_writeReal_34 rfl (lv_at hl 0 rfl) ?_
  refine lv_bipush (v := (45 : Int32)) hx hb d_M_writeReal_35 (by decide) ?_
  refine nf_callW (ex := (fun _ _ => False)) (As := [.ref (a 19), .int (45 : Int32)]) (st0 := [.int (45 : Int32), .ref (a 19)]) (rest := []) K hw (nf_invV hx hb K.2.2.2.1 (nf_Kg K nw_1206) (nf_Kg K nw_1208) (nf_Kg K nx_M_add) (nf_Kg K nw_1209) ⟨by decide, by decide⟩ (nf_rcv K hw 19 7 rfl rfl) rfl nl_M_add rfl d_M_writeReal_37) (c_M_add l hfl (45 : Int32)) nw_1209 nw_9 rfl ⟨by decide, by decide⟩ (Nat.le_of_ble_eq_true rfl) hl.1 ⟨Nat.le_of_ble_eq_true rfl, Nat.le_of_ble_eq_true rfl⟩ h (fun _ _ h => h.elim) (fun r1 M2 H locs h hw => ?_)
  refine W.eq (g2 := F0 m 40 ls []) rfl ?_
  exact w_M_writeReal_40 hfl K x3 x4 M2 _ _ _ h (lv_sub hl [0, 1, 2] rfl) hw
theorem w_M_writeReal_12 {post : Unit → nf_M → Prop} (hfl : l.flags = flags0) (K : nf_K p s m args meth c "NumberForgeModel" nb_M_writeReal 14 none D a sz) : ∀ (x1 : UInt64) (x3 : Int32) (xy0 : UInt64) (M : nf_M) (H : Heap) (locs : List Loc) (ls : Array Slot), B_M_writeReal_12 post x1 x3 xy0 M → lv_has ls 14 [(0, .ref (a 19)), (1, .double x1), (3, .int x3)] → nf_W D a s sz H locs M → W p l e rm_M_writeReal s m args below meth c H locs 0 0 (nf_MQ below (nf_Q nf_jN D a post ex (nf_A a sz)) args s rm_M_writeReal.cells rm_M_writeReal.slots (nf_A a sz)) (F0 m 12 ls [.double xy0]) := by
  have hx := K.1
  have hb := K.2.1
  intro x1 x3 xy0 M H locs ls h hl hw
  refine lv_dstore (lv' := [(4, .double xy0), (0, .ref (a 19)), (1, .double x1), (3, .int x3)]) hx hb d_M_writeReal_12 hl (by decide) rfl (fun ls hl => ?_)
  refine lv_dload_n hx hb d_M_writeReal_14 rfl (lv_at hl 2 rfl) ?_
  refine lv_dconst0 hx hb d_M_writeReal_15 ?_
  refine nf_dg_lt hx hb d_M_writeReal_16 d_M_writeReal_17 (tgt := 34) (by decide) (fun hc => ?_) (fun hc => ?_)
  · have h := h.1 hc
    exact w_M_writeReal_34 hfl K x3 xy0 M _ _ _ h (lv_sub hl [1, 3, 0] rfl) hw
  · have h := h.2 hc
    refine lv_dload_n hx hb d_M_writeReal_20 rfl (lv_at hl 2 rfl) ?_
    refine lv_dconst0 hx hb d_M_writeReal_21 ?_
    refine nf_dl_ne hx hb d_M_writeReal_22 d_M_writeReal_23 (tgt := 40) (by decide) (fun hc => ?_) (fun hc => ?_)
    · have h := h.1 hc
      refine lv_dconst1 hx hb d_M_writeReal_26 ?_
      refine lv_dload_n hx hb d_M_writeReal_27 rfl (lv_at hl 2 rfl) ?_
      obtain ⟨g1, h⟩ := h
      refine lv_ddiv hx hb d_M_writeReal_28 g1 ?_
      refine lv_dconst0 hx hb d_M_writeReal_29 ?_
      refine nf_dg_ge hx hb d_M_writeReal_30 d_M_writeReal_31 (tgt := 40) (by decide) (fun hc => ?_) (fun hc => ?_)
      · have h := h.1 hc
        exact w_M_writeReal_34 hfl K x3 xy0 M _ _ _ h (lv_sub hl [1, 3, 0] rfl) hw
      · have h := h.2 hc
        exact w_M_writeReal_40 hfl K x3 xy0 M _ _ _ h (lv_sub hl [1, 3, 0] rfl) hw
    · have h := h.2 hc
      exact w_M_writeReal_40 hfl K x3 xy0 M _ _ _ h (lv_sub hl [1, 3, 0] rfl) hw
theorem c_M_writeReal (l : Launch) (hfl : l.flags = flags0) (x1 : UInt64) (x3 : Int32) : nf_C nf_jN l nm_M_writeReal nb_M_writeReal 14 none rm_M_writeReal (fun a => [.ref (a 19), .double x1, .int x3]) (fun M post ex => P_M_writeReal x1 x3 M post) := by
  refine nf_start (plainFor_of_name (by decide +kernel)) (fun a => Nat.le_of_ble_eq_true rfl) ?_
  intro D a sz M post ex p e s m below meth c ls h K hl hw
  have hx := K.1
  have hb := K.2.1
  have hl : lv_has ls 14 [(0, .ref (a 19)), (1, .double x1), (3, .int x3)] := hl
  refine lv_dload_n hx hb d_M_writeReal_0 rfl (lv_at hl 1 rfl) ?_
  refine lv_dconst0 hx hb d_M_writeReal_1 ?_
  refine nf_dg_ge hx hb d_M_writeReal_2 d_M_writeReal_3 (tgt := 11) (by decide) (fun hc => ?_) (fun hc => ?_)
  · have h := h.1 hc
    refine lv_dload_n hx hb d_M_writeReal_6 rfl (lv_at hl 1 rfl) ?_
    refine lv_dneg hx hb d_M_writeReal_7 ?_
    refine lv_goto hx hb d_M_writeReal_8 (tgt := 12) (by decide) ?_
    exact w_M_writeReal_12 hfl K x1 x3 (FP.dneg x1) M _ _ _ h (lv_sub hl [0, 1, 2] rfl) hw
  · have h := h.2 hc
    refine lv_dload_n hx hb d_M_writeReal_11 rfl (lv_at hl 1 rfl) ?_
    exact w_M_writeReal_12 hfl K x1 x3 x1 M _ _ _ h (lv_sub hl [0, 1, 2] rfl) hw
theorem d_M_write_0 : decode nb_M_write 0 = .ok (.aload_n 0, 1) := by decide +kernel
theorem d_M_write_1 : decode nb_M_write 1 = .ok (.iload_n 1, 1) := by decide +kernel
theorem d_M_write_2 : decode nb_M_write 2 = .ok (.invokestatic 148, 3) := by decide +kernel
theorem d_M_write_5 : decode nb_M_write 5 = .ok (.ifCond .ne 7, 3) := by decide +kernel
theorem d_M_write_8 : decode nb_M_write 8 = .ok (.iconst 1, 1) := by decide +kernel
theorem d_M_write_9 : decode nb_M_write 9 = .ok (.goto 17, 3) := by decide +kernel
theorem d_M_write_12 : decode nb_M_write 12 = .ok (.aload_n 0, 1) := by decide +kernel
theorem d_M_write_13 : decode nb_M_write 13 = .ok (.getfield 16, 3) := by decide +kernel
theorem d_M_write_16 : decode nb_M_write 16 = .ok (.iload_n 1, 1) := by decide +kernel
theorem d_M_write_17 : decode nb_M_write 17 = .ok (.iaload, 1) := by decide +kernel
theorem d_M_write_18 : decode nb_M_write 18 = .ok (.ifCond .ge 7, 3) := by decide +kernel
theorem d_M_write_21 : decode nb_M_write 21 = .ok (.iconst 2, 1) := by decide +kernel
theorem d_M_write_22 : decode nb_M_write 22 = .ok (.goto 4, 3) := by decide +kernel
theorem d_M_write_25 : decode nb_M_write 25 = .ok (.iconst 0, 1) := by decide +kernel
theorem d_M_write_26 : decode nb_M_write 26 = .ok (.putfield 33, 3) := by decide +kernel
theorem d_M_write_29 : decode nb_M_write 29 = .ok (.aload_n 0, 1) := by decide +kernel
theorem d_M_write_30 : decode nb_M_write 30 = .ok (.getfield 33, 3) := by decide +kernel
theorem d_M_write_33 : decode nb_M_write 33 = .ok (.ifCond .le 5, 3) := by decide +kernel
theorem d_M_write_36 : decode nb_M_write 36 = .ok (.iconst 0, 1) := by decide +kernel
theorem d_M_write_37 : decode nb_M_write 37 = .ok (.ireturn, 1) := by decide +kernel
theorem d_M_write_38 : decode nb_M_write 38 = .ok (.aload_n 0, 1) := by decide +kernel
theorem d_M_write_39 : decode nb_M_write 39 = .ok (.getfield 16, 3) := by decide +kernel
theorem d_M_write_42 : decode nb_M_write 42 = .ok (.iload_n 1, 1) := by decide +kernel
theorem d_M_write_43 : decode nb_M_write 43 = .ok (.iaload, 1) := by decide +kernel
theorem d_M_write_44 : decode nb_M_write 44 = .ok (.invokestatic 145, 3) := by decide +kernel
theorem d_M_write_47 : decode nb_M_write 47 = .ok (.ifCond .eq 29, 3) := by decide +kernel
theorem d_M_write_50 : decode nb_M_write 50 = .ok (.aload_n 0, 1) := by decide +kernel
theorem d_M_write_51 : decode nb_M_write 51 = .ok (.iconst 0, 1) := by decide +kernel
theorem d_M_write_52 : decode nb_M_write 52 = .ok (.putfield 249, 3) := by decide +kernel
theorem d_M_write_55 : decode nb_M_write 55 = .ok (.aload_n 0, 1) := by decide +kernel
theorem d_M_write_56 : decode nb_M_write 56 = .ok (.aload_n 0, 1) := by decide +kernel
theorem d_M_write_57 : decode nb_M_write 57 = .ok (.getfield 19, 3) := by decide +kernel
theorem d_M_write_60 : decode nb_M_write 60 = .ok (.iload_n 1, 1) := by decide +kernel
theorem d_M_write_61 : decode nb_M_write 61 = .ok (.laload, 1) := by decide +kernel
theorem d_M_write_62 : decode nb_M_write 62 = .ok (.aload_n 0, 1) := by decide +kernel
theorem d_M_write_63 : decode nb_M_write 63 = .ok (.getfield 23, 3) := by decide +kernel
theorem d_M_write_66 : decode nb_M_write 66 = .ok (.iload_n 1, 1) := by decide +kernel
theorem d_M_write_67 : decode nb_M_write 67 = .ok (.iaload, 1) := by decide +kernel
theorem d_M_write_68 : decode nb_M_write 68 = .ok (.invokevirtual 268, 3) := by decide +kernel
theorem d_M_write_71 : decode nb_M_write 71 = .ok (.aload_n 0, 1) := by decide +kernel
theorem d_M_write_72 : decode nb_M_write 72 = .ok (.getfield 249, 3) := by decide +kernel
theorem d_M_write_75 : decode nb_M_write 75 = .ok (.ireturn, 1) := by decide +kernel
theorem d_M_write_76 : decode nb_M_write 76 = .ok (.aload_n 0, 1) := by decide +kernel
theorem d_M_write_77 : decode nb_M_write 77 = .ok (.getfield 26, 3) := by decide +kernel
theorem d_M_write_80 : decode nb_M_write 80 = .ok (.iload_n 1, 1) := by decide +kernel
theorem d_M_write_81 : decode nb_M_write 81 = .ok (.daload, 1) := by decide +kernel
theorem d_M_write_82 : decode nb_M_write 82 = .ok (.dstore_n 2, 1) := by decide +kernel
theorem d_M_write_83 : decode nb_M_write 83 = .ok (.dload_n 2, 1) := by decide +kernel
theorem d_M_write_84 : decode nb_M_write 84 = .ok (.dconst 0, 1) := by decide +kernel
theorem d_M_write_85 : decode nb_M_write 85 = .ok (.dcmp .g, 1) := by decide +kernel
theorem d_M_write_86 : decode nb_M_write 86 = .ok (.ifCond .ge 8, 3) := by decide +kernel
theorem d_M_write_89 : decode nb_M_write 89 = .ok (.dload_n 2, 1) := by decide +kernel
theorem d_M_write_90 : decode nb_M_write 90 = .ok (.dneg, 1) := by decide +kernel
theorem d_M_write_91 : decode nb_M_write 91 = .ok (.goto 4, 3) := by decide +kernel
theorem d_M_write_94 : decode nb_M_write 94 = .ok (.dload_n 2, 1) := by decide +kernel
theorem d_M_write_95 : decode nb_M_write 95 = .ok (.dstore 4, 2) := by decide +kernel
theorem d_M_write_97 : decode nb_M_write 97 = .ok (.dload 4, 2) := by decide +kernel
theorem d_M_write_99 : decode nb_M_write 99 = .ok (.dconst 0, 1) := by decide +kernel
theorem d_M_write_100 : decode nb_M_write 100 = .ok (.dcmp .l, 1) := by decide +kernel
theorem d_M_write_101 : decode nb_M_write 101 = .ok (.ifCond .eq 11, 3) := by decide +kernel
theorem d_M_write_104 : decode nb_M_write 104 = .ok (.dload 4, 2) := by decide +kernel
theorem d_M_write_106 : decode nb_M_write 106 = .ok (.invokestatic 166, 3) := by decide +kernel
theorem d_M_write_109 : decode nb_M_write 109 = .ok (.ifCond .eq 7, 3) := by decide +kernel
theorem d_M_write_112 : decode nb_M_write 112 = .ok (.iconst 1, 1) := by decide +kernel
theorem d_M_write_113 : decode nb_M_write 113 = .ok (.goto 4, 3) := by decide +kernel
theorem d_M_write_116 : decode nb_M_write 116 = .ok (.iconst 0, 1) := by decide +kernel
theorem d_M_write_117 : decode nb_M_write 117 = .ok (.istore 6, 2) := by decide +kernel
theorem d_M_write_119 : decode nb_M_write 119 = .ok (.aload_n 0, 1) := by decide +kernel
theorem d_M_write_120 : decode nb_M_write 120 = .ok (.iload 6, 2) := by decide +kernel
theorem d_M_write_122 : decode nb_M_write 122 = .ok (.ifCond .ne 31, 3) := by decide +kernel
theorem d_M_write_125 : decode nb_M_write 125 = .ok (.dload 4, 2) := by decide +kernel
theorem d_M_write_127 : decode nb_M_write 127 = .ok (.dconst 1, 1) := by decide +kernel
theorem d_M_write_128 : decode nb_M_write 128 = .ok (.bipush 8, 2) := by decide +kernel
theorem d_M_write_130 : decode nb_M_write 130 = .ok (.invokestatic 141, 3) := by decide +kernel
theorem d_M_write_133 : decode nb_M_write 133 = .ok (.ddiv, 1) := by decide +kernel
theorem d_M_write_134 : decode nb_M_write 134 = .ok (.dcmp .g, 1) := by decide +kernel
theorem d_M_write_135 : decode nb_M_write 135 = .ok (.ifCond .lt 14, 3) := by decide +kernel
theorem d_M_write_138 : decode nb_M_write 138 = .ok (.dload 4, 2) := by decide +kernel
theorem d_M_write_140 : decode nb_M_write 140 = .ok (.bipush 15, 2) := by decide +kernel
theorem d_M_write_142 : decode nb_M_write 142 = .ok (.invokestatic 141, 3) := by decide +kernel
theorem d_M_write_145 : decode nb_M_write 145 = .ok (.dcmp .l, 1) := by decide +kernel
theorem d_M_write_146 : decode nb_M_write 146 = .ok (.ifCond .lt 7, 3) := by decide +kernel
theorem d_M_write_149 : decode nb_M_write 149 = .ok (.iconst 3, 1) := by decide +kernel
theorem d_M_write_150 : decode nb_M_write 150 = .ok (.goto 4, 3) := by decide +kernel
theorem d_M_write_153 : decode nb_M_write 153 = .ok (.iconst 0, 1) := by decide +kernel
theorem d_M_write_154 : decode nb_M_write 154 = .ok (.putfield 33, 3) := by decide +kernel
theorem d_M_write_157 : decode nb_M_write 157 = .ok (.aload_n 0, 1) := by decide +kernel
theorem d_M_write_158 : decode nb_M_write 158 = .ok (.getfield 33, 3) := by decide +kernel
theorem d_M_write_161 : decode nb_M_write 161 = .ok (.ifCond .le 5, 3) := by decide +kernel
theorem d_M_write_164 : decode nb_M_write 164 = .ok (.iconst 0, 1) := by decide +kernel
theorem d_M_write_165 : decode nb_M_write 165 = .ok (.ireturn, 1) := by decide +kernel
theorem d_M_write_166 : decode nb_M_write 166 = .ok (.aload_n 0, 1) := by decide +kernel
theorem d_M_write_167 : decode nb_M_write 167 = .ok (.iconst 0, 1) := by decide +kernel
theorem d_M_write_168 : decode nb_M_write 168 = .ok (.putfield 249, 3) := by decide +kernel
theorem d_M_write_171 : decode nb_M_write 171 = .ok (.aload_n 0, 1) := by decide +kernel
theorem d_M_write_172 : decode nb_M_write 172 = .ok (.dload_n 2, 1) := by decide +kernel
theorem d_M_write_173 : decode nb_M_write 173 = .ok (.aload_n 0, 1) := by decide +kernel
theorem d_M_write_174 : decode nb_M_write 174 = .ok (.getfield 16, 3) := by decide +kernel
theorem d_M_write_177 : decode nb_M_write 177 = .ok (.iload_n 1, 1) := by decide +kernel
theorem d_M_write_178 : decode nb_M_write 178 = .ok (.iaload, 1) := by decide +kernel
theorem d_M_write_179 : decode nb_M_write 179 = .ok (.bipush 8, 2) := by decide +kernel
theorem d_M_write_181 : decode nb_M_write 181 = .ok (.if_icmp .ne 7, 3) := by decide +kernel
theorem d_M_write_184 : decode nb_M_write 184 = .ok (.iconst 1, 1) := by decide +kernel
theorem d_M_write_185 : decode nb_M_write 185 = .ok (.goto 4, 3) := by decide +kernel
theorem d_M_write_188 : decode nb_M_write 188 = .ok (.iconst 0, 1) := by decide +kernel
theorem d_M_write_189 : decode nb_M_write 189 = .ok (.invokevirtual 271, 3) := by decide +kernel
theorem d_M_write_192 : decode nb_M_write 192 = .ok (.aload_n 0, 1) := by decide +kernel
theorem d_M_write_193 : decode nb_M_write 193 = .ok (.getfield 249, 3) := by decide +kernel
theorem d_M_write_196 : decode nb_M_write 196 = .ok (.ireturn, 1) := by decide +kernel
abbrev rm_M_write : Room := ({ frames := 4, cells := 0, slots := 0, locals := 111 })
theorem w_M_write_189 {post : Int32 → nf_M → Prop} (hfl : l.flags = flags0) (K : nf_K p s m args meth c "NumberForgeModel" nb_M_write 7 (some FieldType.int) D a sz) : ∀ (xy0 : Int32) (xy1 : UInt64) (M : nf_M) (H : Heap) (locs : List Loc) (ls : Array Slot), B_M_write_189 post xy0 xy1 M → lv_has ls 7 [(0, .ref (a 19))] → nf_W D a s sz H locs M → W p l e rm_M_write s m args below meth c H locs 0 0 (nf_MQ below (nf_Q nf_jI D a post ex (nf_A a sz)) args s rm_M_write.cells rm_M_write.slots (nf_A a sz)) (F0 m 189 ls [.int xy0, .double xy1, .ref (a 19)]) := by
  have hx := K.1
  have hb := K.2.1
  intro xy0 xy1 M H locs ls h hl hw
  refine nf_callW (ex := (fun _ _ => False)) (As := [.ref (a 19), .double xy1, .int xy0]) (st0 := [.int xy0, .double xy1, .ref (a 19)]) (rest := []) K hw (nf_invV hx hb K.2.2.2.1 (nf_Kg K nw_1214) (nf_Kg K nw_1216) (nf_Kg K nx_M_writeReal) (nf_Kg K nw_1217) ⟨by decide, by decide⟩ (nf_rcv K hw 19 7 rfl rfl) rfl nl_M_writeReal rfl d_M_write_189) (c_M_writeReal l hfl xy1 xy0) nw_1217 nw_9 rfl ⟨by decide, by decide⟩ (Nat.le_of_ble_eq_true rfl) hl.1 ⟨Nat.le_of_ble_eq_true rfl, Nat.le_of_ble_eq_true rfl⟩ h (fun _ _ h => h.elim) (fun r1 M2 H locs h hw => ?_)
  refine W.eq (g2 := F0 m 192 ls []) rfl ?_
  refine lv_aload_n hx hb d_M_write_192 rfl (lv_at hl 0 rfl) ?_
  refine nf_get (v := .int (mg_I M2 19 3)) K hw 19 7 3 nw_934 rfl rfl ni_M (by decide) rfl rfl d_M_write_193 ?_
  exact nf_iret K hw d_M_write_196 rfl (Nat.le_of_ble_eq_true rfl) (Nat.le_of_ble_eq_true rfl) (r := mg_I M2 19 3) rfl h
theorem w_M_write_154 {post : Int32 → nf_M → Prop} (hfl : l.flags = flags0) (K : nf_K p s m args meth c "NumberForgeModel" nb_M_write 7 (some FieldType.int) D a sz) : ∀ (x1 : Int32) (x2 : UInt64) (xy0 : Int32) (M : nf_M) (H : Heap) (locs : List Loc) (ls : Array Slot), B_M_write_154 post x1 x2 xy0 M → lv_has ls 7 [(0, .ref (a 19)), (1, .int x1), (2, .double x2)] → nf_W D a s sz H locs M → W p l e rm_M_write s m args below meth c H locs 0 0 (nf_MQ below (nf_Q nf_jI D a post ex (nf_A a sz)) args s rm_M_write.cells rm_M_write.slots (nf_A a sz)) (F0 m 154 ls [.int xy0, .ref (a 19)]) := by
  have hx := K.1
  have hb := K.2.1
  intro x1 x2 xy0 M H locs ls h hl hw
  refine nf_put (M' := ms_I M 19 0 xy0) K hw 19 7 0 nw_931 rfl rfl rfl ni_M ny_M nq_M nn_M (by decide) rfl rfl rfl rfl (Nat.le_of_ble_eq_true rfl) d_M_write_154 (fun H locs hw => ?_)
  obtain ⟨M1, eM1⟩ : ∃ z, z = ms_I M 19 0 xy0 := ⟨_, rfl⟩
  rw [← eM1] at hw
  have h := h M1 eM1
  refine lv_aload_n hx hb d_M_write_157 rfl (lv_at hl 0 rfl) ?_
  refine nf_get (v := .int (mg_I M1 19 0)) K hw 19 7 0 nw_931 rfl rfl ni_M (by decide) rfl rfl d_M_write_158 ?_
  refine nf_if_le hx hb d_M_write_161 (tgt := 166) (by decide) (fun hc => ?_) (fun hc => ?_)
  · have h := h.1 hc
    refine lv_iconst (v := (0 : Int32)) hx hb d_M_write_164 (by decide) ?_
    exact nf_iret K hw d_M_write_165 rfl (Nat.le_of_ble_eq_true rfl) (Nat.le_of_ble_eq_true rfl) (r := (0 : Int32)) rfl h
  · have h := h.2 hc
    refine lv_aload_n hx hb d_M_write_166 rfl (lv_at hl 0 rfl) ?_
    refine lv_iconst (v := (0 : Int32)) hx hb d_M_write_167 (by decide) ?_
    refine nf_put (M' := ms_I M1 19 3 (0 : Int32)) K hw 19 7 3 nw_934 rfl rfl rfl ni_M ny_M nq_M nn_M (by decide) rfl rfl rfl rfl (Nat.le_of_ble_eq_true rfl) d_M_write_168 (fun H locs hw => ?_)
    obtain ⟨M2, eM2⟩ : ∃ z, z = ms_I M1 19 3 (0 : Int32) := ⟨_, rfl⟩
    rw [← eM2] at hw
    have h := h M2 eM2
    refine lv_aload_n hx hb d_M_write_171 rfl (lv_at hl 0 rfl) ?_
    refine lv_dload_n hx hb d_M_write_172 rfl (lv_at hl 2 rfl) ?_
    refine lv_aload_n hx hb d_M_write_173 rfl (lv_at hl 0 rfl) ?_
    refine nf_get (v := .ref (a 22)) K hw 19 7 5 nw_936 rfl rfl ni_M (by decide) rfl rfl d_M_write_174 ?_
    refine lv_iload_n hx hb d_M_write_177 rfl (lv_at hl 1 rfl) ?_
    obtain ⟨g3, h⟩ := h
    refine nf_iald K hw 22 5 rfl rfl g3 d_M_write_178 ?_
    refine lv_bipush (v := (8 : Int32)) hx hb d_M_write_179 (by decide) ?_
    refine nf_ic_ne hx hb d_M_write_181 (tgt := 188) (by decide) (fun hc => ?_) (fun hc => ?_)
    · have h := h.1 hc
      refine lv_iconst (v := (1 : Int32)) hx hb d_M_write_184 (by decide) ?_
      refine lv_goto hx hb d_M_write_185 (tgt := 189) (by decide) ?_
      exact w_M_write_189 hfl K (1 : Int32) x2 M2 _ _ _ h (lv_sub hl [0] rfl) hw
    · have h := h.2 hc
      refine lv_iconst (v := (0 : Int32)) hx hb d_M_write_188 (by decide) ?_
      exact w_M_write_189 hfl K (0 : Int32) x2 M2 _ _ _ h (lv_sub hl [0] rfl) hw
theorem w_M_write_149 {post : Int32 → nf_M → Prop} (hfl : l.flags = flags0) (K : nf_K p s m args meth c "NumberForgeModel" nb_M_write 7 (some FieldType.int) D a sz) : ∀ (x1 : Int32) (x2 : UInt64) (M : nf_M) (H : Heap) (locs : List Loc) (ls : Array Slot), B_M_write_149 post x1 x2 M → lv_has ls 7 [(0, .ref (a 19)), (1, .int x1), (2, .double x2)] → nf_W D a s sz H locs M → W p l e rm_M_write s m args below meth c H locs 0 0 (nf_MQ below (nf_Q nf_jI D a post ex (nf_A a sz)) args s rm_M_write.cells rm_M_write.slots (nf_A a sz)) (F0 m 149 ls [.ref (a 19)]) := by
  have hx := K.1
  have hb := K.2.1
  intro x1 x2 M H locs ls h hl hw
  refine lv_iconst (v := (3 : Int32)) hx hb d_M_write_149 (by decide) ?_
  refine lv_goto hx hb d_M_write_150 (tgt := 154) (by decide) ?_
  exact w_M_write_154 hfl K x1 x2 (3 : Int32) M _ _ _ h (lv_sub hl [0, 1, 2] rfl) hw
theorem w_M_write_153 {post : Int32 → nf_M → Prop} (hfl : l.flags = flags0) (K : nf_K p s m args meth c "NumberForgeModel" nb_M_write 7 (some FieldType.int) D a sz) : ∀ (x1 : Int32) (x2 : UInt64) (M : nf_M) (H : Heap) (locs : List Loc) (ls : Array Slot), B_M_write_153 post x1 x2 M → lv_has ls 7 [(0, .ref (a 19)), (1, .int x1), (2, .double x2)] → nf_W D a s sz H locs M → W p l e rm_M_write s m args below meth c H locs 0 0 (nf_MQ below (nf_Q nf_jI D a post ex (nf_A a sz)) args s rm_M_write.cells rm_M_write.slots (nf_A a sz)) (F0 m 153 ls [.ref (a 19)]) := by
  have hx := K.1
  have hb := K.2.1
  intro x1 x2 M H locs ls h hl hw
  refine lv_iconst (v := (0 : Int32)) hx hb d_M_write_153 (by decide) ?_
  exact w_M_write_154 hfl K x1 x2 (0 : Int32) M _ _ _ h (lv_sub hl [0, 1, 2] rfl) hw
theorem w_M_write_117 {post : Int32 → nf_M → Prop} (hfl : l.flags = flags0) (K : nf_K p s m args meth c "NumberForgeModel" nb_M_write 7 (some FieldType.int) D a sz) : ∀ (x1 : Int32) (x2 : UInt64) (x4 : UInt64) (xy0 : Int32) (M : nf_M) (H : Heap) (locs : List Loc) (ls : Array Slot), B_M_write_117 post x1 x2 x4 xy0 M → lv_has ls 7 [(0, .ref (a 19)), (1, .int x1), (2, .double x2), (4, .double x4)] → nf_W D a s sz H locs M → W p l e rm_M_write s m args below meth c H locs 0 0 (nf_MQ below (nf_Q nf_jI D a post ex (nf_A a sz)) args s rm_M_write.cells rm_M_write.slots (nf_A a sz)) (F0 m 117 ls [.int xy0]) := by
  have hx := K.1
  have hb := K.2.1
  intro x1 x2 x4 xy0 M H locs ls h hl hw
  refine lv_istore (lv' := [(6, .int xy0), (0, .ref (a 19)), (1, .int x1), (2, .double x2), (4, .double x4)]) hx hb d_M_write_117 hl (by decide) rfl (fun ls hl => ?_)
  refine lv_aload_n hx hb d_M_write_119 rfl (lv_at hl 1 rfl) ?_
  refine lv_iload hx hb d_M_write_120 (lv_at hl 0 rfl) ?_
  refine nf_if_ne hx hb d_M_write_122 (tgt := 153) (by decide) (fun hc => ?_) (fun hc => ?_)
  · have h := h.1 hc
    refine lv_dload hx hb d_M_write_125 (lv_at hl 4 rfl) ?_
    refine lv_dconst1 hx hb d_M_write_127 ?_
    refine lv_bipush (v := (8 : Int32)) hx hb d_M_write_128 (by decide) ?_
    refine nf_callW (ex := (fun _ _ => False)) (As := [.int (8 : Int32)]) (st0 := [.int (8 : Int32), .double (FP.dconst1), .double x4, .ref (a 19)]) (rest := [.double (FP.dconst1), .double x4, .ref (a 19)]) K hw (nf_invS hx hb K.2.2.2.1 (nf_Kg K nw_1063) (nf_Kg K nw_1064) (nf_Kg K nw_9) (nf_Kg K nw_1065) ⟨by decide, by decide⟩ rfl nl_M_ten rfl d_M_write_130) (c_M_ten l hfl (8 : Int32)) nw_1065 nw_9 rfl ⟨by decide, by decide⟩ (Nat.le_of_ble_eq_true rfl) hl.1 ⟨Nat.le_of_ble_eq_true rfl, Nat.le_of_ble_eq_true rfl⟩ h (fun _ _ h => h.elim) (fun r1 M2 H locs h hw => ?_)
    refine W.eq (g2 := F0 m 133 ls [.double r1, .double (FP.dconst1), .double x4, .ref (a 19)]) rfl ?_
    obtain ⟨g3, h⟩ := h
    refine lv_ddiv hx hb d_M_write_133 g3 ?_
    refine nf_dg_lt hx hb d_M_write_134 d_M_write_135 (tgt := 149) (by decide) (fun hc => ?_) (fun hc => ?_)
    · have h := h.1 hc
      exact w_M_write_149 hfl K x1 x2 M2 _ _ _ h (lv_sub hl [1, 2, 3] rfl) hw
    · have h := h.2 hc
      refine lv_dload hx hb d_M_write_138 (lv_at hl 4 rfl) ?_
      refine lv_bipush (v := (15 : Int32)) hx hb d_M_write_140 (by decide) ?_
      refine nf_callW (ex := (fun _ _ => False)) (As := [.int (15 : Int32)]) (st0 := [.int (15 : Int32), .double x4, .ref (a 19)]) (rest := [.double x4, .ref (a 19)]) K hw (nf_invS hx hb K.2.2.2.1 (nf_Kg K nw_1063) (nf_Kg K nw_1064) (nf_Kg K nw_9) (nf_Kg K nw_1065) ⟨by decide, by decide⟩ rfl nl_M_ten rfl d_M_write_142) (c_M_ten l hfl (15 : Int32)) nw_1065 nw_9 rfl ⟨by decide, by decide⟩ (Nat.le_of_ble_eq_true rfl) hl.1 ⟨Nat.le_of_ble_eq_true rfl, Nat.le_of_ble_eq_true rfl⟩ h (fun _ _ h => h.elim) (fun r4 M5 H locs h hw => ?_)
      refine W.eq (g2 := F0 m 145 ls [.double r4, .double x4, .ref (a 19)]) rfl ?_
      refine nf_dl_lt hx hb d_M_write_145 d_M_write_146 (tgt := 153) (by decide) (fun hc => ?_) (fun hc => ?_)
      · have h := h.1 hc
        exact w_M_write_149 hfl K x1 x2 M5 _ _ _ h (lv_sub hl [1, 2, 3] rfl) hw
      · have h := h.2 hc
        exact w_M_write_153 hfl K x1 x2 M5 _ _ _ h (lv_sub hl [1, 2, 3] rfl) hw
  · have h := h.2 hc
    exact w_M_write_153 hfl K x1 x2 M _ _ _ h (lv_sub hl [1, 2, 3] rfl) hw
theorem w_M_write_112 {post : Int32 → nf_M → Prop} (hfl : l.flags = flags0) (K : nf_K p s m args meth c "NumberForgeModel" nb_M_write 7 (some FieldType.int) D a sz) : ∀ (x1 : Int32) (x2 : UInt64) (x4 : UInt64) (M : nf_M) (H : Heap) (locs : List Loc) (ls : Array Slot), B_M_write_112 post x1 x2 x4 M → lv_has ls 7 [(0, .ref (a 19)), (1, .int x1), (2, .double x2), (4, .double x4)] → nf_W D a s sz H locs M → W p l e rm_M_write s m args below meth c H locs 0 0 (nf_MQ below (nf_Q nf_jI D a post ex (nf_A a sz)) args s rm_M_write.cells rm_M_write.slots (nf_A a sz)) (F0 m 112 ls []) := by
  have hx := K.1
  have hb := K.2.1
  intro x1 x2 x4 M H locs ls h hl hw
  refine lv_iconst (v := (1 : Int32)) hx hb d_M_write_112 (by decide) ?_
  refine lv_goto hx hb d_M_write_113 (tgt := 117) (by decide) ?_
  exact w_M_write_117 hfl K x1 x2 x4 (1 : Int32) M _ _ _ h (lv_sub hl [0, 1, 2, 3] rfl) hw
theorem w_M_write_95 {post : Int32 → nf_M → Prop} (hfl : l.flags = flags0) (K : nf_K p s m args meth c "NumberForgeModel" nb_M_write 7 (some FieldType.int) D a sz) : ∀ (x1 : Int32) (x2 : UInt64) (xy0 : UInt64) (M : nf_M) (H : Heap) (locs : List Loc) (ls : Array Slot), B_M_write_95 post x1 x2 xy0 M → lv_has ls 7 [(0, .ref (a 19)), (1, .int x1), (2, .double x2)] → nf_W D a s sz H locs M → W p l e rm_M_write s m args below meth c H locs 0 0 (nf_MQ below (nf_Q nf_jI D a post ex (nf_A a sz)) args s rm_M_write.cells rm_M_write.slots (nf_A a sz)) (F0 m 95 ls [.double xy0]) := by
  have hx := K.1
  have hb := K.2.1
  intro x1 x2 xy0 M H locs ls h hl hw
  refine lv_dstore (lv' := [(4, .double xy0), (0, .ref (a 19)), (1, .int x1), (2, .double x2)]) hx hb d_M_write_95 hl (by decide) rfl (fun ls hl => ?_)
  refine lv_dload hx hb d_M_write_97 (lv_at hl 0 rfl) ?_
  refine lv_dconst0 hx hb d_M_write_99 ?_
  refine nf_dl_eq hx hb d_M_write_100 d_M_write_101 (tgt := 112) (by decide) (fun hc => ?_) (fun hc => ?_)
  · have h := h.1 hc
    exact w_M_write_112 hfl K x1 x2 xy0 M _ _ _ h (lv_sub hl [1, 2, 3, 0] rfl) hw
  · have h := h.2 hc
    refine lv_dload hx hb d_M_write_104 (lv_at hl 0 rfl) ?_
    refine nf_callW (ex := (fun _ _ => False)) (As := [.double xy0]) (st0 := [.double xy0]) (rest := []) K hw (nf_invS hx hb K.2.2.2.1 (nf_Kg K nw_1097) (nf_Kg K nw_1098) (nf_Kg K nw_9) (nf_Kg K nw_1099) ⟨by decide, by decide⟩ rfl nl_M_isInfinite rfl d_M_write_106) (c_M_isInfinite l hfl xy0) nw_1099 nw_9 rfl ⟨by decide, by decide⟩ (Nat.le_of_ble_eq_true rfl) hl.1 ⟨Nat.le_of_ble_eq_true rfl, Nat.le_of_ble_eq_true rfl⟩ h (fun _ _ h => h.elim) (fun r1 M2 H locs h hw => ?_)
    refine W.eq (g2 := F0 m 109 ls [.int r1]) rfl ?_
    refine nf_if_eq hx hb d_M_write_109 (tgt := 116) (by decide) (fun hc => ?_) (fun hc => ?_)
    · have h := h.1 hc
      refine lv_iconst (v := (0 : Int32)) hx hb d_M_write_116 (by decide) ?_
      exact w_M_write_117 hfl K x1 x2 xy0 (0 : Int32) M2 _ _ _ h (lv_sub hl [1, 2, 3, 0] rfl) hw
    · have h := h.2 hc
      exact w_M_write_112 hfl K x1 x2 xy0 M2 _ _ _ h (lv_sub hl [1, 2, 3, 0] rfl) hw
theorem w_M_write_26 {post : Int32 → nf_M → Prop} (hfl : l.flags = flags0) (K : nf_K p s m args meth c "NumberForgeModel" nb_M_write 7 (some FieldType.int) D a sz) : ∀ (x1 : Int32) (xy0 : Int32) (M : nf_M) (H : Heap) (locs : List Loc) (ls : Array Slot), B_M_write_26 post x1 xy0 M → lv_has ls 7 [(0, .ref (a 19)), (1, .int x1)] → nf_W D a s sz H locs M → W p l e rm_M_write s m args below meth c H locs 0 0 (nf_MQ below (nf_Q nf_jI D a post ex (nf_A a sz)) args s rm_M_write.cells rm_M_write.slots (nf_A a sz)) (F0 m 26 ls [.int xy0, .ref (a 19)]) := by
  have hx := K.1
  have hb := K.2.1
  intro x1 xy0 M H locs ls h hl hw
  refine nf_put (M' := ms_I M 19 0 xy0) K hw 19 7 0 nw_931 rfl rfl rfl ni_M ny_M nq_M nn_M (by decide) rfl rfl rfl rfl (Nat.le_of_ble_eq_true rfl) d_M_write_26 (fun H locs hw => ?_)
  obtain ⟨M1, eM1⟩ : ∃ z, z = ms_I M 19 0 xy0 := ⟨_, rfl⟩
  rw [← eM1] at hw
  have h := h M1 eM1
  refine lv_aload_n hx hb d_M_write_29 rfl (lv_at hl 0 rfl) ?_
  refine nf_get (v := .int (mg_I M1 19 0)) K hw 19 7 0 nw_931 rfl rfl ni_M (by decide) rfl rfl d_M_write_30 ?_
  refine nf_if_le hx hb d_M_write_33 (tgt := 38) (by decide) (fun hc => ?_) (fun hc => ?_)
  · have h := h.1 hc
    refine lv_iconst (v := (0 : Int32)) hx hb d_M_write_36 (by decide) ?_
    exact nf_iret K hw d_M_write_37 rfl (Nat.le_of_ble_eq_true rfl) (Nat.le_of_ble_eq_true rfl) (r := (0 : Int32)) rfl h
  · have h := h.2 hc
    refine lv_aload_n hx hb d_M_write_38 rfl (lv_at hl 0 rfl) ?_
    refine nf_get (v := .ref (a 22)) K hw 19 7 5 nw_936 rfl rfl ni_M (by decide) rfl rfl d_M_write_39 ?_
    refine lv_iload_n hx hb d_M_write_42 rfl (lv_at hl 1 rfl) ?_
    obtain ⟨g2, h⟩ := h
    refine nf_iald K hw 22 5 rfl rfl g2 d_M_write_43 ?_
    refine nf_callW (ex := (fun _ _ => False)) (As := [.int (mg_I M1 22 x1.toNatClampNeg)]) (st0 := [.int (mg_I M1 22 x1.toNatClampNeg)]) (rest := []) K hw (nf_invS hx hb K.2.2.2.1 (nf_Kg K nw_1011) (nf_Kg K nw_1012) (nf_Kg K nw_9) (nf_Kg K nw_1013) ⟨by decide, by decide⟩ rfl nl_M_isExact rfl d_M_write_44) (c_M_isExact l hfl (mg_I M1 22 x1.toNatClampNeg)) nw_1013 nw_9 rfl ⟨by decide, by decide⟩ (Nat.le_of_ble_eq_true rfl) hl.1 ⟨Nat.le_of_ble_eq_true rfl, Nat.le_of_ble_eq_true rfl⟩ h (fun _ _ h => h.elim) (fun r3 M4 H locs h hw => ?_)
    refine W.eq (g2 := F0 m 47 ls [.int r3]) rfl ?_
    refine nf_if_eq hx hb d_M_write_47 (tgt := 76) (by decide) (fun hc => ?_) (fun hc => ?_)
    · have h := h.1 hc
      refine lv_aload_n hx hb d_M_write_76 rfl (lv_at hl 0 rfl) ?_
      refine nf_get (v := .ref (a 25)) K hw 19 7 8 nw_939 rfl rfl ni_M (by decide) rfl rfl d_M_write_77 ?_
      refine lv_iload_n hx hb d_M_write_80 rfl (lv_at hl 1 rfl) ?_
      obtain ⟨g5, h⟩ := h
      refine nf_dald K hw 25 8 rfl rfl g5 d_M_write_81 ?_
      refine lv_topd (fun t6 et6 => ?_)
      have h := h t6 et6
      refine lv_dstore_n (lv' := [(2, .double t6), (0, .ref (a 19)), (1, .int x1)]) hx hb d_M_write_82 rfl hl (by decide) rfl (fun ls hl => ?_)
      refine lv_dload_n hx hb d_M_write_83 rfl (lv_at hl 0 rfl) ?_
      refine lv_dconst0 hx hb d_M_write_84 ?_
      refine nf_dg_ge hx hb d_M_write_85 d_M_write_86 (tgt := 94) (by decide) (fun hc => ?_) (fun hc => ?_)
      · have h := h.1 hc
        refine lv_dload_n hx hb d_M_write_89 rfl (lv_at hl 0 rfl) ?_
        refine lv_dneg hx hb d_M_write_90 ?_
        refine lv_goto hx hb d_M_write_91 (tgt := 95) (by decide) ?_
        exact w_M_write_95 hfl K x1 t6 (FP.dneg t6) M4 _ _ _ h (lv_sub hl [1, 2, 0] rfl) hw
      · have h := h.2 hc
        refine lv_dload_n hx hb d_M_write_94 rfl (lv_at hl 0 rfl) ?_
        exact w_M_write_95 hfl K x1 t6 t6 M4 _ _ _ h (lv_sub hl [1, 2, 0] rfl) hw
    · have h := h.2 hc
      refine lv_aload_n hx hb d_M_write_50 rfl (lv_at hl 0 rfl) ?_
      refine lv_iconst (v := (0 : Int32)) hx hb d_M_write_51 (by decide) ?_
      refine nf_put (M' := ms_I M4 19 3 (0 : Int32)) K hw 19 7 3 nw_934 rfl rfl rfl ni_M ny_M nq_M nn_M (by decide) rfl rfl rfl rfl (Nat.le_of_ble_eq_true rfl) d_M_write_52 (fun H locs hw => ?_)
      obtain ⟨M7, eM7⟩ : ∃ z, z = ms_I M4 19 3 (0 : Int32) := ⟨_, rfl⟩
      rw [← eM7] at hw
      have h := h M7 eM7
      refine lv_aload_n hx hb d_M_write_55 rfl (lv_at hl 0 rfl) ?_
      refine lv_aload_n hx hb d_M_write_56 rfl (lv_at hl 0 rfl) ?_
      refine nf_get (v := .ref (a 23)) K hw 19 7 6 nw_937 rfl rfl ni_M (by decide) rfl rfl d_M_write_57 ?_
      refine lv_iload_n hx hb d_M_write_60 rfl (lv_at hl 1 rfl) ?_
      obtain ⟨g8, h⟩ := h
      refine nf_lald K hw 23 6 rfl rfl g8 d_M_write_61 ?_
      refine lv_aload_n hx hb d_M_write_62 rfl (lv_at hl 0 rfl) ?_
      refine nf_get (v := .ref (a 24)) K hw 19 7 7 nw_938 rfl rfl ni_M (by decide) rfl rfl d_M_write_63 ?_
      refine lv_iload_n hx hb d_M_write_66 rfl (lv_at hl 1 rfl) ?_
      obtain ⟨g9, h⟩ := h
      refine nf_iald K hw 24 7 rfl rfl g9 d_M_write_67 ?_
      refine nf_callW (ex := (fun _ _ => False)) (As := [.ref (a 19), .long (mg_L M7 23 x1.toNatClampNeg), .int (mg_I M7 24 x1.toNatClampNeg)]) (st0 := [.int (mg_I M7 24 x1.toNatClampNeg), .long (mg_L M7 23 x1.toNatClampNeg), .ref (a 19)]) (rest := []) K hw (nf_invV hx hb K.2.2.2.1 (nf_Kg K nw_1202) (nf_Kg K nw_1204) (nf_Kg K nx_M_addExact) (nf_Kg K nw_1205) ⟨by decide, by decide⟩ (nf_rcv K hw 19 7 rfl rfl) rfl nl_M_addExact rfl d_M_write_68) (c_M_addExact l hfl (mg_L M7 23 x1.toNatClampNeg) (mg_I M7 24 x1.toNatClampNeg)) nw_1205 nw_9 rfl ⟨by decide, by decide⟩ (Nat.le_of_ble_eq_true rfl) hl.1 ⟨Nat.le_of_ble_eq_true rfl, Nat.le_of_ble_eq_true rfl⟩ h (fun _ _ h => h.elim) (fun r10 M11 H locs h hw => ?_)
      refine W.eq (g2 := F0 m 71 ls []) rfl ?_
      refine lv_aload_n hx hb d_M_write_71 rfl (lv_at hl 0 rfl) ?_
      refine nf_get (v := .int (mg_I M11 19 3)) K hw 19 7 3 nw_934 rfl rfl ni_M (by decide) rfl rfl d_M_write_72 ?_
      exact nf_iret K hw d_M_write_75 rfl (Nat.le_of_ble_eq_true rfl) (Nat.le_of_ble_eq_true rfl) (r := mg_I M11 19 3) rfl h
theorem c_M_write (l : Launch) (hfl : l.flags = flags0) (x1 : Int32) : nf_C nf_jI l nm_M_write nb_M_write 7 (some FieldType.int) rm_M_write (fun a => [.ref (a 19), .int x1]) (fun M post ex => P_M_write x1 M post) := by
  refine nf_start (plainFor_of_name (by decide +kernel)) (fun a => Nat.le_of_ble_eq_true rfl) ?_
  intro D a sz M post ex p e s m below meth c ls h K hl hw
  have hx := K.1
  have hb := K.2.1
  have hl : lv_has ls 7 [(0, .ref (a 19)), (1, .int x1)] := hl
  refine lv_aload_n hx hb d_M_write_0 rfl (lv_at hl 0 rfl) ?_
  refine lv_iload_n hx hb d_M_write_1 rfl (lv_at hl 1 rfl) ?_
  refine nf_callW (ex := (fun _ _ => False)) (As := [.int x1]) (st0 := [.int x1, .ref (a 19)]) (rest := [.ref (a 19)]) K hw (nf_invS hx hb K.2.2.2.1 (nf_Kg K nw_1008) (nf_Kg K nw_1009) (nf_Kg K nw_9) (nf_Kg K nw_1010) ⟨by decide, by decide⟩ rfl nl_M_isRegister rfl d_M_write_2) (c_M_isRegister l hfl x1) nw_1010 nw_9 rfl ⟨by decide, by decide⟩ (Nat.le_of_ble_eq_true rfl) hl.1 ⟨Nat.le_of_ble_eq_true rfl, Nat.le_of_ble_eq_true rfl⟩ h (fun _ _ h => h.elim) (fun r1 M2 H locs h hw => ?_)
  refine W.eq (g2 := F0 m 5 ls [.int r1, .ref (a 19)]) rfl ?_
  refine nf_if_ne hx hb d_M_write_5 (tgt := 12) (by decide) (fun hc => ?_) (fun hc => ?_)
  · have h := h.1 hc
    refine lv_iconst (v := (1 : Int32)) hx hb d_M_write_8 (by decide) ?_
    refine lv_goto hx hb d_M_write_9 (tgt := 26) (by decide) ?_
    exact w_M_write_26 hfl K x1 (1 : Int32) M2 _ _ _ h (lv_sub hl [0, 1] rfl) hw
  · have h := h.2 hc
    refine lv_aload_n hx hb d_M_write_12 rfl (lv_at hl 0 rfl) ?_
    refine nf_get (v := .ref (a 22)) K hw 19 7 5 nw_936 rfl rfl ni_M (by decide) rfl rfl d_M_write_13 ?_
    refine lv_iload_n hx hb d_M_write_16 rfl (lv_at hl 1 rfl) ?_
    obtain ⟨g3, h⟩ := h
    refine nf_iald K hw 22 5 rfl rfl g3 d_M_write_17 ?_
    refine nf_if_ge hx hb d_M_write_18 (tgt := 25) (by decide) (fun hc => ?_) (fun hc => ?_)
    · have h := h.1 hc
      refine lv_iconst (v := (2 : Int32)) hx hb d_M_write_21 (by decide) ?_
      refine lv_goto hx hb d_M_write_22 (tgt := 26) (by decide) ?_
      exact w_M_write_26 hfl K x1 (2 : Int32) M2 _ _ _ h (lv_sub hl [0, 1] rfl) hw
    · have h := h.2 hc
      refine lv_iconst (v := (0 : Int32)) hx hb d_M_write_25 (by decide) ?_
      exact w_M_write_26 hfl K x1 (0 : Int32) M2 _ _ _ h (lv_sub hl [0, 1] rfl) hw
theorem d_M_look_0 : decode nb_M_look 0 = .ok (.iload_n 1, 1) := by decide +kernel
theorem d_M_look_1 : decode nb_M_look 1 = .ok (.ifCond .lt 20, 3) := by decide +kernel
theorem d_M_look_4 : decode nb_M_look 4 = .ok (.iload_n 1, 1) := by decide +kernel
theorem d_M_look_5 : decode nb_M_look 5 = .ok (.aload_n 0, 1) := by decide +kernel
theorem d_M_look_6 : decode nb_M_look 6 = .ok (.getfield 37, 3) := by decide +kernel
theorem d_M_look_9 : decode nb_M_look 9 = .ok (.if_icmp .ge 12, 3) := by decide +kernel
theorem d_M_look_12 : decode nb_M_look 12 = .ok (.aload_n 0, 1) := by decide +kernel
theorem d_M_look_13 : decode nb_M_look 13 = .ok (.getfield 7, 3) := by decide +kernel
theorem d_M_look_16 : decode nb_M_look 16 = .ok (.iload_n 1, 1) := by decide +kernel
theorem d_M_look_17 : decode nb_M_look 17 = .ok (.iaload, 1) := by decide +kernel
theorem d_M_look_18 : decode nb_M_look 18 = .ok (.goto 5, 3) := by decide +kernel
theorem d_M_look_21 : decode nb_M_look 21 = .ok (.bipush 32, 2) := by decide +kernel
theorem d_M_look_23 : decode nb_M_look 23 = .ok (.ireturn, 1) := by decide +kernel
abbrev rm_M_look : Room := ({ frames := 0, cells := 0, slots := 0, locals := 0 })
theorem w_M_look_23 {post : Int32 → nf_M → Prop} (hfl : l.flags = flags0) (K : nf_K p s m args meth c "NumberForgeModel" nb_M_look 2 (some FieldType.int) D a sz) : ∀ (xy0 : Int32) (M : nf_M) (H : Heap) (locs : List Loc) (ls : Array Slot), B_M_look_23 post xy0 M → lv_has ls 2 [] → nf_W D a s sz H locs M → W p l e rm_M_look s m args below meth c H locs 0 0 (nf_MQ below (nf_Q nf_jI D a post ex (nf_A a sz)) args s rm_M_look.cells rm_M_look.slots (nf_A a sz)) (F0 m 23 ls [.int xy0]) := by
  have hx := K.1
  have hb := K.2.1
  intro xy0 M H locs ls h hl hw
  exact nf_iret K hw d_M_look_23 rfl (Nat.le_of_ble_eq_true rfl) (Nat.le_of_ble_eq_true rfl) (r := xy0) rfl h
theorem w_M_look_21 {post : Int32 → nf_M → Prop} (hfl : l.flags = flags0) (K : nf_K p s m args meth c "NumberForgeModel" nb_M_look 2 (some FieldType.int) D a sz) : ∀ (M : nf_M) (H : Heap) (locs : List Loc) (ls : Array Slot), B_M_look_21 post  M → lv_has ls 2 [] → nf_W D a s sz H locs M → W p l e rm_M_look s m args below meth c H locs 0 0 (nf_MQ below (nf_Q nf_jI D a post ex (nf_A a sz)) args s rm_M_look.cells rm_M_look.slots (nf_A a sz)) (F0 m 21 ls []) := by
  have hx := K.1
  have hb := K.2.1
  intro  M H locs ls h hl hw
  refine lv_bipush (v := (32 : Int32)) hx hb d_M_look_21 (by decide) ?_
  exact w_M_look_23 hfl K (32 : Int32) M _ _ _ h (lv_sub hl [] rfl) hw
theorem c_M_look (l : Launch) (hfl : l.flags = flags0) (x1 : Int32) : nf_C nf_jI l nm_M_look nb_M_look 2 (some FieldType.int) rm_M_look (fun a => [.ref (a 19), .int x1]) (fun M post ex => P_M_look x1 M post) := by
  refine nf_start (plainFor_of_name (by decide +kernel)) (fun a => Nat.le_of_ble_eq_true rfl) ?_
  intro D a sz M post ex p e s m below meth c ls h K hl hw
  have hx := K.1
  have hb := K.2.1
  have hl : lv_has ls 2 [(0, .ref (a 19)), (1, .int x1)] := hl
  refine lv_iload_n hx hb d_M_look_0 rfl (lv_at hl 1 rfl) ?_
  refine nf_if_lt hx hb d_M_look_1 (tgt := 21) (by decide) (fun hc => ?_) (fun hc => ?_)
  · have h := h.1 hc
    exact w_M_look_21 hfl K  M _ _ _ h (lv_sub hl [] rfl) hw
  · have h := h.2 hc
    refine lv_iload_n hx hb d_M_look_4 rfl (lv_at hl 1 rfl) ?_
    refine lv_aload_n hx hb d_M_look_5 rfl (lv_at hl 0 rfl) ?_
    refine nf_get (v := .int (mg_I M 19 1)) K hw 19 7 1 nw_932 rfl rfl ni_M (by decide) rfl rfl d_M_look_6 ?_
    refine nf_ic_ge hx hb d_M_look_9 (tgt := 21) (by decide) (fun hc => ?_) (fun hc => ?_)
    · have h := h.1 hc
      refine lv_aload_n hx hb d_M_look_12 rfl (lv_at hl 0 rfl) ?_
      refine nf_get (v := .ref (a 20)) K hw 19 7 2 nw_933 rfl rfl ni_M (by decide) rfl rfl d_M_look_13 ?_
      refine lv_iload_n hx hb d_M_look_16 rfl (lv_at hl 1 rfl) ?_
      obtain ⟨g1, h⟩ := h
      refine nf_iald K hw 20 3 rfl rfl g1 d_M_look_17 ?_
      refine lv_goto hx hb d_M_look_18 (tgt := 23) (by decide) ?_
      exact w_M_look_23 hfl K (mg_I M 20 x1.toNatClampNeg) M _ _ _ h (lv_sub hl [] rfl) hw
    · have h := h.2 hc
      exact w_M_look_21 hfl K  M _ _ _ h (lv_sub hl [] rfl) hw
theorem d_M_isPart_0 : decode nb_M_isPart 0 = .ok (.iload_n 0, 1) := by decide +kernel
theorem d_M_isPart_1 : decode nb_M_isPart 1 = .ok (.bipush 35, 2) := by decide +kernel
theorem d_M_isPart_3 : decode nb_M_isPart 3 = .ok (.if_icmp .eq 15, 3) := by decide +kernel
theorem d_M_isPart_6 : decode nb_M_isPart 6 = .ok (.iload_n 0, 1) := by decide +kernel
theorem d_M_isPart_7 : decode nb_M_isPart 7 = .ok (.bipush 48, 2) := by decide +kernel
theorem d_M_isPart_9 : decode nb_M_isPart 9 = .ok (.if_icmp .eq 9, 3) := by decide +kernel
theorem d_M_isPart_12 : decode nb_M_isPart 12 = .ok (.iload_n 0, 1) := by decide +kernel
theorem d_M_isPart_13 : decode nb_M_isPart 13 = .ok (.bipush 44, 2) := by decide +kernel
theorem d_M_isPart_15 : decode nb_M_isPart 15 = .ok (.if_icmp .ne 7, 3) := by decide +kernel
theorem d_M_isPart_18 : decode nb_M_isPart 18 = .ok (.iconst 1, 1) := by decide +kernel
theorem d_M_isPart_19 : decode nb_M_isPart 19 = .ok (.goto 4, 3) := by decide +kernel
theorem d_M_isPart_22 : decode nb_M_isPart 22 = .ok (.iconst 0, 1) := by decide +kernel
theorem d_M_isPart_23 : decode nb_M_isPart 23 = .ok (.ireturn, 1) := by decide +kernel
abbrev rm_M_isPart : Room := ({ frames := 0, cells := 0, slots := 0, locals := 0 })
theorem w_M_isPart_23 {post : Int32 → nf_M → Prop} (hfl : l.flags = flags0) (K : nf_K p s m args meth c "NumberForgeModel" nb_M_isPart 1 (some FieldType.boolean) D a sz) : ∀ (xy0 : Int32) (M : nf_M) (H : Heap) (locs : List Loc) (ls : Array Slot), B_M_isPart_23 post xy0 M → lv_has ls 1 [] → nf_W D a s sz H locs M → W p l e rm_M_isPart s m args below meth c H locs 0 0 (nf_MQ below (nf_Q nf_jI D a post ex (nf_A a sz)) args s rm_M_isPart.cells rm_M_isPart.slots (nf_A a sz)) (F0 m 23 ls [.int xy0]) := by
  have hx := K.1
  have hb := K.2.1
  intro xy0 M H locs ls h hl hw
  obtain ⟨g1, h⟩ := h
  exact nf_iret K hw d_M_isPart_23 g1 (Nat.le_of_ble_eq_true rfl) (Nat.le_of_ble_eq_true rfl) (r := xy0) rfl h
theorem w_M_isPart_18 {post : Int32 → nf_M → Prop} (hfl : l.flags = flags0) (K : nf_K p s m args meth c "NumberForgeModel" nb_M_isPart 1 (some FieldType.boolean) D a sz) : ∀ (M : nf_M) (H : Heap) (locs : List Loc) (ls : Array Slot), B_M_isPart_18 post  M → lv_has ls 1 [] → nf_W D a s sz H locs M → W p l e rm_M_isPart s m args below meth c H locs 0 0 (nf_MQ below (nf_Q nf_jI D a post ex (nf_A a sz)) args s rm_M_isPart.cells rm_M_isPart.slots (nf_A a sz)) (F0 m 18 ls []) := by
  have hx := K.1
  have hb := K.2.1
  intro  M H locs ls h hl hw
  refine lv_iconst (v := (1 : Int32)) hx hb d_M_isPart_18 (by decide) ?_
  refine lv_goto hx hb d_M_isPart_19 (tgt := 23) (by decide) ?_
  exact w_M_isPart_23 hfl K (1 : Int32) M _ _ _ h (lv_sub hl [] rfl) hw
theorem c_M_isPart (l : Launch) (hfl : l.flags = flags0) (x0 : Int32) : nf_C nf_jI l nm_M_isPart nb_M_isPart 1 (some FieldType.boolean) rm_M_isPart (fun a => [.int x0]) (fun M post ex => P_M_isPart x0 M post) := by
  refine nf_start (plainFor_of_name (by decide +kernel)) (fun a => Nat.le_of_ble_eq_true rfl) ?_
  intro D a sz M post ex p e s m below meth c ls h K hl hw
  have hx := K.1
  have hb := K.2.1
  have hl : lv_has ls 1 [(0, .int x0)] := hl
  refine lv_iload_n hx hb d_M_isPart_0 rfl (lv_at hl 0 rfl) ?_
  refine lv_bipush (v := (35 : Int32)) hx hb d_M_isPart_1 (by decide) ?_
  refine nf_ic_eq hx hb d_M_isPart_3 (tgt := 18) (by decide) (fun hc => ?_) (fun hc => ?_)
  · have h := h.1 hc
    exact w_M_isPart_18 hfl K  M _ _ _ h (lv_sub hl [] rfl) hw
  · have h := h.2 hc
    refine lv_iload_n hx hb d_M_isPart_6 rfl (lv_at hl 0 rfl) ?_
    refine lv_bipush (v := (48 : Int32)) hx hb d_M_isPart_7 (by decide) ?_
    refine nf_ic_eq hx hb d_M_isPart_9 (tgt := 18) (by decide) (fun hc => ?_) (fun hc => ?_)
    · have h := h.1 hc
      exact w_M_isPart_18 hfl K  M _ _ _ h (lv_sub hl [] rfl) hw
    · have h := h.2 hc
      refine lv_iload_n hx hb d_M_isPart_12 rfl (lv_at hl 0 rfl) ?_
      refine lv_bipush (v := (44 : Int32)) hx hb d_M_isPart_13 (by decide) ?_
      refine nf_ic_ne hx hb d_M_isPart_15 (tgt := 22) (by decide) (fun hc => ?_) (fun hc => ?_)
      · have h := h.1 hc
        exact w_M_isPart_18 hfl K  M _ _ _ h (lv_sub hl [] rfl) hw
      · have h := h.2 hc
        refine lv_iconst (v := (0 : Int32)) hx hb d_M_isPart_22 (by decide) ?_
        exact w_M_isPart_23 hfl K (0 : Int32) M _ _ _ h (lv_sub hl [] rfl) hw
theorem d_M_run_0 : decode nb_M_run 0 = .ok (.iload_n 1, 1) := by decide +kernel
theorem d_M_run_1 : decode nb_M_run 1 = .ok (.istore_n 3, 1) := by decide +kernel
theorem d_M_run_2 : decode nb_M_run 2 = .ok (.aload_n 0, 1) := by decide +kernel
theorem d_M_run_3 : decode nb_M_run 3 = .ok (.iload_n 3, 1) := by decide +kernel
theorem d_M_run_4 : decode nb_M_run 4 = .ok (.invokevirtual 275, 3) := by decide +kernel
theorem d_M_run_7 : decode nb_M_run 7 = .ok (.istore 4, 2) := by decide +kernel
theorem d_M_run_9 : decode nb_M_run 9 = .ok (.iload_n 3, 1) := by decide +kernel
theorem d_M_run_10 : decode nb_M_run 10 = .ok (.aload_n 0, 1) := by decide +kernel
theorem d_M_run_11 : decode nb_M_run 11 = .ok (.getfield 37, 3) := by decide +kernel
theorem d_M_run_14 : decode nb_M_run 14 = .ok (.if_icmp .ge 67, 3) := by decide +kernel
theorem d_M_run_17 : decode nb_M_run 17 = .ok (.iload_n 2, 1) := by decide +kernel
theorem d_M_run_18 : decode nb_M_run 18 = .ok (.ifCond .ne 28, 3) := by decide +kernel
theorem d_M_run_21 : decode nb_M_run 21 = .ok (.iload 4, 2) := by decide +kernel
theorem d_M_run_23 : decode nb_M_run 23 = .ok (.invokestatic 279, 3) := by decide +kernel
theorem d_M_run_26 : decode nb_M_run 26 = .ok (.ifCond .ne 55, 3) := by decide +kernel
theorem d_M_run_29 : decode nb_M_run 29 = .ok (.iload 4, 2) := by decide +kernel
theorem d_M_run_31 : decode nb_M_run 31 = .ok (.bipush 46, 2) := by decide +kernel
theorem d_M_run_33 : decode nb_M_run 33 = .ok (.if_icmp .eq 48, 3) := by decide +kernel
theorem d_M_run_36 : decode nb_M_run 36 = .ok (.iload 4, 2) := by decide +kernel
theorem d_M_run_38 : decode nb_M_run 38 = .ok (.bipush 37, 2) := by decide +kernel
theorem d_M_run_40 : decode nb_M_run 40 = .ok (.if_icmp .eq 41, 3) := by decide +kernel
theorem d_M_run_43 : decode nb_M_run 43 = .ok (.goto 25, 3) := by decide +kernel
theorem d_M_run_46 : decode nb_M_run 46 = .ok (.iload_n 2, 1) := by decide +kernel
theorem d_M_run_47 : decode nb_M_run 47 = .ok (.iconst 1, 1) := by decide +kernel
theorem d_M_run_48 : decode nb_M_run 48 = .ok (.if_icmp .ne 14, 3) := by decide +kernel
theorem d_M_run_51 : decode nb_M_run 51 = .ok (.iload 4, 2) := by decide +kernel
theorem d_M_run_53 : decode nb_M_run 53 = .ok (.invokestatic 279, 3) := by decide +kernel
theorem d_M_run_56 : decode nb_M_run 56 = .ok (.ifCond .eq 25, 3) := by decide +kernel
theorem d_M_run_59 : decode nb_M_run 59 = .ok (.goto 9, 3) := by decide +kernel
theorem d_M_run_62 : decode nb_M_run 62 = .ok (.iload 4, 2) := by decide +kernel
theorem d_M_run_64 : decode nb_M_run 64 = .ok (.iload_n 2, 1) := by decide +kernel
theorem d_M_run_65 : decode nb_M_run 65 = .ok (.if_icmp .ne 16, 3) := by decide +kernel
theorem d_M_run_68 : decode nb_M_run 68 = .ok (.iinc 3 1, 3) := by decide +kernel
theorem d_M_run_71 : decode nb_M_run 71 = .ok (.aload_n 0, 1) := by decide +kernel
theorem d_M_run_72 : decode nb_M_run 72 = .ok (.iload_n 3, 1) := by decide +kernel
theorem d_M_run_73 : decode nb_M_run 73 = .ok (.invokevirtual 275, 3) := by decide +kernel
theorem d_M_run_76 : decode nb_M_run 76 = .ok (.istore 4, 2) := by decide +kernel
theorem d_M_run_78 : decode nb_M_run 78 = .ok (.goto (-69), 3) := by decide +kernel
theorem d_M_run_81 : decode nb_M_run 81 = .ok (.iload_n 3, 1) := by decide +kernel
theorem d_M_run_82 : decode nb_M_run 82 = .ok (.ireturn, 1) := by decide +kernel
abbrev rm_M_run : Room := ({ frames := 1, cells := 0, slots := 0, locals := 21 })
theorem w_M_run_68 {post : Int32 → nf_M → Prop} (hfl : l.flags = flags0) (K : nf_K p s m args meth c "NumberForgeModel" nb_M_run 5 (some FieldType.int) D a sz) (k9 : Int32 → Int32 → Int32 → nf_M → Prop) (hk9 : ∀ (x2 : Int32) (x3 : Int32) (x4 : Int32) (M : nf_M) (H : Heap) (locs : List Loc) (ls : Array Slot), k9 x2 x3 x4 M → lv_has ls 5 [(0, .ref (a 19)), (2, .int x2), (3, .int x3), (4, .int x4)] → nf_W D a s sz H locs M → W p l e rm_M_run s m args below meth c H locs 0 0 (nf_MQ below (nf_Q nf_jI D a post ex (nf_A a sz)) args s rm_M_run.cells rm_M_run.slots (nf_A a sz)) (F0 m 9 ls [])) : ∀ (x2 : Int32) (x3 : Int32) (M : nf_M) (H : Heap) (locs : List Loc) (ls : Array Slot), B_M_run_68 k9 post x2 x3 M → lv_has ls 5 [(0, .ref (a 19)), (2, .int x2), (3, .int x3)] → nf_W D a s sz H locs M → W p l e rm_M_run s m args below meth c H locs 0 0 (nf_MQ below (nf_Q nf_jI D a post ex (nf_A a sz)) args s rm_M_run.cells rm_M_run.slots (nf_A a sz)) (F0 m 68 ls []) := by
  have hx := K.1
  have hb := K.2.1
  intro x2 x3 M H locs ls h hl hw
  refine lv_iinc (k := 2) (v := x3 + (1 : Int32)) (lv' := [(3, .int (x3 + (1 : Int32))), (0, .ref (a 19)), (2, .int x2)]) hx hb d_M_run_68 hl rfl (nf_inc (by decide)) (by decide) rfl (fun ls hl => ?_)
  refine lv_aload_n hx hb d_M_run_71 rfl (lv_at hl 1 rfl) ?_
  refine lv_iload_n hx hb d_M_run_72 rfl (lv_at hl 0 rfl) ?_
  refine nf_callW (ex := (fun _ _ => False)) (As := [.ref (a 19), .int (x3 + (1 : Int32))]) (st0 := [.int (x3 + (1 : Int32)), .ref (a 19)]) (rest := []) K hw (nf_invV hx hb K.2.2.2.1 (nf_Kg K nw_1234) (nf_Kg K nw_1236) (nf_Kg K nx_M_look) (nf_Kg K nw_1237) ⟨by decide, by decide⟩ (nf_rcv K hw 19 7 rfl rfl) rfl nl_M_look rfl d_M_run_73) (c_M_look l hfl (x3 + (1 : Int32))) nw_1237 nw_9 rfl ⟨by decide, by decide⟩ (Nat.le_of_ble_eq_true rfl) hl.1 ⟨Nat.le_of_ble_eq_true rfl, Nat.le_of_ble_eq_true rfl⟩ h (fun _ _ h => h.elim) (fun r1 M2 H locs h hw => ?_)
  refine W.eq (g2 := F0 m 76 ls [.int r1]) rfl ?_
  refine lv_istore (lv' := [(4, .int r1), (3, .int (x3 + (1 : Int32))), (0, .ref (a 19)), (2, .int x2)]) hx hb d_M_run_76 hl (by decide) rfl (fun ls hl => ?_)
  refine lv_goto hx hb d_M_run_78 (tgt := 9) (by decide) ?_
  exact hk9 x2 (x3 + (1 : Int32)) r1 M2 _ _ _ h (lv_sub hl [2, 3, 1, 0] rfl) hw
theorem w_M_run_81 {post : Int32 → nf_M → Prop} (hfl : l.flags = flags0) (K : nf_K p s m args meth c "NumberForgeModel" nb_M_run 5 (some FieldType.int) D a sz) : ∀ (x3 : Int32) (M : nf_M) (H : Heap) (locs : List Loc) (ls : Array Slot), B_M_run_81 post x3 M → lv_has ls 5 [(3, .int x3)] → nf_W D a s sz H locs M → W p l e rm_M_run s m args below meth c H locs 0 0 (nf_MQ below (nf_Q nf_jI D a post ex (nf_A a sz)) args s rm_M_run.cells rm_M_run.slots (nf_A a sz)) (F0 m 81 ls []) := by
  have hx := K.1
  have hb := K.2.1
  intro x3 M H locs ls h hl hw
  refine lv_iload_n hx hb d_M_run_81 rfl (lv_at hl 0 rfl) ?_
  exact nf_iret K hw d_M_run_82 rfl (Nat.le_of_ble_eq_true rfl) (Nat.le_of_ble_eq_true rfl) (r := x3) rfl h
theorem w_M_run_9 {post : Int32 → nf_M → Prop} (hfl : l.flags = flags0) (K : nf_K p s m args meth c "NumberForgeModel" nb_M_run 5 (some FieldType.int) D a sz) : ∀ (n : Nat) (x2 : Int32) (x3 : Int32) (x4 : Int32) (M : nf_M) (H : Heap) (locs : List Loc) (ls : Array Slot), B_M_run_9 post n x2 x3 x4 M → lv_has ls 5 [(0, .ref (a 19)), (2, .int x2), (3, .int x3), (4, .int x4)] → nf_W D a s sz H locs M → W p l e rm_M_run s m args below meth c H locs 0 0 (nf_MQ below (nf_Q nf_jI D a post ex (nf_A a sz)) args s rm_M_run.cells rm_M_run.slots (nf_A a sz)) (F0 m 9 ls []) := by
  have hx := K.1
  have hb := K.2.1
  intro n
  induction n with
  | zero => intro x2 x3 x4 M H locs ls h hl hw; exact h.elim
  | succ n ih =>
    intro x2 x3 x4 M H locs ls h hl hw
    refine lv_iload_n hx hb d_M_run_9 rfl (lv_at hl 2 rfl) ?_
    refine lv_aload_n hx hb d_M_run_10 rfl (lv_at hl 0 rfl) ?_
    refine nf_get (v := .int (mg_I M 19 1)) K hw 19 7 1 nw_932 rfl rfl ni_M (by decide) rfl rfl d_M_run_11 ?_
    refine nf_ic_ge hx hb d_M_run_14 (tgt := 81) (by decide) (fun hc => ?_) (fun hc => ?_)
    · have h := h.1 hc
      refine lv_iload_n hx hb d_M_run_17 rfl (lv_at hl 1 rfl) ?_
      refine nf_if_ne hx hb d_M_run_18 (tgt := 46) (by decide) (fun hc => ?_) (fun hc => ?_)
      · have h := h.1 hc
        refine lv_iload hx hb d_M_run_21 (lv_at hl 3 rfl) ?_
        refine nf_callW (ex := (fun _ _ => False)) (As := [.int x4]) (st0 := [.int x4]) (rest := []) K hw (nf_invS hx hb K.2.2.2.1 (nf_Kg K nw_1238) (nf_Kg K nw_1239) (nf_Kg K nw_9) (nf_Kg K nw_1240) ⟨by decide, by decide⟩ rfl nl_M_isPart rfl d_M_run_23) (c_M_isPart l hfl x4) nw_1240 nw_9 rfl ⟨by decide, by decide⟩ (Nat.le_of_ble_eq_true rfl) hl.1 ⟨Nat.le_of_ble_eq_true rfl, Nat.le_of_ble_eq_true rfl⟩ h (fun _ _ h => h.elim) (fun r1 M2 H locs h hw => ?_)
        refine W.eq (g2 := F0 m 26 ls [.int r1]) rfl ?_
        refine nf_if_ne hx hb d_M_run_26 (tgt := 81) (by decide) (fun hc => ?_) (fun hc => ?_)
        · have h := h.1 hc
          refine lv_iload hx hb d_M_run_29 (lv_at hl 3 rfl) ?_
          refine lv_bipush (v := (46 : Int32)) hx hb d_M_run_31 (by decide) ?_
          refine nf_ic_eq hx hb d_M_run_33 (tgt := 81) (by decide) (fun hc => ?_) (fun hc => ?_)
          · have h := h.1 hc
            exact w_M_run_81 hfl K x3 M2 _ _ _ h (lv_sub hl [2] rfl) hw
          · have h := h.2 hc
            refine lv_iload hx hb d_M_run_36 (lv_at hl 3 rfl) ?_
            refine lv_bipush (v := (37 : Int32)) hx hb d_M_run_38 (by decide) ?_
            refine nf_ic_eq hx hb d_M_run_40 (tgt := 81) (by decide) (fun hc => ?_) (fun hc => ?_)
            · have h := h.1 hc
              exact w_M_run_81 hfl K x3 M2 _ _ _ h (lv_sub hl [2] rfl) hw
            · have h := h.2 hc
              refine lv_goto hx hb d_M_run_43 (tgt := 68) (by decide) ?_
              exact w_M_run_68 hfl K (fun x2 x3 x4 z => B_M_run_9 post n x2 x3 x4 z) (fun x2 x3 x4 z H locs ls hh hll hww => ih x2 x3 x4 z H locs ls hh hll hww) x2 x3 M2 _ _ _ h (lv_sub hl [0, 1, 2] rfl) hw
        · have h := h.2 hc
          exact w_M_run_81 hfl K x3 M2 _ _ _ h (lv_sub hl [2] rfl) hw
      · have h := h.2 hc
        refine lv_iload_n hx hb d_M_run_46 rfl (lv_at hl 1 rfl) ?_
        refine lv_iconst (v := (1 : Int32)) hx hb d_M_run_47 (by decide) ?_
        refine nf_ic_ne hx hb d_M_run_48 (tgt := 62) (by decide) (fun hc => ?_) (fun hc => ?_)
        · have h := h.1 hc
          refine lv_iload hx hb d_M_run_51 (lv_at hl 3 rfl) ?_
          refine nf_callW (ex := (fun _ _ => False)) (As := [.int x4]) (st0 := [.int x4]) (rest := []) K hw (nf_invS hx hb K.2.2.2.1 (nf_Kg K nw_1238) (nf_Kg K nw_1239) (nf_Kg K nw_9) (nf_Kg K nw_1240) ⟨by decide, by decide⟩ rfl nl_M_isPart rfl d_M_run_53) (c_M_isPart l hfl x4) nw_1240 nw_9 rfl ⟨by decide, by decide⟩ (Nat.le_of_ble_eq_true rfl) hl.1 ⟨Nat.le_of_ble_eq_true rfl, Nat.le_of_ble_eq_true rfl⟩ h (fun _ _ h => h.elim) (fun r3 M4 H locs h hw => ?_)
          refine W.eq (g2 := F0 m 56 ls [.int r3]) rfl ?_
          refine nf_if_eq hx hb d_M_run_56 (tgt := 81) (by decide) (fun hc => ?_) (fun hc => ?_)
          · have h := h.1 hc
            exact w_M_run_81 hfl K x3 M4 _ _ _ h (lv_sub hl [2] rfl) hw
          · have h := h.2 hc
            refine lv_goto hx hb d_M_run_59 (tgt := 68) (by decide) ?_
            exact w_M_run_68 hfl K (fun x2 x3 x4 z => B_M_run_9 post n x2 x3 x4 z) (fun x2 x3 x4 z H locs ls hh hll hww => ih x2 x3 x4 z H locs ls hh hll hww) x2 x3 M4 _ _ _ h (lv_sub hl [0, 1, 2] rfl) hw
        · have h := h.2 hc
          refine lv_iload hx hb d_M_run_62 (lv_at hl 3 rfl) ?_
          refine lv_iload_n hx hb d_M_run_64 rfl (lv_at hl 1 rfl) ?_
          refine nf_ic_ne hx hb d_M_run_65 (tgt := 81) (by decide) (fun hc => ?_) (fun hc => ?_)
          · have h := h.1 hc
            exact w_M_run_68 hfl K (fun x2 x3 x4 z => B_M_run_9 post n x2 x3 x4 z) (fun x2 x3 x4 z H locs ls hh hll hww => ih x2 x3 x4 z H locs ls hh hll hww) x2 x3 M _ _ _ h (lv_sub hl [0, 1, 2] rfl) hw
          · have h := h.2 hc
            exact w_M_run_81 hfl K x3 M _ _ _ h (lv_sub hl [2] rfl) hw
    · have h := h.2 hc
      exact w_M_run_81 hfl K x3 M _ _ _ h (lv_sub hl [2] rfl) hw
theorem c_M_run (l : Launch) (hfl : l.flags = flags0) (x1 : Int32) (x2 : Int32) : nf_C nf_jI l nm_M_run nb_M_run 5 (some FieldType.int) rm_M_run (fun a => [.ref (a 19), .int x1, .int x2]) (fun M post ex => P_M_run x1 x2 M post) := by
  refine nf_start (plainFor_of_name (by decide +kernel)) (fun a => Nat.le_of_ble_eq_true rfl) ?_
  intro D a sz M post ex p e s m below meth c ls h K hl hw
  have hx := K.1
  have hb := K.2.1
  have hl : lv_has ls 5 [(0, .ref (a 19)), (1, .int x1), (2, .int x2)] := hl
  refine lv_iload_n hx hb d_M_run_0 rfl (lv_at hl 1 rfl) ?_
  refine lv_istore_n (lv' := [(3, .int x1), (0, .ref (a 19)), (1, .int x1), (2, .int x2)]) hx hb d_M_run_1 rfl hl (by decide) rfl (fun ls hl => ?_)
  refine lv_aload_n hx hb d_M_run_2 rfl (lv_at hl 1 rfl) ?_
  refine lv_iload_n hx hb d_M_run_3 rfl (lv_at hl 0 rfl) ?_
  refine nf_callW (ex := (fun _ _ => False)) (As := [.ref (a 19), .int x1]) (st0 := [.int x1, .ref (a 19)]) (rest := []) K hw (nf_invV hx hb K.2.2.2.1 (nf_Kg K nw_1234) (nf_Kg K nw_1236) (nf_Kg K nx_M_look) (nf_Kg K nw_1237) ⟨by decide, by decide⟩ (nf_rcv K hw 19 7 rfl rfl) rfl nl_M_look rfl d_M_run_4) (c_M_look l hfl x1) nw_1237 nw_9 rfl ⟨by decide, by decide⟩ (Nat.le_of_ble_eq_true rfl) hl.1 ⟨Nat.le_of_ble_eq_true rfl, Nat.le_of_ble_eq_true rfl⟩ h (fun _ _ h => h.elim) (fun r1 M2 H locs h hw => ?_)
  refine W.eq (g2 := F0 m 7 ls [.int r1]) rfl ?_
  refine lv_istore (lv' := [(4, .int r1), (3, .int x1), (0, .ref (a 19)), (1, .int x1), (2, .int x2)]) hx hb d_M_run_7 hl (by decide) rfl (fun ls hl => ?_)
  obtain ⟨n, h⟩ := h
  exact w_M_run_9 hfl K n x2 x1 r1 M2 _ _ _ h (lv_sub hl [2, 4, 1, 0] rfl) hw
theorem d_M_isWhole_0 : decode nb_M_isWhole 0 = .ok (.aload_n 0, 1) := by decide +kernel
theorem d_M_isWhole_1 : decode nb_M_isWhole 1 = .ok (.iconst 0, 1) := by decide +kernel
theorem d_M_isWhole_2 : decode nb_M_isWhole 2 = .ok (.putfield 282, 3) := by decide +kernel
theorem d_M_isWhole_5 : decode nb_M_isWhole 5 = .ok (.aload_n 0, 1) := by decide +kernel
theorem d_M_isWhole_6 : decode nb_M_isWhole 6 = .ok (.iconst 0, 1) := by decide +kernel
theorem d_M_isWhole_7 : decode nb_M_isWhole 7 = .ok (.putfield 285, 3) := by decide +kernel
theorem d_M_isWhole_10 : decode nb_M_isWhole 10 = .ok (.iconst 0, 1) := by decide +kernel
theorem d_M_isWhole_11 : decode nb_M_isWhole 11 = .ok (.istore_n 3, 1) := by decide +kernel
theorem d_M_isWhole_12 : decode nb_M_isWhole 12 = .ok (.iconst 0, 1) := by decide +kernel
theorem d_M_isWhole_13 : decode nb_M_isWhole 13 = .ok (.istore 4, 2) := by decide +kernel
theorem d_M_isWhole_15 : decode nb_M_isWhole 15 = .ok (.iconst 0, 1) := by decide +kernel
theorem d_M_isWhole_16 : decode nb_M_isWhole 16 = .ok (.istore 5, 2) := by decide +kernel
theorem d_M_isWhole_18 : decode nb_M_isWhole 18 = .ok (.iload_n 1, 1) := by decide +kernel
theorem d_M_isWhole_19 : decode nb_M_isWhole 19 = .ok (.iload_n 2, 1) := by decide +kernel
theorem d_M_isWhole_20 : decode nb_M_isWhole 20 = .ok (.if_icmp .ge 29, 3) := by decide +kernel
theorem d_M_isWhole_23 : decode nb_M_isWhole 23 = .ok (.aload_n 0, 1) := by decide +kernel
theorem d_M_isWhole_24 : decode nb_M_isWhole 24 = .ok (.iload_n 1, 1) := by decide +kernel
theorem d_M_isWhole_25 : decode nb_M_isWhole 25 = .ok (.invokevirtual 275, 3) := by decide +kernel
theorem d_M_isWhole_28 : decode nb_M_isWhole 28 = .ok (.bipush 44, 2) := by decide +kernel
theorem d_M_isWhole_30 : decode nb_M_isWhole 30 = .ok (.if_icmp .eq 19, 3) := by decide +kernel
theorem d_M_isWhole_33 : decode nb_M_isWhole 33 = .ok (.aload_n 0, 1) := by decide +kernel
theorem d_M_isWhole_34 : decode nb_M_isWhole 34 = .ok (.iload_n 2, 1) := by decide +kernel
theorem d_M_isWhole_35 : decode nb_M_isWhole 35 = .ok (.iconst 1, 1) := by decide +kernel
theorem d_M_isWhole_36 : decode nb_M_isWhole 36 = .ok (.isub, 1) := by decide +kernel
theorem d_M_isWhole_37 : decode nb_M_isWhole 37 = .ok (.invokevirtual 275, 3) := by decide +kernel
theorem d_M_isWhole_40 : decode nb_M_isWhole 40 = .ok (.bipush 44, 2) := by decide +kernel
theorem d_M_isWhole_42 : decode nb_M_isWhole 42 = .ok (.if_icmp .eq 7, 3) := by decide +kernel
theorem d_M_isWhole_45 : decode nb_M_isWhole 45 = .ok (.iconst 1, 1) := by decide +kernel
theorem d_M_isWhole_46 : decode nb_M_isWhole 46 = .ok (.goto 4, 3) := by decide +kernel
theorem d_M_isWhole_49 : decode nb_M_isWhole 49 = .ok (.iconst 0, 1) := by decide +kernel
theorem d_M_isWhole_50 : decode nb_M_isWhole 50 = .ok (.istore 6, 2) := by decide +kernel
theorem d_M_isWhole_52 : decode nb_M_isWhole 52 = .ok (.iload_n 1, 1) := by decide +kernel
theorem d_M_isWhole_53 : decode nb_M_isWhole 53 = .ok (.istore 7, 2) := by decide +kernel
theorem d_M_isWhole_55 : decode nb_M_isWhole 55 = .ok (.iload 7, 2) := by decide +kernel
theorem d_M_isWhole_57 : decode nb_M_isWhole 57 = .ok (.iload_n 2, 1) := by decide +kernel
theorem d_M_isWhole_58 : decode nb_M_isWhole 58 = .ok (.if_icmp .ge 135, 3) := by decide +kernel
theorem d_M_isWhole_61 : decode nb_M_isWhole 61 = .ok (.aload_n 0, 1) := by decide +kernel
theorem d_M_isWhole_62 : decode nb_M_isWhole 62 = .ok (.iload 7, 2) := by decide +kernel
theorem d_M_isWhole_64 : decode nb_M_isWhole 64 = .ok (.invokevirtual 275, 3) := by decide +kernel
theorem d_M_isWhole_67 : decode nb_M_isWhole 67 = .ok (.istore 8, 2) := by decide +kernel
theorem d_M_isWhole_69 : decode nb_M_isWhole 69 = .ok (.iload 6, 2) := by decide +kernel
theorem d_M_isWhole_71 : decode nb_M_isWhole 71 = .ok (.ifCond .eq 41, 3) := by decide +kernel
theorem d_M_isWhole_74 : decode nb_M_isWhole 74 = .ok (.iload 8, 2) := by decide +kernel
theorem d_M_isWhole_76 : decode nb_M_isWhole 76 = .ok (.bipush 35, 2) := by decide +kernel
theorem d_M_isWhole_78 : decode nb_M_isWhole 78 = .ok (.if_icmp .ne 10, 3) := by decide +kernel
theorem d_M_isWhole_81 : decode nb_M_isWhole 81 = .ok (.aload_n 0, 1) := by decide +kernel
theorem d_M_isWhole_82 : decode nb_M_isWhole 82 = .ok (.getfield 282, 3) := by decide +kernel
theorem d_M_isWhole_85 : decode nb_M_isWhole 85 = .ok (.ifCond .gt 27, 3) := by decide +kernel
theorem d_M_isWhole_88 : decode nb_M_isWhole 88 = .ok (.iload 8, 2) := by decide +kernel
theorem d_M_isWhole_90 : decode nb_M_isWhole 90 = .ok (.bipush 44, 2) := by decide +kernel
theorem d_M_isWhole_92 : decode nb_M_isWhole 92 = .ok (.if_icmp .ne 16, 3) := by decide +kernel
theorem d_M_isWhole_95 : decode nb_M_isWhole 95 = .ok (.aload_n 0, 1) := by decide +kernel
theorem d_M_isWhole_96 : decode nb_M_isWhole 96 = .ok (.iload 7, 2) := by decide +kernel
theorem d_M_isWhole_98 : decode nb_M_isWhole 98 = .ok (.iconst 1, 1) := by decide +kernel
theorem d_M_isWhole_99 : decode nb_M_isWhole 99 = .ok (.iadd, 1) := by decide +kernel
theorem d_M_isWhole_100 : decode nb_M_isWhole 100 = .ok (.invokevirtual 275, 3) := by decide +kernel
theorem d_M_isWhole_103 : decode nb_M_isWhole 103 = .ok (.bipush 44, 2) := by decide +kernel
theorem d_M_isWhole_105 : decode nb_M_isWhole 105 = .ok (.if_icmp .eq 7, 3) := by decide +kernel
theorem d_M_isWhole_108 : decode nb_M_isWhole 108 = .ok (.iconst 1, 1) := by decide +kernel
theorem d_M_isWhole_109 : decode nb_M_isWhole 109 = .ok (.goto 4, 3) := by decide +kernel
theorem d_M_isWhole_112 : decode nb_M_isWhole 112 = .ok (.iconst 0, 1) := by decide +kernel
theorem d_M_isWhole_113 : decode nb_M_isWhole 113 = .ok (.istore 6, 2) := by decide +kernel
theorem d_M_isWhole_115 : decode nb_M_isWhole 115 = .ok (.aload_n 0, 1) := by decide +kernel
theorem d_M_isWhole_116 : decode nb_M_isWhole 116 = .ok (.dup, 1) := by decide +kernel
theorem d_M_isWhole_117 : decode nb_M_isWhole 117 = .ok (.getfield 282, 3) := by decide +kernel
theorem d_M_isWhole_120 : decode nb_M_isWhole 120 = .ok (.iload 8, 2) := by decide +kernel
theorem d_M_isWhole_122 : decode nb_M_isWhole 122 = .ok (.bipush 48, 2) := by decide +kernel
theorem d_M_isWhole_124 : decode nb_M_isWhole 124 = .ok (.if_icmp .ne 7, 3) := by decide +kernel
theorem d_M_isWhole_127 : decode nb_M_isWhole 127 = .ok (.iconst 1, 1) := by decide +kernel
theorem d_M_isWhole_128 : decode nb_M_isWhole 128 = .ok (.goto 4, 3) := by decide +kernel
theorem d_M_isWhole_131 : decode nb_M_isWhole 131 = .ok (.iconst 0, 1) := by decide +kernel
theorem d_M_isWhole_132 : decode nb_M_isWhole 132 = .ok (.iadd, 1) := by decide +kernel
theorem d_M_isWhole_133 : decode nb_M_isWhole 133 = .ok (.putfield 282, 3) := by decide +kernel
theorem d_M_isWhole_136 : decode nb_M_isWhole 136 = .ok (.iload 5, 2) := by decide +kernel
theorem d_M_isWhole_138 : decode nb_M_isWhole 138 = .ok (.ifCond .ne 10, 3) := by decide +kernel
theorem d_M_isWhole_141 : decode nb_M_isWhole 141 = .ok (.iload 8, 2) := by decide +kernel
theorem d_M_isWhole_143 : decode nb_M_isWhole 143 = .ok (.bipush 44, 2) := by decide +kernel
theorem d_M_isWhole_145 : decode nb_M_isWhole 145 = .ok (.if_icmp .ne 7, 3) := by decide +kernel
theorem d_M_isWhole_148 : decode nb_M_isWhole 148 = .ok (.iconst 1, 1) := by decide +kernel
theorem d_M_isWhole_149 : decode nb_M_isWhole 149 = .ok (.goto 4, 3) := by decide +kernel
theorem d_M_isWhole_152 : decode nb_M_isWhole 152 = .ok (.iconst 0, 1) := by decide +kernel
theorem d_M_isWhole_153 : decode nb_M_isWhole 153 = .ok (.istore 5, 2) := by decide +kernel
theorem d_M_isWhole_155 : decode nb_M_isWhole 155 = .ok (.iload 8, 2) := by decide +kernel
theorem d_M_isWhole_157 : decode nb_M_isWhole 157 = .ok (.bipush 44, 2) := by decide +kernel
theorem d_M_isWhole_159 : decode nb_M_isWhole 159 = .ok (.if_icmp .ne 7, 3) := by decide +kernel
theorem d_M_isWhole_162 : decode nb_M_isWhole 162 = .ok (.iconst 0, 1) := by decide +kernel
theorem d_M_isWhole_163 : decode nb_M_isWhole 163 = .ok (.goto 6, 3) := by decide +kernel
theorem d_M_isWhole_166 : decode nb_M_isWhole 166 = .ok (.iload_n 3, 1) := by decide +kernel
theorem d_M_isWhole_167 : decode nb_M_isWhole 167 = .ok (.iconst 1, 1) := by decide +kernel
theorem d_M_isWhole_168 : decode nb_M_isWhole 168 = .ok (.iadd, 1) := by decide +kernel
theorem d_M_isWhole_169 : decode nb_M_isWhole 169 = .ok (.istore_n 3, 1) := by decide +kernel
theorem d_M_isWhole_170 : decode nb_M_isWhole 170 = .ok (.iload 4, 2) := by decide +kernel
theorem d_M_isWhole_172 : decode nb_M_isWhole 172 = .ok (.iload 8, 2) := by decide +kernel
theorem d_M_isWhole_174 : decode nb_M_isWhole 174 = .ok (.bipush 44, 2) := by decide +kernel
theorem d_M_isWhole_176 : decode nb_M_isWhole 176 = .ok (.if_icmp .ne 7, 3) := by decide +kernel
theorem d_M_isWhole_179 : decode nb_M_isWhole 179 = .ok (.iconst 0, 1) := by decide +kernel
theorem d_M_isWhole_180 : decode nb_M_isWhole 180 = .ok (.goto 4, 3) := by decide +kernel
theorem d_M_isWhole_183 : decode nb_M_isWhole 183 = .ok (.iconst 1, 1) := by decide +kernel
theorem d_M_isWhole_184 : decode nb_M_isWhole 184 = .ok (.iadd, 1) := by decide +kernel
theorem d_M_isWhole_185 : decode nb_M_isWhole 185 = .ok (.istore 4, 2) := by decide +kernel
theorem d_M_isWhole_187 : decode nb_M_isWhole 187 = .ok (.iinc 7 1, 3) := by decide +kernel
theorem d_M_isWhole_190 : decode nb_M_isWhole 190 = .ok (.goto (-135), 3) := by decide +kernel
theorem d_M_isWhole_193 : decode nb_M_isWhole 193 = .ok (.aload_n 0, 1) := by decide +kernel
theorem d_M_isWhole_194 : decode nb_M_isWhole 194 = .ok (.iload 5, 2) := by decide +kernel
theorem d_M_isWhole_196 : decode nb_M_isWhole 196 = .ok (.ifCond .eq 7, 3) := by decide +kernel
theorem d_M_isWhole_199 : decode nb_M_isWhole 199 = .ok (.iload_n 3, 1) := by decide +kernel
theorem d_M_isWhole_200 : decode nb_M_isWhole 200 = .ok (.goto 4, 3) := by decide +kernel
theorem d_M_isWhole_203 : decode nb_M_isWhole 203 = .ok (.iconst 0, 1) := by decide +kernel
theorem d_M_isWhole_204 : decode nb_M_isWhole 204 = .ok (.putfield 285, 3) := by decide +kernel
theorem d_M_isWhole_207 : decode nb_M_isWhole 207 = .ok (.iload 6, 2) := by decide +kernel
theorem d_M_isWhole_209 : decode nb_M_isWhole 209 = .ok (.ifCond .eq 12, 3) := by decide +kernel
theorem d_M_isWhole_212 : decode nb_M_isWhole 212 = .ok (.iload 4, 2) := by decide +kernel
theorem d_M_isWhole_214 : decode nb_M_isWhole 214 = .ok (.ifCond .le 7, 3) := by decide +kernel
theorem d_M_isWhole_217 : decode nb_M_isWhole 217 = .ok (.iconst 1, 1) := by decide +kernel
theorem d_M_isWhole_218 : decode nb_M_isWhole 218 = .ok (.goto 4, 3) := by decide +kernel
theorem d_M_isWhole_221 : decode nb_M_isWhole 221 = .ok (.iconst 0, 1) := by decide +kernel
theorem d_M_isWhole_222 : decode nb_M_isWhole 222 = .ok (.ireturn, 1) := by decide +kernel
abbrev rm_M_isWhole : Room := ({ frames := 1, cells := 0, slots := 0, locals := 21 })
theorem w_M_isWhole_184 {post : Int32 → nf_M → Prop} (hfl : l.flags = flags0) (K : nf_K p s m args meth c "NumberForgeModel" nb_M_isWhole 9 (some FieldType.boolean) D a sz) (k55 : Int32 → Int32 → Int32 → Int32 → Int32 → Int32 → nf_M → Prop) (hk55 : ∀ (x2 : Int32) (x3 : Int32) (x4 : Int32) (x5 : Int32) (x6 : Int32) (x7 : Int32) (M : nf_M) (H : Heap) (locs : List Loc) (ls : Array Slot), k55 x2 x3 x4 x5 x6 x7 M → lv_has ls 9 [(0, .ref (a 19)), (2, .int x2), (3, .int x3), (4, .int x4), (5, .int x5), (6, .int x6), (7, .int x7)] → nf_W D a s sz H locs M → W p l e rm_M_isWhole s m args below meth c H locs 0 0 (nf_MQ below (nf_Q nf_jI D a post ex (nf_A a sz)) args s rm_M_isWhole.cells rm_M_isWhole.slots (nf_A a sz)) (F0 m 55 ls [])) : ∀ (x2 : Int32) (x3 : Int32) (x5 : Int32) (x6 : Int32) (x7 : Int32) (xy0 : Int32) (xy1 : Int32) (M : nf_M) (H : Heap) (locs : List Loc) (ls : Array Slot), B_M_isWhole_184 k55 post x2 x3 x5 x6 x7 xy0 xy1 M → lv_has ls 9 [(0, .ref (a 19)), (2, .int x2), (3, .int x3), (5, .int x5), (6, .int x6), (7, .int x7)] → nf_W D a s sz H locs M → W p l e rm_M_isWhole s m args below meth c H locs 0 0 (nf_MQ below (nf_Q nf_jI D a post ex (nf_A a sz)) args s rm_M_isWhole.cells rm_M_isWhole.slots (nf_A a sz)) (F0 m 184 ls [.int xy0, .int xy1]) := by
  have hx := K.1
  have hb := K.2.1
  intro x2 x3 x5 x6 x7 xy0 xy1 M H locs ls h hl hw
  refine lv_iadd hx hb d_M_isWhole_184 ?_
  refine lv_topi (fun t1 et1 => ?_)
  have h := h t1 et1
  refine lv_istore (lv' := [(4, .int t1), (0, .ref (a 19)), (2, .int x2), (3, .int x3), (5, .int x5), (6, .int x6), (7, .int x7)]) hx hb d_M_isWhole_185 hl (by decide) rfl (fun ls hl => ?_)
  refine lv_iinc (k := 6) (v := x7 + (1 : Int32)) (lv' := [(7, .int (x7 + (1 : Int32))), (4, .int t1), (0, .ref (a 19)), (2, .int x2), (3, .int x3), (5, .int x5), (6, .int x6)]) hx hb d_M_isWhole_187 hl rfl (nf_inc (by decide)) (by decide) rfl (fun ls hl => ?_)
  refine lv_goto hx hb d_M_isWhole_190 (tgt := 55) (by decide) ?_
  exact hk55 x2 x3 t1 x5 x6 (x7 + (1 : Int32)) M _ _ _ h (lv_sub hl [2, 3, 4, 1, 5, 6, 0] rfl) hw
theorem w_M_isWhole_169 {post : Int32 → nf_M → Prop} (hfl : l.flags = flags0) (K : nf_K p s m args meth c "NumberForgeModel" nb_M_isWhole 9 (some FieldType.boolean) D a sz) (k55 : Int32 → Int32 → Int32 → Int32 → Int32 → Int32 → nf_M → Prop) (hk55 : ∀ (x2 : Int32) (x3 : Int32) (x4 : Int32) (x5 : Int32) (x6 : Int32) (x7 : Int32) (M : nf_M) (H : Heap) (locs : List Loc) (ls : Array Slot), k55 x2 x3 x4 x5 x6 x7 M → lv_has ls 9 [(0, .ref (a 19)), (2, .int x2), (3, .int x3), (4, .int x4), (5, .int x5), (6, .int x6), (7, .int x7)] → nf_W D a s sz H locs M → W p l e rm_M_isWhole s m args below meth c H locs 0 0 (nf_MQ below (nf_Q nf_jI D a post ex (nf_A a sz)) args s rm_M_isWhole.cells rm_M_isWhole.slots (nf_A a sz)) (F0 m 55 ls [])) : ∀ (x2 : Int32) (x4 : Int32) (x5 : Int32) (x6 : Int32) (x7 : Int32) (x8 : Int32) (xy0 : Int32) (M : nf_M) (H : Heap) (locs : List Loc) (ls : Array Slot), B_M_isWhole_169 k55 post x2 x4 x5 x6 x7 x8 xy0 M → lv_has ls 9 [(0, .ref (a 19)), (2, .int x2), (4, .int x4), (5, .int x5), (6, .int x6), (7, .int x7), (8, .int x8)] → nf_W D a s sz H locs M → W p l e rm_M_isWhole s m args below meth c H locs 0 0 (nf_MQ below (nf_Q nf_jI D a post ex (nf_A a sz)) args s rm_M_isWhole.cells rm_M_isWhole.slots (nf_A a sz)) (F0 m 169 ls [.int xy0]) := by
  have hx := K.1
  have hb := K.2.1
  intro x2 x4 x5 x6 x7 x8 xy0 M H locs ls h hl hw
  refine lv_istore_n (lv' := [(3, .int xy0), (0, .ref (a 19)), (2, .int x2), (4, .int x4), (5, .int x5), (6, .int x6), (7, .int x7), (8, .int x8)]) hx hb d_M_isWhole_169 rfl hl (by decide) rfl (fun ls hl => ?_)
  refine lv_iload hx hb d_M_isWhole_170 (lv_at hl 3 rfl) ?_
  refine lv_iload hx hb d_M_isWhole_172 (lv_at hl 7 rfl) ?_
  refine lv_bipush (v := (44 : Int32)) hx hb d_M_isWhole_174 (by decide) ?_
  refine nf_ic_ne hx hb d_M_isWhole_176 (tgt := 183) (by decide) (fun hc => ?_) (fun hc => ?_)
  · have h := h.1 hc
    refine lv_iconst (v := (0 : Int32)) hx hb d_M_isWhole_179 (by decide) ?_
    refine lv_goto hx hb d_M_isWhole_180 (tgt := 184) (by decide) ?_
    exact w_M_isWhole_184 hfl K k55 hk55 x2 xy0 x5 x6 x7 (0 : Int32) x4 M _ _ _ h (lv_sub hl [1, 2, 0, 4, 5, 6] rfl) hw
  · have h := h.2 hc
    refine lv_iconst (v := (1 : Int32)) hx hb d_M_isWhole_183 (by decide) ?_
    exact w_M_isWhole_184 hfl K k55 hk55 x2 xy0 x5 x6 x7 (1 : Int32) x4 M _ _ _ h (lv_sub hl [1, 2, 0, 4, 5, 6] rfl) hw
theorem w_M_isWhole_153 {post : Int32 → nf_M → Prop} (hfl : l.flags = flags0) (K : nf_K p s m args meth c "NumberForgeModel" nb_M_isWhole 9 (some FieldType.boolean) D a sz) (k55 : Int32 → Int32 → Int32 → Int32 → Int32 → Int32 → nf_M → Prop) (hk55 : ∀ (x2 : Int32) (x3 : Int32) (x4 : Int32) (x5 : Int32) (x6 : Int32) (x7 : Int32) (M : nf_M) (H : Heap) (locs : List Loc) (ls : Array Slot), k55 x2 x3 x4 x5 x6 x7 M → lv_has ls 9 [(0, .ref (a 19)), (2, .int x2), (3, .int x3), (4, .int x4), (5, .int x5), (6, .int x6), (7, .int x7)] → nf_W D a s sz H locs M → W p l e rm_M_isWhole s m args below meth c H locs 0 0 (nf_MQ below (nf_Q nf_jI D a post ex (nf_A a sz)) args s rm_M_isWhole.cells rm_M_isWhole.slots (nf_A a sz)) (F0 m 55 ls [])) : ∀ (x2 : Int32) (x3 : Int32) (x4 : Int32) (x6 : Int32) (x7 : Int32) (x8 : Int32) (xy0 : Int32) (M : nf_M) (H : Heap) (locs : List Loc) (ls : Array Slot), B_M_isWhole_153 k55 post x2 x3 x4 x6 x7 x8 xy0 M → lv_has ls 9 [(0, .ref (a 19)), (2, .int x2), (3, .int x3), (4, .int x4), (6, .int x6), (7, .int x7), (8, .int x8)] → nf_W D a s sz H locs M → W p l e rm_M_isWhole s m args below meth c H locs 0 0 (nf_MQ below (nf_Q nf_jI D a post ex (nf_A a sz)) args s rm_M_isWhole.cells rm_M_isWhole.slots (nf_A a sz)) (F0 m 153 ls [.int xy0]) := by
  have hx := K.1
  have hb := K.2.1
  intro x2 x3 x4 x6 x7 x8 xy0 M H locs ls h hl hw
  refine lv_istore (lv' := [(5, .int xy0), (0, .ref (a 19)), (2, .int x2), (3, .int x3), (4, .int x4), (6, .int x6), (7, .int x7), (8, .int x8)]) hx hb d_M_isWhole_153 hl (by decide) rfl (fun ls hl => ?_)
  refine lv_iload hx hb d_M_isWhole_155 (lv_at hl 7 rfl) ?_
  refine lv_bipush (v := (44 : Int32)) hx hb d_M_isWhole_157 (by decide) ?_
  refine nf_ic_ne hx hb d_M_isWhole_159 (tgt := 166) (by decide) (fun hc => ?_) (fun hc => ?_)
  · have h := h.1 hc
    refine lv_iconst (v := (0 : Int32)) hx hb d_M_isWhole_162 (by decide) ?_
    refine lv_goto hx hb d_M_isWhole_163 (tgt := 169) (by decide) ?_
    exact w_M_isWhole_169 hfl K k55 hk55 x2 x4 xy0 x6 x7 x8 (0 : Int32) M _ _ _ h (lv_sub hl [1, 2, 4, 0, 5, 6, 7] rfl) hw
  · have h := h.2 hc
    refine lv_iload_n hx hb d_M_isWhole_166 rfl (lv_at hl 3 rfl) ?_
    refine lv_iconst (v := (1 : Int32)) hx hb d_M_isWhole_167 (by decide) ?_
    refine lv_iadd hx hb d_M_isWhole_168 ?_
    exact w_M_isWhole_169 hfl K k55 hk55 x2 x4 xy0 x6 x7 x8 (x3 + (1 : Int32)) M _ _ _ h (lv_sub hl [1, 2, 4, 0, 5, 6, 7] rfl) hw
theorem w_M_isWhole_148 {post : Int32 → nf_M → Prop} (hfl : l.flags = flags0) (K : nf_K p s m args meth c "NumberForgeModel" nb_M_isWhole 9 (some FieldType.boolean) D a sz) (k55 : Int32 → Int32 → Int32 → Int32 → Int32 → Int32 → nf_M → Prop) (hk55 : ∀ (x2 : Int32) (x3 : Int32) (x4 : Int32) (x5 : Int32) (x6 : Int32) (x7 : Int32) (M : nf_M) (H : Heap) (locs : List Loc) (ls : Array Slot), k55 x2 x3 x4 x5 x6 x7 M → lv_has ls 9 [(0, .ref (a 19)), (2, .int x2), (3, .int x3), (4, .int x4), (5, .int x5), (6, .int x6), (7, .int x7)] → nf_W D a s sz H locs M → W p l e rm_M_isWhole s m args below meth c H locs 0 0 (nf_MQ below (nf_Q nf_jI D a post ex (nf_A a sz)) args s rm_M_isWhole.cells rm_M_isWhole.slots (nf_A a sz)) (F0 m 55 ls [])) : ∀ (x2 : Int32) (x3 : Int32) (x4 : Int32) (x6 : Int32) (x7 : Int32) (x8 : Int32) (M : nf_M) (H : Heap) (locs : List Loc) (ls : Array Slot), B_M_isWhole_148 k55 post x2 x3 x4 x6 x7 x8 M → lv_has ls 9 [(0, .ref (a 19)), (2, .int x2), (3, .int x3), (4, .int x4), (6, .int x6), (7, .int x7), (8, .int x8)] → nf_W D a s sz H locs M → W p l e rm_M_isWhole s m args below meth c H locs 0 0 (nf_MQ below (nf_Q nf_jI D a post ex (nf_A a sz)) args s rm_M_isWhole.cells rm_M_isWhole.slots (nf_A a sz)) (F0 m 148 ls []) := by
  have hx := K.1
  have hb := K.2.1
  intro x2 x3 x4 x6 x7 x8 M H locs ls h hl hw
  refine lv_iconst (v := (1 : Int32)) hx hb d_M_isWhole_148 (by decide) ?_
  refine lv_goto hx hb d_M_isWhole_149 (tgt := 153) (by decide) ?_
  exact w_M_isWhole_153 hfl K k55 hk55 x2 x3 x4 x6 x7 x8 (1 : Int32) M _ _ _ h (lv_sub hl [0, 1, 2, 3, 4, 5, 6] rfl) hw
theorem w_M_isWhole_132 {post : Int32 → nf_M → Prop} (hfl : l.flags = flags0) (K : nf_K p s m args meth c "NumberForgeModel" nb_M_isWhole 9 (some FieldType.boolean) D a sz) (k55 : Int32 → Int32 → Int32 → Int32 → Int32 → Int32 → nf_M → Prop) (hk55 : ∀ (x2 : Int32) (x3 : Int32) (x4 : Int32) (x5 : Int32) (x6 : Int32) (x7 : Int32) (M : nf_M) (H : Heap) (locs : List Loc) (ls : Array Slot), k55 x2 x3 x4 x5 x6 x7 M → lv_has ls 9 [(0, .ref (a 19)), (2, .int x2), (3, .int x3), (4, .int x4), (5, .int x5), (6, .int x6), (7, .int x7)] → nf_W D a s sz H locs M → W p l e rm_M_isWhole s m args below meth c H locs 0 0 (nf_MQ below (nf_Q nf_jI D a post ex (nf_A a sz)) args s rm_M_isWhole.cells rm_M_isWhole.slots (nf_A a sz)) (F0 m 55 ls [])) : ∀ (x2 : Int32) (x3 : Int32) (x4 : Int32) (x5 : Int32) (x6 : Int32) (x7 : Int32) (x8 : Int32) (xy0 : Int32) (xy1 : Int32) (M : nf_M) (H : Heap) (locs : List Loc) (ls : Array Slot), B_M_isWhole_132 k55 post x2 x3 x4 x5 x6 x7 x8 xy0 xy1 M → lv_has ls 9 [(0, .ref (a 19)), (2, .int x2), (3, .int x3), (4, .int x4), (5, .int x5), (6, .int x6), (7, .int x7), (8, .int x8)] → nf_W D a s sz H locs M → W p l e rm_M_isWhole s m args below meth c H locs 0 0 (nf_MQ below (nf_Q nf_jI D a post ex (nf_A a sz)) args s rm_M_isWhole.cells rm_M_isWhole.slots (nf_A a sz)) (F0 m 132 ls [.int xy0, .int xy1, .ref (a 19)]) := by
  have hx := K.1
  have hb := K.2.1
  intro x2 x3 x4 x5 x6 x7 x8 xy0 xy1 M H locs ls h hl hw
  refine lv_iadd hx hb d_M_isWhole_132 ?_
  refine lv_topi (fun t1 et1 => ?_)
  have h := h t1 et1
  refine nf_put (M' := ms_I M 19 17 t1) K hw 19 7 17 nw_948 rfl rfl rfl ni_M ny_M nq_M nn_M (by decide) rfl rfl rfl rfl (Nat.le_of_ble_eq_true rfl) d_M_isWhole_133 (fun H locs hw => ?_)
  obtain ⟨M2, eM2⟩ : ∃ z, z = ms_I M 19 17 t1 := ⟨_, rfl⟩
  rw [← eM2] at hw
  have h := h M2 eM2
  refine lv_iload hx hb d_M_isWhole_136 (lv_at hl 4 rfl) ?_
  refine nf_if_ne hx hb d_M_isWhole_138 (tgt := 148) (by decide) (fun hc => ?_) (fun hc => ?_)
  · have h := h.1 hc
    refine lv_iload hx hb d_M_isWhole_141 (lv_at hl 7 rfl) ?_
    refine lv_bipush (v := (44 : Int32)) hx hb d_M_isWhole_143 (by decide) ?_
    refine nf_ic_ne hx hb d_M_isWhole_145 (tgt := 152) (by decide) (fun hc => ?_) (fun hc => ?_)
    · have h := h.1 hc
      exact w_M_isWhole_148 hfl K k55 hk55 x2 x3 x4 x6 x7 x8 M2 _ _ _ h (lv_sub hl [0, 1, 2, 3, 5, 6, 7] rfl) hw
    · have h := h.2 hc
      refine lv_iconst (v := (0 : Int32)) hx hb d_M_isWhole_152 (by decide) ?_
      exact w_M_isWhole_153 hfl K k55 hk55 x2 x3 x4 x6 x7 x8 (0 : Int32) M2 _ _ _ h (lv_sub hl [0, 1, 2, 3, 5, 6, 7] rfl) hw
  · have h := h.2 hc
    exact w_M_isWhole_148 hfl K k55 hk55 x2 x3 x4 x6 x7 x8 M2 _ _ _ h (lv_sub hl [0, 1, 2, 3, 5, 6, 7] rfl) hw
theorem w_M_isWhole_113 {post : Int32 → nf_M → Prop} (hfl : l.flags = flags0) (K : nf_K p s m args meth c "NumberForgeModel" nb_M_isWhole 9 (some FieldType.boolean) D a sz) (k55 : Int32 → Int32 → Int32 → Int32 → Int32 → Int32 → nf_M → Prop) (hk55 : ∀ (x2 : Int32) (x3 : Int32) (x4 : Int32) (x5 : Int32) (x6 : Int32) (x7 : Int32) (M : nf_M) (H : Heap) (locs : List Loc) (ls : Array Slot), k55 x2 x3 x4 x5 x6 x7 M → lv_has ls 9 [(0, .ref (a 19)), (2, .int x2), (3, .int x3), (4, .int x4), (5, .int x5), (6, .int x6), (7, .int x7)] → nf_W D a s sz H locs M → W p l e rm_M_isWhole s m args below meth c H locs 0 0 (nf_MQ below (nf_Q nf_jI D a post ex (nf_A a sz)) args s rm_M_isWhole.cells rm_M_isWhole.slots (nf_A a sz)) (F0 m 55 ls [])) : ∀ (x2 : Int32) (x3 : Int32) (x4 : Int32) (x5 : Int32) (x7 : Int32) (x8 : Int32) (xy0 : Int32) (M : nf_M) (H : Heap) (locs : List Loc) (ls : Array Slot), B_M_isWhole_113 k55 post x2 x3 x4 x5 x7 x8 xy0 M → lv_has ls 9 [(0, .ref (a 19)), (2, .int x2), (3, .int x3), (4, .int x4), (5, .int x5), (7, .int x7), (8, .int x8)] → nf_W D a s sz H locs M → W p l e rm_M_isWhole s m args below meth c H locs 0 0 (nf_MQ below (nf_Q nf_jI D a post ex (nf_A a sz)) args s rm_M_isWhole.cells rm_M_isWhole.slots (nf_A a sz)) (F0 m 113 ls [.int xy0]) := by
  have hx := K.1
  have hb := K.2.1
  intro x2 x3 x4 x5 x7 x8 xy0 M H locs ls h hl hw
  refine lv_istore (lv' := [(6, .int xy0), (0, .ref (a 19)), (2, .int x2), (3, .int x3), (4, .int x4), (5, .int x5), (7, .int x7), (8, .int x8)]) hx hb d_M_isWhole_113 hl (by decide) rfl (fun ls hl => ?_)
  refine lv_aload_n hx hb d_M_isWhole_115 rfl (lv_at hl 1 rfl) ?_
  refine lv_dup hx hb d_M_isWhole_116 rfl ?_
  refine nf_get (v := .int (mg_I M 19 17)) K hw 19 7 17 nw_948 rfl rfl ni_M (by decide) rfl rfl d_M_isWhole_117 ?_
  refine lv_iload hx hb d_M_isWhole_120 (lv_at hl 7 rfl) ?_
  refine lv_bipush (v := (48 : Int32)) hx hb d_M_isWhole_122 (by decide) ?_
  refine nf_ic_ne hx hb d_M_isWhole_124 (tgt := 131) (by decide) (fun hc => ?_) (fun hc => ?_)
  · have h := h.1 hc
    refine lv_iconst (v := (1 : Int32)) hx hb d_M_isWhole_127 (by decide) ?_
    refine lv_goto hx hb d_M_isWhole_128 (tgt := 132) (by decide) ?_
    exact w_M_isWhole_132 hfl K k55 hk55 x2 x3 x4 x5 xy0 x7 x8 (1 : Int32) (mg_I M 19 17) M _ _ _ h (lv_sub hl [1, 2, 3, 4, 5, 0, 6, 7] rfl) hw
  · have h := h.2 hc
    refine lv_iconst (v := (0 : Int32)) hx hb d_M_isWhole_131 (by decide) ?_
    exact w_M_isWhole_132 hfl K k55 hk55 x2 x3 x4 x5 xy0 x7 x8 (0 : Int32) (mg_I M 19 17) M _ _ _ h (lv_sub hl [1, 2, 3, 4, 5, 0, 6, 7] rfl) hw
theorem w_M_isWhole_108 {post : Int32 → nf_M → Prop} (hfl : l.flags = flags0) (K : nf_K p s m args meth c "NumberForgeModel" nb_M_isWhole 9 (some FieldType.boolean) D a sz) (k55 : Int32 → Int32 → Int32 → Int32 → Int32 → Int32 → nf_M → Prop) (hk55 : ∀ (x2 : Int32) (x3 : Int32) (x4 : Int32) (x5 : Int32) (x6 : Int32) (x7 : Int32) (M : nf_M) (H : Heap) (locs : List Loc) (ls : Array Slot), k55 x2 x3 x4 x5 x6 x7 M → lv_has ls 9 [(0, .ref (a 19)), (2, .int x2), (3, .int x3), (4, .int x4), (5, .int x5), (6, .int x6), (7, .int x7)] → nf_W D a s sz H locs M → W p l e rm_M_isWhole s m args below meth c H locs 0 0 (nf_MQ below (nf_Q nf_jI D a post ex (nf_A a sz)) args s rm_M_isWhole.cells rm_M_isWhole.slots (nf_A a sz)) (F0 m 55 ls [])) : ∀ (x2 : Int32) (x3 : Int32) (x4 : Int32) (x5 : Int32) (x7 : Int32) (x8 : Int32) (M : nf_M) (H : Heap) (locs : List Loc) (ls : Array Slot), B_M_isWhole_108 k55 post x2 x3 x4 x5 x7 x8 M → lv_has ls 9 [(0, .ref (a 19)), (2, .int x2), (3, .int x3), (4, .int x4), (5, .int x5), (7, .int x7), (8, .int x8)] → nf_W D a s sz H locs M → W p l e rm_M_isWhole s m args below meth c H locs 0 0 (nf_MQ below (nf_Q nf_jI D a post ex (nf_A a sz)) args s rm_M_isWhole.cells rm_M_isWhole.slots (nf_A a sz)) (F0 m 108 ls []) := by
  have hx := K.1
  have hb := K.2.1
  intro x2 x3 x4 x5 x7 x8 M H locs ls h hl hw
  refine lv_iconst (v := (1 : Int32)) hx hb d_M_isWhole_108 (by decide) ?_
  refine lv_goto hx hb d_M_isWhole_109 (tgt := 113) (by decide) ?_
  exact w_M_isWhole_113 hfl K k55 hk55 x2 x3 x4 x5 x7 x8 (1 : Int32) M _ _ _ h (lv_sub hl [0, 1, 2, 3, 4, 5, 6] rfl) hw
theorem w_M_isWhole_112 {post : Int32 → nf_M → Prop} (hfl : l.flags = flags0) (K : nf_K p s m args meth c "NumberForgeModel" nb_M_isWhole 9 (some FieldType.boolean) D a sz) (k55 : Int32 → Int32 → Int32 → Int32 → Int32 → Int32 → nf_M → Prop) (hk55 : ∀ (x2 : Int32) (x3 : Int32) (x4 : Int32) (x5 : Int32) (x6 : Int32) (x7 : Int32) (M : nf_M) (H : Heap) (locs : List Loc) (ls : Array Slot), k55 x2 x3 x4 x5 x6 x7 M → lv_has ls 9 [(0, .ref (a 19)), (2, .int x2), (3, .int x3), (4, .int x4), (5, .int x5), (6, .int x6), (7, .int x7)] → nf_W D a s sz H locs M → W p l e rm_M_isWhole s m args below meth c H locs 0 0 (nf_MQ below (nf_Q nf_jI D a post ex (nf_A a sz)) args s rm_M_isWhole.cells rm_M_isWhole.slots (nf_A a sz)) (F0 m 55 ls [])) : ∀ (x2 : Int32) (x3 : Int32) (x4 : Int32) (x5 : Int32) (x7 : Int32) (x8 : Int32) (M : nf_M) (H : Heap) (locs : List Loc) (ls : Array Slot), B_M_isWhole_112 k55 post x2 x3 x4 x5 x7 x8 M → lv_has ls 9 [(0, .ref (a 19)), (2, .int x2), (3, .int x3), (4, .int x4), (5, .int x5), (7, .int x7), (8, .int x8)] → nf_W D a s sz H locs M → W p l e rm_M_isWhole s m args below meth c H locs 0 0 (nf_MQ below (nf_Q nf_jI D a post ex (nf_A a sz)) args s rm_M_isWhole.cells rm_M_isWhole.slots (nf_A a sz)) (F0 m 112 ls []) := by
  have hx := K.1
  have hb := K.2.1
  intro x2 x3 x4 x5 x7 x8 M H locs ls h hl hw
  refine lv_iconst (v := (0 : Int32)) hx hb d_M_isWhole_112 (by decide) ?_
  exact w_M_isWhole_113 hfl K k55 hk55 x2 x3 x4 x5 x7 x8 (0 : Int32) M _ _ _ h (lv_sub hl [0, 1, 2, 3, 4, 5, 6] rfl) hw
theorem w_M_isWhole_88 {post : Int32 → nf_M → Prop} (hfl : l.flags = flags0) (K : nf_K p s m args meth c "NumberForgeModel" nb_M_isWhole 9 (some FieldType.boolean) D a sz) (k55 : Int32 → Int32 → Int32 → Int32 → Int32 → Int32 → nf_M → Prop) (hk55 : ∀ (x2 : Int32) (x3 : Int32) (x4 : Int32) (x5 : Int32) (x6 : Int32) (x7 : Int32) (M : nf_M) (H : Heap) (locs : List Loc) (ls : Array Slot), k55 x2 x3 x4 x5 x6 x7 M → lv_has ls 9 [(0, .ref (a 19)), (2, .int x2), (3, .int x3), (4, .int x4), (5, .int x5), (6, .int x6), (7, .int x7)] → nf_W D a s sz H locs M → W p l e rm_M_isWhole s m args below meth c H locs 0 0 (nf_MQ below (nf_Q nf_jI D a post ex (nf_A a sz)) args s rm_M_isWhole.cells rm_M_isWhole.slots (nf_A a sz)) (F0 m 55 ls [])) : ∀ (x2 : Int32) (x3 : Int32) (x4 : Int32) (x5 : Int32) (x7 : Int32) (x8 : Int32) (M : nf_M) (H : Heap) (locs : List Loc) (ls : Array Slot), B_M_isWhole_88 k55 post x2 x3 x4 x5 x7 x8 M → lv_has ls 9 [(0, .ref (a 19)), (2, .int x2), (3, .int x3), (4, .int x4), (5, .int x5), (7, .int x7), (8, .int x8)] → nf_W D a s sz H locs M → W p l e rm_M_isWhole s m args below meth c H locs 0 0 (nf_MQ below (nf_Q nf_jI D a post ex (nf_A a sz)) args s rm_M_isWhole.cells rm_M_isWhole.slots (nf_A a sz)) (F0 m 88 ls []) := by
  have hx := K.1
  have hb := K.2.1
  intro x2 x3 x4 x5 x7 x8 M H locs ls h hl hw
  refine lv_iload hx hb d_M_isWhole_88 (lv_at hl 6 rfl) ?_
  refine lv_bipush (v := (44 : Int32)) hx hb d_M_isWhole_90 (by decide) ?_
  refine nf_ic_ne hx hb d_M_isWhole_92 (tgt := 108) (by decide) (fun hc => ?_) (fun hc => ?_)
  · have h := h.1 hc
    refine lv_aload_n hx hb d_M_isWhole_95 rfl (lv_at hl 0 rfl) ?_
    refine lv_iload hx hb d_M_isWhole_96 (lv_at hl 5 rfl) ?_
    refine lv_iconst (v := (1 : Int32)) hx hb d_M_isWhole_98 (by decide) ?_
    refine lv_iadd hx hb d_M_isWhole_99 ?_
    refine nf_callW (ex := (fun _ _ => False)) (As := [.ref (a 19), .int (x7 + (1 : Int32))]) (st0 := [.int (x7 + (1 : Int32)), .ref (a 19)]) (rest := []) K hw (nf_invV hx hb K.2.2.2.1 (nf_Kg K nw_1234) (nf_Kg K nw_1236) (nf_Kg K nx_M_look) (nf_Kg K nw_1237) ⟨by decide, by decide⟩ (nf_rcv K hw 19 7 rfl rfl) rfl nl_M_look rfl d_M_isWhole_100) (c_M_look l hfl (x7 + (1 : Int32))) nw_1237 nw_9 rfl ⟨by decide, by decide⟩ (Nat.le_of_ble_eq_true rfl) hl.1 ⟨Nat.le_of_ble_eq_true rfl, Nat.le_of_ble_eq_true rfl⟩ h (fun _ _ h => h.elim) (fun r1 M2 H locs h hw => ?_)
    refine W.eq (g2 := F0 m 103 ls [.int r1]) rfl ?_
    refine lv_bipush (v := (44 : Int32)) hx hb d_M_isWhole_103 (by decide) ?_
    refine nf_ic_eq hx hb d_M_isWhole_105 (tgt := 112) (by decide) (fun hc => ?_) (fun hc => ?_)
    · have h := h.1 hc
      exact w_M_isWhole_112 hfl K k55 hk55 x2 x3 x4 x5 x7 x8 M2 _ _ _ h (lv_sub hl [0, 1, 2, 3, 4, 5, 6] rfl) hw
    · have h := h.2 hc
      exact w_M_isWhole_108 hfl K k55 hk55 x2 x3 x4 x5 x7 x8 M2 _ _ _ h (lv_sub hl [0, 1, 2, 3, 4, 5, 6] rfl) hw
  · have h := h.2 hc
    exact w_M_isWhole_108 hfl K k55 hk55 x2 x3 x4 x5 x7 x8 M _ _ _ h (lv_sub hl [0, 1, 2, 3, 4, 5, 6] rfl) hw
theorem w_M_isWhole_222 {post : Int32 → nf_M → Prop} (hfl : l.flags = flags0) (K : nf_K p s m args meth c "NumberForgeModel" nb_M_isWhole 9 (some FieldType.boolean) D a sz) : ∀ (xy0 : Int32) (M : nf_M) (H : Heap) (locs : List Loc) (ls : Array Slot), B_M_isWhole_222 post xy0 M → lv_has ls 9 [] → nf_W D a s sz H locs M → W p l e rm_M_isWhole s m args below meth c H locs 0 0 (nf_MQ below (nf_Q nf_jI D a post ex (nf_A a sz)) args s rm_M_isWhole.cells rm_M_isWhole.slots (nf_A a sz)) (F0 m 222 ls [.int xy0]) := by
  have hx := K.1
  have hb := K.2.1
  intro xy0 M H locs ls h hl hw
  obtain ⟨g1, h⟩ := h
  exact nf_iret K hw d_M_isWhole_222 g1 (Nat.le_of_ble_eq_true rfl) (Nat.le_of_ble_eq_true rfl) (r := xy0) rfl h
theorem w_M_isWhole_221 {post : Int32 → nf_M → Prop} (hfl : l.flags = flags0) (K : nf_K p s m args meth c "NumberForgeModel" nb_M_isWhole 9 (some FieldType.boolean) D a sz) : ∀ (M : nf_M) (H : Heap) (locs : List Loc) (ls : Array Slot), B_M_isWhole_221 post  M → lv_has ls 9 [] → nf_W D a s sz H locs M → W p l e rm_M_isWhole s m args below meth c H locs 0 0 (nf_MQ below (nf_Q nf_jI D a post ex (nf_A a sz)) args s rm_M_isWhole.cells rm_M_isWhole.slots (nf_A a sz)) (F0 m 221 ls []) := by
  have hx := K.1
  have hb := K.2.1
  intro  M H locs ls h hl hw
  refine lv_iconst (v := (0 : Int32)) hx hb d_M_isWhole_221 (by decide) ?_
  exact w_M_isWhole_222 hfl K (0 : Int32) M _ _ _ h (lv_sub hl [] rfl) hw
theorem w_M_isWhole_204 {post : Int32 → nf_M → Prop} (hfl : l.flags = flags0) (K : nf_K p s m args meth c "NumberForgeModel" nb_M_isWhole 9 (some FieldType.boolean) D a sz) : ∀ (x4 : Int32) (x6 : Int32) (xy0 : Int32) (M : nf_M) (H : Heap) (locs : List Loc) (ls : Array Slot), B_M_isWhole_204 post x4 x6 xy0 M → lv_has ls 9 [(4, .int x4), (6, .int x6)] → nf_W D a s sz H locs M → W p l e rm_M_isWhole s m args below meth c H locs 0 0 (nf_MQ below (nf_Q nf_jI D a post ex (nf_A a sz)) args s rm_M_isWhole.cells rm_M_isWhole.slots (nf_A a sz)) (F0 m 204 ls [.int xy0, .ref (a 19)]) := by
  have hx := K.1
  have hb := K.2.1
  intro x4 x6 xy0 M H locs ls h hl hw
  refine nf_put (M' := ms_I M 19 18 xy0) K hw 19 7 18 nw_949 rfl rfl rfl ni_M ny_M nq_M nn_M (by decide) rfl rfl rfl rfl (Nat.le_of_ble_eq_true rfl) d_M_isWhole_204 (fun H locs hw => ?_)
  obtain ⟨M1, eM1⟩ : ∃ z, z = ms_I M 19 18 xy0 := ⟨_, rfl⟩
  rw [← eM1] at hw
  have h := h M1 eM1
  refine lv_iload hx hb d_M_isWhole_207 (lv_at hl 1 rfl) ?_
  refine nf_if_eq hx hb d_M_isWhole_209 (tgt := 221) (by decide) (fun hc => ?_) (fun hc => ?_)
  · have h := h.1 hc
    exact w_M_isWhole_221 hfl K  M1 _ _ _ h (lv_sub hl [] rfl) hw
  · have h := h.2 hc
    refine lv_iload hx hb d_M_isWhole_212 (lv_at hl 0 rfl) ?_
    refine nf_if_le hx hb d_M_isWhole_214 (tgt := 221) (by decide) (fun hc => ?_) (fun hc => ?_)
    · have h := h.1 hc
      refine lv_iconst (v := (1 : Int32)) hx hb d_M_isWhole_217 (by decide) ?_
      refine lv_goto hx hb d_M_isWhole_218 (tgt := 222) (by decide) ?_
      exact w_M_isWhole_222 hfl K (1 : Int32) M1 _ _ _ h (lv_sub hl [] rfl) hw
    · have h := h.2 hc
      exact w_M_isWhole_221 hfl K  M1 _ _ _ h (lv_sub hl [] rfl) hw
theorem w_M_isWhole_55 {post : Int32 → nf_M → Prop} (hfl : l.flags = flags0) (K : nf_K p s m args meth c "NumberForgeModel" nb_M_isWhole 9 (some FieldType.boolean) D a sz) : ∀ (n : Nat) (x2 : Int32) (x3 : Int32) (x4 : Int32) (x5 : Int32) (x6 : Int32) (x7 : Int32) (M : nf_M) (H : Heap) (locs : List Loc) (ls : Array Slot), B_M_isWhole_55 post n x2 x3 x4 x5 x6 x7 M → lv_has ls 9 [(0, .ref (a 19)), (2, .int x2), (3, .int x3), (4, .int x4), (5, .int x5), (6, .int x6), (7, .int x7)] → nf_W D a s sz H locs M → W p l e rm_M_isWhole s m args below meth c H locs 0 0 (nf_MQ below (nf_Q nf_jI D a post ex (nf_A a sz)) args s rm_M_isWhole.cells rm_M_isWhole.slots (nf_A a sz)) (F0 m 55 ls []) := by
  have hx := K.1
  have hb := K.2.1
  intro n
  induction n with
  | zero => intro x2 x3 x4 x5 x6 x7 M H locs ls h hl hw; exact h.elim
  | succ n ih =>
    intro x2 x3 x4 x5 x6 x7 M H locs ls h hl hw
    refine lv_iload hx hb d_M_isWhole_55 (lv_at hl 6 rfl) ?_
    refine lv_iload_n hx hb d_M_isWhole_57 rfl (lv_at hl 1 rfl) ?_
    refine nf_ic_ge hx hb d_M_isWhole_58 (tgt := 193) (by decide) (fun hc => ?_) (fun hc => ?_)
    · have h := h.1 hc
      refine lv_aload_n hx hb d_M_isWhole_61 rfl (lv_at hl 0 rfl) ?_
      refine lv_iload hx hb d_M_isWhole_62 (lv_at hl 6 rfl) ?_
      refine nf_callW (ex := (fun _ _ => False)) (As := [.ref (a 19), .int x7]) (st0 := [.int x7, .ref (a 19)]) (rest := []) K hw (nf_invV hx hb K.2.2.2.1 (nf_Kg K nw_1234) (nf_Kg K nw_1236) (nf_Kg K nx_M_look) (nf_Kg K nw_1237) ⟨by decide, by decide⟩ (nf_rcv K hw 19 7 rfl rfl) rfl nl_M_look rfl d_M_isWhole_64) (c_M_look l hfl x7) nw_1237 nw_9 rfl ⟨by decide, by decide⟩ (Nat.le_of_ble_eq_true rfl) hl.1 ⟨Nat.le_of_ble_eq_true rfl, Nat.le_of_ble_eq_true rfl⟩ h (fun _ _ h => h.elim) (fun r1 M2 H locs h hw => ?_)
      refine W.eq (g2 := F0 m 67 ls [.int r1]) rfl ?_
      refine lv_istore (lv' := [(8, .int r1), (0, .ref (a 19)), (2, .int x2), (3, .int x3), (4, .int x4), (5, .int x5), (6, .int x6), (7, .int x7)]) hx hb d_M_isWhole_67 hl (by decide) rfl (fun ls hl => ?_)
      refine lv_iload hx hb d_M_isWhole_69 (lv_at hl 6 rfl) ?_
      refine nf_if_eq hx hb d_M_isWhole_71 (tgt := 112) (by decide) (fun hc => ?_) (fun hc => ?_)
      · have h := h.1 hc
        exact w_M_isWhole_112 hfl K (fun x2 x3 x4 x5 x6 x7 z => B_M_isWhole_55 post n x2 x3 x4 x5 x6 x7 z) (fun x2 x3 x4 x5 x6 x7 z H locs ls hh hll hww => ih x2 x3 x4 x5 x6 x7 z H locs ls hh hll hww) x2 x3 x4 x5 x7 r1 M2 _ _ _ h (lv_sub hl [1, 2, 3, 4, 5, 7, 0] rfl) hw
      · have h := h.2 hc
        refine lv_iload hx hb d_M_isWhole_74 (lv_at hl 0 rfl) ?_
        refine lv_bipush (v := (35 : Int32)) hx hb d_M_isWhole_76 (by decide) ?_
        refine nf_ic_ne hx hb d_M_isWhole_78 (tgt := 88) (by decide) (fun hc => ?_) (fun hc => ?_)
        · have h := h.1 hc
          refine lv_aload_n hx hb d_M_isWhole_81 rfl (lv_at hl 1 rfl) ?_
          refine nf_get (v := .int (mg_I M2 19 17)) K hw 19 7 17 nw_948 rfl rfl ni_M (by decide) rfl rfl d_M_isWhole_82 ?_
          refine nf_if_gt hx hb d_M_isWhole_85 (tgt := 112) (by decide) (fun hc => ?_) (fun hc => ?_)
          · have h := h.1 hc
            exact w_M_isWhole_112 hfl K (fun x2 x3 x4 x5 x6 x7 z => B_M_isWhole_55 post n x2 x3 x4 x5 x6 x7 z) (fun x2 x3 x4 x5 x6 x7 z H locs ls hh hll hww => ih x2 x3 x4 x5 x6 x7 z H locs ls hh hll hww) x2 x3 x4 x5 x7 r1 M2 _ _ _ h (lv_sub hl [1, 2, 3, 4, 5, 7, 0] rfl) hw
          · have h := h.2 hc
            exact w_M_isWhole_88 hfl K (fun x2 x3 x4 x5 x6 x7 z => B_M_isWhole_55 post n x2 x3 x4 x5 x6 x7 z) (fun x2 x3 x4 x5 x6 x7 z H locs ls hh hll hww => ih x2 x3 x4 x5 x6 x7 z H locs ls hh hll hww) x2 x3 x4 x5 x7 r1 M2 _ _ _ h (lv_sub hl [1, 2, 3, 4, 5, 7, 0] rfl) hw
        · have h := h.2 hc
          exact w_M_isWhole_88 hfl K (fun x2 x3 x4 x5 x6 x7 z => B_M_isWhole_55 post n x2 x3 x4 x5 x6 x7 z) (fun x2 x3 x4 x5 x6 x7 z H locs ls hh hll hww => ih x2 x3 x4 x5 x6 x7 z H locs ls hh hll hww) x2 x3 x4 x5 x7 r1 M2 _ _ _ h (lv_sub hl [1, 2, 3, 4, 5, 7, 0] rfl) hw
    · have h := h.2 hc
      refine lv_aload_n hx hb d_M_isWhole_193 rfl (lv_at hl 0 rfl) ?_
      refine lv_iload hx hb d_M_isWhole_194 (lv_at hl 4 rfl) ?_
      refine nf_if_eq hx hb d_M_isWhole_196 (tgt := 203) (by decide) (fun hc => ?_) (fun hc => ?_)
      · have h := h.1 hc
        refine lv_iconst (v := (0 : Int32)) hx hb d_M_isWhole_203 (by decide) ?_
        exact w_M_isWhole_204 hfl K x4 x6 (0 : Int32) M _ _ _ h (lv_sub hl [3, 5] rfl) hw
      · have h := h.2 hc
        refine lv_iload_n hx hb d_M_isWhole_199 rfl (lv_at hl 2 rfl) ?_
        refine lv_goto hx hb d_M_isWhole_200 (tgt := 204) (by decide) ?_
        exact w_M_isWhole_204 hfl K x4 x6 x3 M _ _ _ h (lv_sub hl [3, 5] rfl) hw
theorem w_M_isWhole_50 {post : Int32 → nf_M → Prop} (hfl : l.flags = flags0) (K : nf_K p s m args meth c "NumberForgeModel" nb_M_isWhole 9 (some FieldType.boolean) D a sz) : ∀ (x1 : Int32) (x2 : Int32) (x3 : Int32) (x4 : Int32) (x5 : Int32) (xy0 : Int32) (M : nf_M) (H : Heap) (locs : List Loc) (ls : Array Slot), B_M_isWhole_50 post x1 x2 x3 x4 x5 xy0 M → lv_has ls 9 [(0, .ref (a 19)), (1, .int x1), (2, .int x2), (3, .int x3), (4, .int x4), (5, .int x5)] → nf_W D a s sz H locs M → W p l e rm_M_isWhole s m args below meth c H locs 0 0 (nf_MQ below (nf_Q nf_jI D a post ex (nf_A a sz)) args s rm_M_isWhole.cells rm_M_isWhole.slots (nf_A a sz)) (F0 m 50 ls [.int xy0]) := by
  have hx := K.1
  have hb := K.2.1
  intro x1 x2 x3 x4 x5 xy0 M H locs ls h hl hw
  refine lv_istore (lv' := [(6, .int xy0), (0, .ref (a 19)), (1, .int x1), (2, .int x2), (3, .int x3), (4, .int x4), (5, .int x5)]) hx hb d_M_isWhole_50 hl (by decide) rfl (fun ls hl => ?_)
  refine lv_iload_n hx hb d_M_isWhole_52 rfl (lv_at hl 2 rfl) ?_
  refine lv_istore (lv' := [(7, .int x1), (6, .int xy0), (0, .ref (a 19)), (1, .int x1), (2, .int x2), (3, .int x3), (4, .int x4), (5, .int x5)]) hx hb d_M_isWhole_53 hl (by decide) rfl (fun ls hl => ?_)
  obtain ⟨n, h⟩ := h
  exact w_M_isWhole_55 hfl K n x2 x3 x4 x5 xy0 x1 M _ _ _ h (lv_sub hl [2, 4, 5, 6, 7, 1, 0] rfl) hw
theorem w_M_isWhole_49 {post : Int32 → nf_M → Prop} (hfl : l.flags = flags0) (K : nf_K p s m args meth c "NumberForgeModel" nb_M_isWhole 9 (some FieldType.boolean) D a sz) : ∀ (x1 : Int32) (x2 : Int32) (x3 : Int32) (x4 : Int32) (x5 : Int32) (M : nf_M) (H : Heap) (locs : List Loc) (ls : Array Slot), B_M_isWhole_49 post x1 x2 x3 x4 x5 M → lv_has ls 9 [(0, .ref (a 19)), (1, .int x1), (2, .int x2), (3, .int x3), (4, .int x4), (5, .int x5)] → nf_W D a s sz H locs M → W p l e rm_M_isWhole s m args below meth c H locs 0 0 (nf_MQ below (nf_Q nf_jI D a post ex (nf_A a sz)) args s rm_M_isWhole.cells rm_M_isWhole.slots (nf_A a sz)) (F0 m 49 ls []) := by
  have hx := K.1
  have hb := K.2.1
  intro x1 x2 x3 x4 x5 M H locs ls h hl hw
  refine lv_iconst (v := (0 : Int32)) hx hb d_M_isWhole_49 (by decide) ?_
  exact w_M_isWhole_50 hfl K x1 x2 x3 x4 x5 (0 : Int32) M _ _ _ h (lv_sub hl [0, 1, 2, 3, 4, 5] rfl) hw
theorem c_M_isWhole (l : Launch) (hfl : l.flags = flags0) (x1 : Int32) (x2 : Int32) : nf_C nf_jI l nm_M_isWhole nb_M_isWhole 9 (some FieldType.boolean) rm_M_isWhole (fun a => [.ref (a 19), .int x1, .int x2]) (fun M post ex => P_M_isWhole x1 x2 M post) := by
  refine nf_start (plainFor_of_name (by decide +kernel)) (fun a => Nat.le_of_ble_eq_true rfl) ?_
  intro D a sz M post ex p e s m below meth c ls h K hl hw
  have hx := K.1
  have hb := K.2.1
  have hl : lv_has ls 9 [(0, .ref (a 19)), (1, .int x1), (2, .int x2)] := hl
  refine lv_aload_n hx hb d_M_isWhole_0 rfl (lv_at hl 0 rfl) ?_
  refine lv_iconst (v := (0 : Int32)) hx hb d_M_isWhole_1 (by decide) ?_
  refine nf_put (M' := ms_I M 19 17 (0 : Int32)) K hw 19 7 17 nw_948 rfl rfl rfl ni_M ny_M nq_M nn_M (by decide) rfl rfl rfl rfl (Nat.le_of_ble_eq_true rfl) d_M_isWhole_2 (fun H locs hw => ?_)
  obtain ⟨M1, eM1⟩ : ∃ z, z = ms_I M 19 17 (0 : Int32) := ⟨_, rfl⟩
  rw [← eM1] at hw
  have h := h M1 eM1
  refine lv_aload_n hx hb d_M_isWhole_5 rfl (lv_at hl 0 rfl) ?_
  refine lv_iconst (v := (0 : Int32)) hx hb d_M_isWhole_6 (by decide) ?_
  refine nf_put (M' := ms_I M1 19 18 (0 : Int32)) K hw 19 7 18 nw_949 rfl rfl rfl ni_M ny_M nq_M nn_M (by decide) rfl rfl rfl rfl (Nat.le_of_ble_eq_true rfl) d_M_isWhole_7 (fun H locs hw => ?_)
  obtain ⟨M2, eM2⟩ : ∃ z, z = ms_I M1 19 18 (0 : Int32) := ⟨_, rfl⟩
  rw [← eM2] at hw
  have h := h M2 eM2
  refine lv_iconst (v := (0 : Int32)) hx hb d_M_isWhole_10 (by decide) ?_
  refine lv_istore_n (lv' := [(3, .int (0 : Int32)), (0, .ref (a 19)), (1, .int x1), (2, .int x2)]) hx hb d_M_isWhole_11 rfl hl (by decide) rfl (fun ls hl => ?_)
  refine lv_iconst (v := (0 : Int32)) hx hb d_M_isWhole_12 (by decide) ?_
  refine lv_istore (lv' := [(4, .int (0 : Int32)), (3, .int (0 : Int32)), (0, .ref (a 19)), (1, .int x1), (2, .int x2)]) hx hb d_M_isWhole_13 hl (by decide) rfl (fun ls hl => ?_)
  refine lv_iconst (v := (0 : Int32)) hx hb d_M_isWhole_15 (by decide) ?_
  refine lv_istore (lv' := [(5, .int (0 : Int32)), (4, .int (0 : Int32)), (3, .int (0 : Int32)), (0, .ref (a 19)), (1, .int x1), (2, .int x2)]) hx hb d_M_isWhole_16 hl (by decide) rfl (fun ls hl => ?_)
  refine lv_iload_n hx hb d_M_isWhole_18 rfl (lv_at hl 4 rfl) ?_
  refine lv_iload_n hx hb d_M_isWhole_19 rfl (lv_at hl 5 rfl) ?_
  refine nf_ic_ge hx hb d_M_isWhole_20 (tgt := 49) (by decide) (fun hc => ?_) (fun hc => ?_)
  · have h := h.1 hc
    refine lv_aload_n hx hb d_M_isWhole_23 rfl (lv_at hl 3 rfl) ?_
    refine lv_iload_n hx hb d_M_isWhole_24 rfl (lv_at hl 4 rfl) ?_
    refine nf_callW (ex := (fun _ _ => False)) (As := [.ref (a 19), .int x1]) (st0 := [.int x1, .ref (a 19)]) (rest := []) K hw (nf_invV hx hb K.2.2.2.1 (nf_Kg K nw_1234) (nf_Kg K nw_1236) (nf_Kg K nx_M_look) (nf_Kg K nw_1237) ⟨by decide, by decide⟩ (nf_rcv K hw 19 7 rfl rfl) rfl nl_M_look rfl d_M_isWhole_25) (c_M_look l hfl x1) nw_1237 nw_9 rfl ⟨by decide, by decide⟩ (Nat.le_of_ble_eq_true rfl) hl.1 ⟨Nat.le_of_ble_eq_true rfl, Nat.le_of_ble_eq_true rfl⟩ h (fun _ _ h => h.elim) (fun r3 M4 H locs h hw => ?_)
    refine W.eq (g2 := F0 m 28 ls [.int r3]) rfl ?_
    refine lv_bipush (v := (44 : Int32)) hx hb d_M_isWhole_28 (by decide) ?_
    refine nf_ic_eq hx hb d_M_isWhole_30 (tgt := 49) (by decide) (fun hc => ?_) (fun hc => ?_)
    · have h := h.1 hc
      exact w_M_isWhole_49 hfl K x1 x2 (0 : Int32) (0 : Int32) (0 : Int32) M4 _ _ _ h (lv_sub hl [3, 4, 5, 2, 1, 0] rfl) hw
    · have h := h.2 hc
      refine lv_aload_n hx hb d_M_isWhole_33 rfl (lv_at hl 3 rfl) ?_
      refine lv_iload_n hx hb d_M_isWhole_34 rfl (lv_at hl 5 rfl) ?_
      refine lv_iconst (v := (1 : Int32)) hx hb d_M_isWhole_35 (by decide) ?_
      refine lv_isub hx hb d_M_isWhole_36 ?_
      refine nf_callW (ex := (fun _ _ => False)) (As := [.ref (a 19), .int (x2 - (1 : Int32))]) (st0 := [.int (x2 - (1 : Int32)), .ref (a 19)]) (rest := []) K hw (nf_invV hx hb K.2.2.2.1 (nf_Kg K nw_1234) (nf_Kg K nw_1236) (nf_Kg K nx_M_look) (nf_Kg K nw_1237) ⟨by decide, by decide⟩ (nf_rcv K hw 19 7 rfl rfl) rfl nl_M_look rfl d_M_isWhole_37) (c_M_look l hfl (x2 - (1 : Int32))) nw_1237 nw_9 rfl ⟨by decide, by decide⟩ (Nat.le_of_ble_eq_true rfl) hl.1 ⟨Nat.le_of_ble_eq_true rfl, Nat.le_of_ble_eq_true rfl⟩ h (fun _ _ h => h.elim) (fun r5 M6 H locs h hw => ?_)
      refine W.eq (g2 := F0 m 40 ls [.int r5]) rfl ?_
      refine lv_bipush (v := (44 : Int32)) hx hb d_M_isWhole_40 (by decide) ?_
      refine nf_ic_eq hx hb d_M_isWhole_42 (tgt := 49) (by decide) (fun hc => ?_) (fun hc => ?_)
      · have h := h.1 hc
        exact w_M_isWhole_49 hfl K x1 x2 (0 : Int32) (0 : Int32) (0 : Int32) M6 _ _ _ h (lv_sub hl [3, 4, 5, 2, 1, 0] rfl) hw
      · have h := h.2 hc
        refine lv_iconst (v := (1 : Int32)) hx hb d_M_isWhole_45 (by decide) ?_
        refine lv_goto hx hb d_M_isWhole_46 (tgt := 50) (by decide) ?_
        exact w_M_isWhole_50 hfl K x1 x2 (0 : Int32) (0 : Int32) (0 : Int32) (1 : Int32) M6 _ _ _ h (lv_sub hl [3, 4, 5, 2, 1, 0] rfl) hw
  · have h := h.2 hc
    exact w_M_isWhole_49 hfl K x1 x2 (0 : Int32) (0 : Int32) (0 : Int32) M2 _ _ _ h (lv_sub hl [3, 4, 5, 2, 1, 0] rfl) hw
theorem d_M_roundTo_0 : decode nb_M_roundTo 0 = .ok (.iload_n 1, 1) := by decide +kernel
theorem d_M_roundTo_1 : decode nb_M_roundTo 1 = .ok (.aload_n 0, 1) := by decide +kernel
theorem d_M_roundTo_2 : decode nb_M_roundTo 2 = .ok (.getfield 78, 3) := by decide +kernel
theorem d_M_roundTo_5 : decode nb_M_roundTo 5 = .ok (.if_icmp .lt 4, 3) := by decide +kernel
theorem d_M_roundTo_8 : decode nb_M_roundTo 8 = .ok (.return_, 1) := by decide +kernel
theorem d_M_roundTo_9 : decode nb_M_roundTo 9 = .ok (.aload_n 0, 1) := by decide +kernel
theorem d_M_roundTo_10 : decode nb_M_roundTo 10 = .ok (.getfield 78, 3) := by decide +kernel
theorem d_M_roundTo_13 : decode nb_M_roundTo 13 = .ok (.iload_n 1, 1) := by decide +kernel
theorem d_M_roundTo_14 : decode nb_M_roundTo 14 = .ok (.isub, 1) := by decide +kernel
theorem d_M_roundTo_15 : decode nb_M_roundTo 15 = .ok (.invokestatic 42, 3) := by decide +kernel
theorem d_M_roundTo_18 : decode nb_M_roundTo 18 = .ok (.lstore_n 2, 1) := by decide +kernel
theorem d_M_roundTo_19 : decode nb_M_roundTo 19 = .ok (.aload_n 0, 1) := by decide +kernel
theorem d_M_roundTo_20 : decode nb_M_roundTo 20 = .ok (.getfield 74, 3) := by decide +kernel
theorem d_M_roundTo_23 : decode nb_M_roundTo 23 = .ok (.invokestatic 81, 3) := by decide +kernel
theorem d_M_roundTo_26 : decode nb_M_roundTo 26 = .ok (.lstore 4, 2) := by decide +kernel
theorem d_M_roundTo_28 : decode nb_M_roundTo 28 = .ok (.lload 4, 2) := by decide +kernel
theorem d_M_roundTo_30 : decode nb_M_roundTo 30 = .ok (.lload_n 2, 1) := by decide +kernel
theorem d_M_roundTo_31 : decode nb_M_roundTo 31 = .ok (.lrem, 1) := by decide +kernel
theorem d_M_roundTo_32 : decode nb_M_roundTo 32 = .ok (.lstore 6, 2) := by decide +kernel
theorem d_M_roundTo_34 : decode nb_M_roundTo 34 = .ok (.lload 4, 2) := by decide +kernel
theorem d_M_roundTo_36 : decode nb_M_roundTo 36 = .ok (.lload_n 2, 1) := by decide +kernel
theorem d_M_roundTo_37 : decode nb_M_roundTo 37 = .ok (.ldiv, 1) := by decide +kernel
theorem d_M_roundTo_38 : decode nb_M_roundTo 38 = .ok (.lstore 8, 2) := by decide +kernel
theorem d_M_roundTo_40 : decode nb_M_roundTo 40 = .ok (.ldc2_w 219, 3) := by decide +kernel
theorem d_M_roundTo_43 : decode nb_M_roundTo 43 = .ok (.lload 6, 2) := by decide +kernel
theorem d_M_roundTo_45 : decode nb_M_roundTo 45 = .ok (.lmul, 1) := by decide +kernel
theorem d_M_roundTo_46 : decode nb_M_roundTo 46 = .ok (.lload_n 2, 1) := by decide +kernel
theorem d_M_roundTo_47 : decode nb_M_roundTo 47 = .ok (.lcmp, 1) := by decide +kernel
theorem d_M_roundTo_48 : decode nb_M_roundTo 48 = .ok (.ifCond .gt 25, 3) := by decide +kernel
theorem d_M_roundTo_51 : decode nb_M_roundTo 51 = .ok (.ldc2_w 219, 3) := by decide +kernel
theorem d_M_roundTo_54 : decode nb_M_roundTo 54 = .ok (.lload 6, 2) := by decide +kernel
theorem d_M_roundTo_56 : decode nb_M_roundTo 56 = .ok (.lmul, 1) := by decide +kernel
theorem d_M_roundTo_57 : decode nb_M_roundTo 57 = .ok (.lload_n 2, 1) := by decide +kernel
theorem d_M_roundTo_58 : decode nb_M_roundTo 58 = .ok (.lcmp, 1) := by decide +kernel
theorem d_M_roundTo_59 : decode nb_M_roundTo 59 = .ok (.ifCond .ne 21, 3) := by decide +kernel
theorem d_M_roundTo_62 : decode nb_M_roundTo 62 = .ok (.lload 8, 2) := by decide +kernel
theorem d_M_roundTo_64 : decode nb_M_roundTo 64 = .ok (.ldc2_w 219, 3) := by decide +kernel
theorem d_M_roundTo_67 : decode nb_M_roundTo 67 = .ok (.lrem, 1) := by decide +kernel
theorem d_M_roundTo_68 : decode nb_M_roundTo 68 = .ok (.lconst 0, 1) := by decide +kernel
theorem d_M_roundTo_69 : decode nb_M_roundTo 69 = .ok (.lcmp, 1) := by decide +kernel
theorem d_M_roundTo_70 : decode nb_M_roundTo 70 = .ok (.ifCond .eq 10, 3) := by decide +kernel
theorem d_M_roundTo_73 : decode nb_M_roundTo 73 = .ok (.lload 8, 2) := by decide +kernel
theorem d_M_roundTo_75 : decode nb_M_roundTo 75 = .ok (.lconst 1, 1) := by decide +kernel
theorem d_M_roundTo_76 : decode nb_M_roundTo 76 = .ok (.ladd, 1) := by decide +kernel
theorem d_M_roundTo_77 : decode nb_M_roundTo 77 = .ok (.goto 5, 3) := by decide +kernel
theorem d_M_roundTo_80 : decode nb_M_roundTo 80 = .ok (.lload 8, 2) := by decide +kernel
theorem d_M_roundTo_82 : decode nb_M_roundTo 82 = .ok (.lstore 8, 2) := by decide +kernel
theorem d_M_roundTo_84 : decode nb_M_roundTo 84 = .ok (.aload_n 0, 1) := by decide +kernel
theorem d_M_roundTo_85 : decode nb_M_roundTo 85 = .ok (.aload_n 0, 1) := by decide +kernel
theorem d_M_roundTo_86 : decode nb_M_roundTo 86 = .ok (.getfield 74, 3) := by decide +kernel
theorem d_M_roundTo_89 : decode nb_M_roundTo 89 = .ok (.lconst 0, 1) := by decide +kernel
theorem d_M_roundTo_90 : decode nb_M_roundTo 90 = .ok (.lcmp, 1) := by decide +kernel
theorem d_M_roundTo_91 : decode nb_M_roundTo 91 = .ok (.ifCond .ge 9, 3) := by decide +kernel
theorem d_M_roundTo_94 : decode nb_M_roundTo 94 = .ok (.lload 8, 2) := by decide +kernel
theorem d_M_roundTo_96 : decode nb_M_roundTo 96 = .ok (.lneg, 1) := by decide +kernel
theorem d_M_roundTo_97 : decode nb_M_roundTo 97 = .ok (.goto 5, 3) := by decide +kernel
theorem d_M_roundTo_100 : decode nb_M_roundTo 100 = .ok (.lload 8, 2) := by decide +kernel
theorem d_M_roundTo_102 : decode nb_M_roundTo 102 = .ok (.putfield 74, 3) := by decide +kernel
theorem d_M_roundTo_105 : decode nb_M_roundTo 105 = .ok (.aload_n 0, 1) := by decide +kernel
theorem d_M_roundTo_106 : decode nb_M_roundTo 106 = .ok (.iload_n 1, 1) := by decide +kernel
theorem d_M_roundTo_107 : decode nb_M_roundTo 107 = .ok (.putfield 78, 3) := by decide +kernel
theorem d_M_roundTo_110 : decode nb_M_roundTo 110 = .ok (.return_, 1) := by decide +kernel
abbrev rm_M_roundTo : Room := ({ frames := 1, cells := 0, slots := 0, locals := 23 })
theorem w_M_roundTo_102 {post : Unit → nf_M → Prop} (hfl : l.flags = flags0) (K : nf_K p s m args meth c "NumberForgeModel" nb_M_roundTo 10 none D a sz) : ∀ (x1 : Int32) (xy0 : Int64) (M : nf_M) (H : Heap) (locs : List Loc) (ls : Array Slot), B_M_roundTo_102 post x1 xy0 M → lv_has ls 10 [(0, .ref (a 19)), (1, .int x1)] → nf_W D a s sz H locs M → W p l e rm_M_roundTo s m args below meth c H locs 0 0 (nf_MQ below (nf_Q nf_jN D a post ex (nf_A a sz)) args s rm_M_roundTo.cells rm_M_roundTo.slots (nf_A a sz)) (F0 m 102 ls [.long xy0, .ref (a 19)]) := by
  have hx := K.1
  have hb := K.2.1
  intro x1 xy0 M H locs ls h hl hw
  refine nf_put (M' := ms_L M 19 10 xy0) K hw 19 7 10 nw_941 rfl rfl rfl ni_M ny_M nq_M nn_M (by decide) rfl rfl rfl rfl (Nat.le_of_ble_eq_true rfl) d_M_roundTo_102 (fun H locs hw => ?_)
  obtain ⟨M1, eM1⟩ : ∃ z, z = ms_L M 19 10 xy0 := ⟨_, rfl⟩
  rw [← eM1] at hw
  have h := h M1 eM1
  refine lv_aload_n hx hb d_M_roundTo_105 rfl (lv_at hl 0 rfl) ?_
  refine lv_iload_n hx hb d_M_roundTo_106 rfl (lv_at hl 1 rfl) ?_
  refine nf_put (M' := ms_I M1 19 11 x1) K hw 19 7 11 nw_942 rfl rfl rfl ni_M ny_M nq_M nn_M (by decide) rfl rfl rfl rfl (Nat.le_of_ble_eq_true rfl) d_M_roundTo_107 (fun H locs hw => ?_)
  obtain ⟨M2, eM2⟩ : ∃ z, z = ms_I M1 19 11 x1 := ⟨_, rfl⟩
  rw [← eM2] at hw
  have h := h M2 eM2
  exact nf_vret K hw d_M_roundTo_110 (Nat.le_of_ble_eq_true rfl) (Nat.le_of_ble_eq_true rfl) (r := ()) rfl h
theorem w_M_roundTo_82 {post : Unit → nf_M → Prop} (hfl : l.flags = flags0) (K : nf_K p s m args meth c "NumberForgeModel" nb_M_roundTo 10 none D a sz) : ∀ (x1 : Int32) (xy0 : Int64) (M : nf_M) (H : Heap) (locs : List Loc) (ls : Array Slot), B_M_roundTo_82 post x1 xy0 M → lv_has ls 10 [(0, .ref (a 19)), (1, .int x1)] → nf_W D a s sz H locs M → W p l e rm_M_roundTo s m args below meth c H locs 0 0 (nf_MQ below (nf_Q nf_jN D a post ex (nf_A a sz)) args s rm_M_roundTo.cells rm_M_roundTo.slots (nf_A a sz)) (F0 m 82 ls [.long xy0]) := by
  have hx := K.1
  have hb := K.2.1
  intro x1 xy0 M H locs ls h hl hw
  refine lv_lstore (lv' := [(8, .long xy0), (0, .ref (a 19)), (1, .int x1)]) hx hb d_M_roundTo_82 hl (by decide) rfl (fun ls hl => ?_)
  refine lv_aload_n hx hb d_M_roundTo_84 rfl (lv_at hl 1 rfl) ?_
  refine lv_aload_n hx hb d_M_roundTo_85 rfl (lv_at hl 1 rfl) ?_
  refine nf_get (v := .long (mg_L M 19 10)) K hw 19 7 10 nw_941 rfl rfl ni_M (by decide) rfl rfl d_M_roundTo_86 ?_
  refine lv_lconst (v := (0 : Int64)) hx hb d_M_roundTo_89 (by decide) ?_
  refine nf_lc_ge hx hb d_M_roundTo_90 d_M_roundTo_91 (tgt := 100) (by decide) (fun hc => ?_) (fun hc => ?_)
  · have h := h.1 hc
    refine lv_lload hx hb d_M_roundTo_94 (lv_at hl 0 rfl) ?_
    refine lv_lneg hx hb d_M_roundTo_96 ?_
    refine lv_goto hx hb d_M_roundTo_97 (tgt := 102) (by decide) ?_
    exact w_M_roundTo_102 hfl K x1 (-xy0) M _ _ _ h (lv_sub hl [1, 2] rfl) hw
  · have h := h.2 hc
    refine lv_lload hx hb d_M_roundTo_100 (lv_at hl 0 rfl) ?_
    exact w_M_roundTo_102 hfl K x1 xy0 M _ _ _ h (lv_sub hl [1, 2] rfl) hw
theorem w_M_roundTo_73 {post : Unit → nf_M → Prop} (hfl : l.flags = flags0) (K : nf_K p s m args meth c "NumberForgeModel" nb_M_roundTo 10 none D a sz) : ∀ (x1 : Int32) (x8 : Int64) (M : nf_M) (H : Heap) (locs : List Loc) (ls : Array Slot), B_M_roundTo_73 post x1 x8 M → lv_has ls 10 [(0, .ref (a 19)), (1, .int x1), (8, .long x8)] → nf_W D a s sz H locs M → W p l e rm_M_roundTo s m args below meth c H locs 0 0 (nf_MQ below (nf_Q nf_jN D a post ex (nf_A a sz)) args s rm_M_roundTo.cells rm_M_roundTo.slots (nf_A a sz)) (F0 m 73 ls []) := by
  have hx := K.1
  have hb := K.2.1
  intro x1 x8 M H locs ls h hl hw
  refine lv_lload hx hb d_M_roundTo_73 (lv_at hl 2 rfl) ?_
  refine lv_lconst (v := (1 : Int64)) hx hb d_M_roundTo_75 (by decide) ?_
  refine lv_ladd hx hb d_M_roundTo_76 ?_
  refine lv_goto hx hb d_M_roundTo_77 (tgt := 82) (by decide) ?_
  exact w_M_roundTo_82 hfl K x1 (x8 + (1 : Int64)) M _ _ _ h (lv_sub hl [0, 1] rfl) hw
theorem w_M_roundTo_80 {post : Unit → nf_M → Prop} (hfl : l.flags = flags0) (K : nf_K p s m args meth c "NumberForgeModel" nb_M_roundTo 10 none D a sz) : ∀ (x1 : Int32) (x8 : Int64) (M : nf_M) (H : Heap) (locs : List Loc) (ls : Array Slot), B_M_roundTo_80 post x1 x8 M → lv_has ls 10 [(0, .ref (a 19)), (1, .int x1), (8, .long x8)] → nf_W D a s sz H locs M → W p l e rm_M_roundTo s m args below meth c H locs 0 0 (nf_MQ below (nf_Q nf_jN D a post ex (nf_A a sz)) args s rm_M_roundTo.cells rm_M_roundTo.slots (nf_A a sz)) (F0 m 80 ls []) := by
  have hx := K.1
  have hb := K.2.1
  intro x1 x8 M H locs ls h hl hw
  refine lv_lload hx hb d_M_roundTo_80 (lv_at hl 2 rfl) ?_
  exact w_M_roundTo_82 hfl K x1 x8 M _ _ _ h (lv_sub hl [0, 1] rfl) hw
theorem c_M_roundTo (l : Launch) (hfl : l.flags = flags0) (x1 : Int32) : nf_C nf_jN l nm_M_roundTo nb_M_roundTo 10 none rm_M_roundTo (fun a => [.ref (a 19), .int x1]) (fun M post ex => P_M_roundTo x1 M post) := by
  refine nf_start (plainFor_of_name (by decide +kernel)) (fun a => Nat.le_of_ble_eq_true rfl) ?_
  intro D a sz M post ex p e s m below meth c ls h K hl hw
  have hx := K.1
  have hb := K.2.1
  have hl : lv_has ls 10 [(0, .ref (a 19)), (1, .int x1)] := hl
  refine lv_iload_n hx hb d_M_roundTo_0 rfl (lv_at hl 1 rfl) ?_
  refine lv_aload_n hx hb d_M_roundTo_1 rfl (lv_at hl 0 rfl) ?_
  refine nf_get (v := .int (mg_I M 19 11)) K hw 19 7 11 nw_942 rfl rfl ni_M (by decide) rfl rfl d_M_roundTo_2 ?_
  refine nf_ic_lt hx hb d_M_roundTo_5 (tgt := 9) (by decide) (fun hc => ?_) (fun hc => ?_)
  · have h := h.1 hc
    refine lv_aload_n hx hb d_M_roundTo_9 rfl (lv_at hl 0 rfl) ?_
    refine nf_get (v := .int (mg_I M 19 11)) K hw 19 7 11 nw_942 rfl rfl ni_M (by decide) rfl rfl d_M_roundTo_10 ?_
    refine lv_iload_n hx hb d_M_roundTo_13 rfl (lv_at hl 1 rfl) ?_
    refine lv_isub hx hb d_M_roundTo_14 ?_
    refine nf_callW (ex := (fun _ _ => False)) (As := [.int ((mg_I M 19 11) - x1)]) (st0 := [.int ((mg_I M 19 11) - x1)]) (rest := []) K hw (nf_invS hx hb K.2.2.2.1 (nf_Kg K nw_1066) (nf_Kg K nw_1067) (nf_Kg K nw_9) (nf_Kg K nw_1068) ⟨by decide, by decide⟩ rfl nl_M_power rfl d_M_roundTo_15) (c_M_power l hfl ((mg_I M 19 11) - x1)) nw_1068 nw_9 rfl ⟨by decide, by decide⟩ (Nat.le_of_ble_eq_true rfl) hl.1 ⟨Nat.le_of_ble_eq_true rfl, Nat.le_of_ble_eq_true rfl⟩ h (fun _ _ h => h.elim) (fun r1 M2 H locs h hw => ?_)
    refine W.eq (g2 := F0 m 18 ls [.long r1]) rfl ?_
    refine lv_lstore_n (lv' := [(2, .long r1), (0, .ref (a 19)), (1, .int x1)]) hx hb d_M_roundTo_18 rfl hl (by decide) rfl (fun ls hl => ?_)
    refine lv_aload_n hx hb d_M_roundTo_19 rfl (lv_at hl 1 rfl) ?_
    refine nf_get (v := .long (mg_L M2 19 10)) K hw 19 7 10 nw_941 rfl rfl ni_M (by decide) rfl rfl d_M_roundTo_20 ?_
    refine nf_callW (ex := (fun _ _ => False)) (As := [.long (mg_L M2 19 10)]) (st0 := [.long (mg_L M2 19 10)]) (rest := []) K hw (nf_invS hx hb K.2.2.2.1 (nf_Kg K nw_1124) (nf_Kg K nw_1125) (nf_Kg K nw_9) (nf_Kg K nw_1126) ⟨by decide, by decide⟩ rfl nl_M_amount rfl d_M_roundTo_23) (c_M_amount l hfl (mg_L M2 19 10)) nw_1126 nw_9 rfl ⟨by decide, by decide⟩ (Nat.le_of_ble_eq_true rfl) hl.1 ⟨Nat.le_of_ble_eq_true rfl, Nat.le_of_ble_eq_true rfl⟩ h (fun _ _ h => h.elim) (fun r3 M4 H locs h hw => ?_)
    refine W.eq (g2 := F0 m 26 ls [.long r3]) rfl ?_
    refine lv_lstore (lv' := [(4, .long r3), (2, .long r1), (0, .ref (a 19)), (1, .int x1)]) hx hb d_M_roundTo_26 hl (by decide) rfl (fun ls hl => ?_)
    refine lv_lload hx hb d_M_roundTo_28 (lv_at hl 0 rfl) ?_
    refine lv_lload_n hx hb d_M_roundTo_30 rfl (lv_at hl 1 rfl) ?_
    obtain ⟨g5, h⟩ := h
    refine lv_lrem hx hb d_M_roundTo_31 g5 ?_
    refine lv_topl (fun t6 et6 => ?_)
    have h := h t6 et6
    refine lv_lstore (lv' := [(6, .long t6), (4, .long r3), (2, .long r1), (0, .ref (a 19)), (1, .int x1)]) hx hb d_M_roundTo_32 hl (by decide) rfl (fun ls hl => ?_)
    refine lv_lload hx hb d_M_roundTo_34 (lv_at hl 1 rfl) ?_
    refine lv_lload_n hx hb d_M_roundTo_36 rfl (lv_at hl 2 rfl) ?_
    obtain ⟨g7, h⟩ := h
    refine lv_ldiv hx hb d_M_roundTo_37 g7 ?_
    refine lv_topl (fun t8 et8 => ?_)
    have h := h t8 et8
    refine lv_lstore (lv' := [(8, .long t8), (6, .long t6), (4, .long r3), (2, .long r1), (0, .ref (a 19)), (1, .int x1)]) hx hb d_M_roundTo_38 hl (by decide) rfl (fun ls hl => ?_)
    refine lv_ldc2 (v := (2 : Int64)) hx hb K.2.2.2.1 (nf_Kg K nw_1156) d_M_roundTo_40 ?_
    refine lv_lload hx hb d_M_roundTo_43 (lv_at hl 1 rfl) ?_
    refine lv_lmul hx hb d_M_roundTo_45 ?_
    refine lv_lload_n hx hb d_M_roundTo_46 rfl (lv_at hl 3 rfl) ?_
    refine nf_lc_gt hx hb d_M_roundTo_47 d_M_roundTo_48 (tgt := 73) (by decide) (fun hc => ?_) (fun hc => ?_)
    · have h := h.1 hc
      exact w_M_roundTo_73 hfl K x1 t8 M4 _ _ _ h (lv_sub hl [4, 5, 0] rfl) hw
    · have h := h.2 hc
      refine lv_ldc2 (v := (2 : Int64)) hx hb K.2.2.2.1 (nf_Kg K nw_1156) d_M_roundTo_51 ?_
      refine lv_lload hx hb d_M_roundTo_54 (lv_at hl 1 rfl) ?_
      refine lv_lmul hx hb d_M_roundTo_56 ?_
      refine lv_lload_n hx hb d_M_roundTo_57 rfl (lv_at hl 3 rfl) ?_
      refine nf_lc_ne hx hb d_M_roundTo_58 d_M_roundTo_59 (tgt := 80) (by decide) (fun hc => ?_) (fun hc => ?_)
      · have h := h.1 hc
        refine lv_lload hx hb d_M_roundTo_62 (lv_at hl 0 rfl) ?_
        refine lv_ldc2 (v := (2 : Int64)) hx hb K.2.2.2.1 (nf_Kg K nw_1156) d_M_roundTo_64 ?_
        refine lv_lrem hx hb d_M_roundTo_67 (by decide) ?_
        refine lv_lconst (v := (0 : Int64)) hx hb d_M_roundTo_68 (by decide) ?_
        refine nf_lc_eq hx hb d_M_roundTo_69 d_M_roundTo_70 (tgt := 80) (by decide) (fun hc => ?_) (fun hc => ?_)
        · have h := h.1 hc
          exact w_M_roundTo_80 hfl K x1 t8 M4 _ _ _ h (lv_sub hl [4, 5, 0] rfl) hw
        · have h := h.2 hc
          exact w_M_roundTo_73 hfl K x1 t8 M4 _ _ _ h (lv_sub hl [4, 5, 0] rfl) hw
      · have h := h.2 hc
        exact w_M_roundTo_80 hfl K x1 t8 M4 _ _ _ h (lv_sub hl [4, 5, 0] rfl) hw
  · have h := h.2 hc
    exact nf_vret K hw d_M_roundTo_8 (Nat.le_of_ble_eq_true rfl) (Nat.le_of_ble_eq_true rfl) (r := ()) rfl h
theorem d_M_addWhole_0 : decode nb_M_addWhole 0 = .ok (.lload_n 1, 1) := by decide +kernel
theorem d_M_addWhole_1 : decode nb_M_addWhole 1 = .ok (.lconst 0, 1) := by decide +kernel
theorem d_M_addWhole_2 : decode nb_M_addWhole 2 = .ok (.lcmp, 1) := by decide +kernel
theorem d_M_addWhole_3 : decode nb_M_addWhole 3 = .ok (.ifCond .ne 7, 3) := by decide +kernel
theorem d_M_addWhole_6 : decode nb_M_addWhole 6 = .ok (.iconst 0, 1) := by decide +kernel
theorem d_M_addWhole_7 : decode nb_M_addWhole 7 = .ok (.goto 7, 3) := by decide +kernel
theorem d_M_addWhole_10 : decode nb_M_addWhole 10 = .ok (.lload_n 1, 1) := by decide +kernel
theorem d_M_addWhole_11 : decode nb_M_addWhole 11 = .ok (.invokestatic 258, 3) := by decide +kernel
theorem d_M_addWhole_14 : decode nb_M_addWhole 14 = .ok (.istore 5, 2) := by decide +kernel
theorem d_M_addWhole_16 : decode nb_M_addWhole 16 = .ok (.iload 5, 2) := by decide +kernel
theorem d_M_addWhole_18 : decode nb_M_addWhole 18 = .ok (.iload_n 3, 1) := by decide +kernel
theorem d_M_addWhole_19 : decode nb_M_addWhole 19 = .ok (.if_icmp .ge 7, 3) := by decide +kernel
theorem d_M_addWhole_22 : decode nb_M_addWhole 22 = .ok (.iload_n 3, 1) := by decide +kernel
theorem d_M_addWhole_23 : decode nb_M_addWhole 23 = .ok (.goto 5, 3) := by decide +kernel
theorem d_M_addWhole_26 : decode nb_M_addWhole 26 = .ok (.iload 5, 2) := by decide +kernel
theorem d_M_addWhole_28 : decode nb_M_addWhole 28 = .ok (.istore 5, 2) := by decide +kernel
theorem d_M_addWhole_30 : decode nb_M_addWhole 30 = .ok (.iload 5, 2) := by decide +kernel
theorem d_M_addWhole_32 : decode nb_M_addWhole 32 = .ok (.iconst 1, 1) := by decide +kernel
theorem d_M_addWhole_33 : decode nb_M_addWhole 33 = .ok (.isub, 1) := by decide +kernel
theorem d_M_addWhole_34 : decode nb_M_addWhole 34 = .ok (.istore 6, 2) := by decide +kernel
theorem d_M_addWhole_36 : decode nb_M_addWhole 36 = .ok (.iload 6, 2) := by decide +kernel
theorem d_M_addWhole_38 : decode nb_M_addWhole 38 = .ok (.ifCond .lt 63, 3) := by decide +kernel
theorem d_M_addWhole_41 : decode nb_M_addWhole 41 = .ok (.aload_n 0, 1) := by decide +kernel
theorem d_M_addWhole_42 : decode nb_M_addWhole 42 = .ok (.bipush 48, 2) := by decide +kernel
theorem d_M_addWhole_44 : decode nb_M_addWhole 44 = .ok (.iload 6, 2) := by decide +kernel
theorem d_M_addWhole_46 : decode nb_M_addWhole 46 = .ok (.bipush 17, 2) := by decide +kernel
theorem d_M_addWhole_48 : decode nb_M_addWhole 48 = .ok (.if_icmp .le 7, 3) := by decide +kernel
theorem d_M_addWhole_51 : decode nb_M_addWhole 51 = .ok (.iconst 0, 1) := by decide +kernel
theorem d_M_addWhole_52 : decode nb_M_addWhole 52 = .ok (.goto 15, 3) := by decide +kernel
theorem d_M_addWhole_55 : decode nb_M_addWhole 55 = .ok (.lload_n 1, 1) := by decide +kernel
theorem d_M_addWhole_56 : decode nb_M_addWhole 56 = .ok (.iload 6, 2) := by decide +kernel
theorem d_M_addWhole_58 : decode nb_M_addWhole 58 = .ok (.invokestatic 42, 3) := by decide +kernel
theorem d_M_addWhole_61 : decode nb_M_addWhole 61 = .ok (.ldiv, 1) := by decide +kernel
theorem d_M_addWhole_62 : decode nb_M_addWhole 62 = .ok (.ldc2_w 40, 3) := by decide +kernel
theorem d_M_addWhole_65 : decode nb_M_addWhole 65 = .ok (.lrem, 1) := by decide +kernel
theorem d_M_addWhole_66 : decode nb_M_addWhole 66 = .ok (.l2i, 1) := by decide +kernel
theorem d_M_addWhole_67 : decode nb_M_addWhole 67 = .ok (.iadd, 1) := by decide +kernel
theorem d_M_addWhole_68 : decode nb_M_addWhole 68 = .ok (.invokevirtual 252, 3) := by decide +kernel
theorem d_M_addWhole_71 : decode nb_M_addWhole 71 = .ok (.iload 4, 2) := by decide +kernel
theorem d_M_addWhole_73 : decode nb_M_addWhole 73 = .ok (.ifCond .le 22, 3) := by decide +kernel
theorem d_M_addWhole_76 : decode nb_M_addWhole 76 = .ok (.iload 6, 2) := by decide +kernel
theorem d_M_addWhole_78 : decode nb_M_addWhole 78 = .ok (.ifCond .le 17, 3) := by decide +kernel
theorem d_M_addWhole_81 : decode nb_M_addWhole 81 = .ok (.iload 6, 2) := by decide +kernel
theorem d_M_addWhole_83 : decode nb_M_addWhole 83 = .ok (.iload 4, 2) := by decide +kernel
theorem d_M_addWhole_85 : decode nb_M_addWhole 85 = .ok (.irem, 1) := by decide +kernel
theorem d_M_addWhole_86 : decode nb_M_addWhole 86 = .ok (.ifCond .ne 9, 3) := by decide +kernel
theorem d_M_addWhole_89 : decode nb_M_addWhole 89 = .ok (.aload_n 0, 1) := by decide +kernel
theorem d_M_addWhole_90 : decode nb_M_addWhole 90 = .ok (.bipush 44, 2) := by decide +kernel
theorem d_M_addWhole_92 : decode nb_M_addWhole 92 = .ok (.invokevirtual 252, 3) := by decide +kernel
theorem d_M_addWhole_95 : decode nb_M_addWhole 95 = .ok (.iinc 6 (-1), 3) := by decide +kernel
theorem d_M_addWhole_98 : decode nb_M_addWhole 98 = .ok (.goto (-62), 3) := by decide +kernel
theorem d_M_addWhole_101 : decode nb_M_addWhole 101 = .ok (.return_, 1) := by decide +kernel
abbrev rm_M_addWhole : Room := ({ frames := 2, cells := 0, slots := 0, locals := 46 })
theorem w_M_addWhole_95 {post : Unit → nf_M → Prop} (hfl : l.flags = flags0) (K : nf_K p s m args meth c "NumberForgeModel" nb_M_addWhole 7 none D a sz) (k36 : Int64 → Int32 → Int32 → nf_M → Prop) (hk36 : ∀ (x1 : Int64) (x4 : Int32) (x6 : Int32) (M : nf_M) (H : Heap) (locs : List Loc) (ls : Array Slot), k36 x1 x4 x6 M → lv_has ls 7 [(0, .ref (a 19)), (1, .long x1), (4, .int x4), (6, .int x6)] → nf_W D a s sz H locs M → W p l e rm_M_addWhole s m args below meth c H locs 0 0 (nf_MQ below (nf_Q nf_jN D a post ex (nf_A a sz)) args s rm_M_addWhole.cells rm_M_addWhole.slots (nf_A a sz)) (F0 m 36 ls [])) : ∀ (x1 : Int64) (x4 : Int32) (x6 : Int32) (M : nf_M) (H : Heap) (locs : List Loc) (ls : Array Slot), B_M_addWhole_95 k36 post x1 x4 x6 M → lv_has ls 7 [(0, .ref (a 19)), (1, .long x1), (4, .int x4), (6, .int x6)] → nf_W D a s sz H locs M → W p l e rm_M_addWhole s m args below meth c H locs 0 0 (nf_MQ below (nf_Q nf_jN D a post ex (nf_A a sz)) args s rm_M_addWhole.cells rm_M_addWhole.slots (nf_A a sz)) (F0 m 95 ls []) := by
  have hx := K.1
  have hb := K.2.1
  intro x1 x4 x6 M H locs ls h hl hw
  refine lv_iinc (k := 3) (v := x6 + (-1 : Int32)) (lv' := [(6, .int (x6 + (-1 : Int32))), (0, .ref (a 19)), (1, .long x1), (4, .int x4)]) hx hb d_M_addWhole_95 hl rfl (nf_inc (by decide)) (by decide) rfl (fun ls hl => ?_)
  refine lv_goto hx hb d_M_addWhole_98 (tgt := 36) (by decide) ?_
  exact hk36 x1 x4 (x6 + (-1 : Int32)) M _ _ _ h (lv_sub hl [1, 2, 3, 0] rfl) hw
theorem w_M_addWhole_67 {post : Unit → nf_M → Prop} (hfl : l.flags = flags0) (K : nf_K p s m args meth c "NumberForgeModel" nb_M_addWhole 7 none D a sz) (k36 : Int64 → Int32 → Int32 → nf_M → Prop) (hk36 : ∀ (x1 : Int64) (x4 : Int32) (x6 : Int32) (M : nf_M) (H : Heap) (locs : List Loc) (ls : Array Slot), k36 x1 x4 x6 M → lv_has ls 7 [(0, .ref (a 19)), (1, .long x1), (4, .int x4), (6, .int x6)] → nf_W D a s sz H locs M → W p l e rm_M_addWhole s m args below meth c H locs 0 0 (nf_MQ below (nf_Q nf_jN D a post ex (nf_A a sz)) args s rm_M_addWhole.cells rm_M_addWhole.slots (nf_A a sz)) (F0 m 36 ls [])) : ∀ (x1 : Int64) (x4 : Int32) (x6 : Int32) (xy0 : Int32) (xy1 : Int32) (M : nf_M) (H : Heap) (locs : List Loc) (ls : Array Slot), B_M_addWhole_67 k36 post x1 x4 x6 xy0 xy1 M → lv_has ls 7 [(0, .ref (a 19)), (1, .long x1), (4, .int x4), (6, .int x6)] → nf_W D a s sz H locs M → W p l e rm_M_addWhole s m args below meth c H locs 0 0 (nf_MQ below (nf_Q nf_jN D a post ex (nf_A a sz)) args s rm_M_addWhole.cells rm_M_addWhole.slots (nf_A a sz)) (F0 m 67 ls [.int xy0, .int xy1, .ref (a 19)]) := by
  have hx := K.1
  have hb := K.2.1
  intro x1 x4 x6 xy0 xy1 M H locs ls h hl hw
  refine lv_iadd hx hb d_M_addWhole_67 ?_
  refine nf_callW (ex := (fun _ _ => False)) (As := [.ref (a 19), .int (xy1 + xy0)]) (st0 := [.int (xy1 + xy0), .ref (a 19)]) (rest := []) K hw (nf_invV hx hb K.2.2.2.1 (nf_Kg K nw_1206) (nf_Kg K nw_1208) (nf_Kg K nx_M_add) (nf_Kg K nw_1209) ⟨by decide, by decide⟩ (nf_rcv K hw 19 7 rfl rfl) rfl nl_M_add rfl d_M_addWhole_68) (c_M_add l hfl (xy1 + xy0)) nw_1209 nw_9 rfl ⟨by decide, by decide⟩ (Nat.le_of_ble_eq_true rfl) hl.1 ⟨Nat.le_of_ble_eq_true rfl, Nat.le_of_ble_eq_true rfl⟩ h (fun _ _ h => h.elim) (fun r1 M2 H locs h hw => ?_)
  refine W.eq (g2 := F0 m 71 ls []) rfl ?_
  refine lv_iload hx hb d_M_addWhole_71 (lv_at hl 2 rfl) ?_
  refine nf_if_le hx hb d_M_addWhole_73 (tgt := 95) (by decide) (fun hc => ?_) (fun hc => ?_)
  · have h := h.1 hc
    refine lv_iload hx hb d_M_addWhole_76 (lv_at hl 3 rfl) ?_
    refine nf_if_le hx hb d_M_addWhole_78 (tgt := 95) (by decide) (fun hc => ?_) (fun hc => ?_)
    · have h := h.1 hc
      refine lv_iload hx hb d_M_addWhole_81 (lv_at hl 3 rfl) ?_
      refine lv_iload hx hb d_M_addWhole_83 (lv_at hl 2 rfl) ?_
      obtain ⟨g3, h⟩ := h
      refine lv_irem hx hb d_M_addWhole_85 g3 ?_
      refine nf_if_ne hx hb d_M_addWhole_86 (tgt := 95) (by decide) (fun hc => ?_) (fun hc => ?_)
      · have h := h.1 hc
        refine lv_aload_n hx hb d_M_addWhole_89 rfl (lv_at hl 0 rfl) ?_
        refine lv_bipush (v := (44 : Int32)) hx hb d_M_addWhole_90 (by decide) ?_
        refine nf_callW (ex := (fun _ _ => False)) (As := [.ref (a 19), .int (44 : Int32)]) (st0 := [.int (44 : Int32), .ref (a 19)]) (rest := []) K hw (nf_invV hx hb K.2.2.2.1 (nf_Kg K nw_1206) (nf_Kg K nw_1208) (nf_Kg K nx_M_add) (nf_Kg K nw_1209) ⟨by decide, by decide⟩ (nf_rcv K hw 19 7 rfl rfl) rfl nl_M_add rfl d_M_addWhole_92) (c_M_add l hfl (44 : Int32)) nw_1209 nw_9 rfl ⟨by decide, by decide⟩ (Nat.le_of_ble_eq_true rfl) hl.1 ⟨Nat.le_of_ble_eq_true rfl, Nat.le_of_ble_eq_true rfl⟩ h (fun _ _ h => h.elim) (fun r4 M5 H locs h hw => ?_)
        refine W.eq (g2 := F0 m 95 ls []) rfl ?_
        exact w_M_addWhole_95 hfl K k36 hk36 x1 x4 x6 M5 _ _ _ h (lv_sub hl [0, 1, 2, 3] rfl) hw
      · have h := h.2 hc
        exact w_M_addWhole_95 hfl K k36 hk36 x1 x4 x6 M2 _ _ _ h (lv_sub hl [0, 1, 2, 3] rfl) hw
    · have h := h.2 hc
      exact w_M_addWhole_95 hfl K k36 hk36 x1 x4 x6 M2 _ _ _ h (lv_sub hl [0, 1, 2, 3] rfl) hw
  · have h := h.2 hc
    exact w_M_addWhole_95 hfl K k36 hk36 x1 x4 x6 M2 _ _ _ h (lv_sub hl [0, 1, 2, 3] rfl) hw
theorem w_M_addWhole_36 {post : Unit → nf_M → Prop} (hfl : l.flags = flags0) (K : nf_K p s m args meth c "NumberForgeModel" nb_M_addWhole 7 none D a sz) : ∀ (n : Nat) (x1 : Int64) (x4 : Int32) (x6 : Int32) (M : nf_M) (H : Heap) (locs : List Loc) (ls : Array Slot), B_M_addWhole_36 post n x1 x4 x6 M → lv_has ls 7 [(0, .ref (a 19)), (1, .long x1), (4, .int x4), (6, .int x6)] → nf_W D a s sz H locs M → W p l e rm_M_addWhole s m args below meth c H locs 0 0 (nf_MQ below (nf_Q nf_jN D a post ex (nf_A a sz)) args s rm_M_addWhole.cells rm_M_addWhole.slots (nf_A a sz)) (F0 m 36 ls []) := by
  have hx := K.1
  have hb := K.2.1
  intro n
  induction n with
  | zero => intro x1 x4 x6 M H locs ls h hl hw; exact h.elim
  | succ n ih =>
    intro x1 x4 x6 M H locs ls h hl hw
    refine lv_iload hx hb d_M_addWhole_36 (lv_at hl 3 rfl) ?_
    refine nf_if_lt hx hb d_M_addWhole_38 (tgt := 101) (by decide) (fun hc => ?_) (fun hc => ?_)
    · have h := h.1 hc
      exact nf_vret K hw d_M_addWhole_101 (Nat.le_of_ble_eq_true rfl) (Nat.le_of_ble_eq_true rfl) (r := ()) rfl h
    · have h := h.2 hc
      refine lv_aload_n hx hb d_M_addWhole_41 rfl (lv_at hl 0 rfl) ?_
      refine lv_bipush (v := (48 : Int32)) hx hb d_M_addWhole_42 (by decide) ?_
      refine lv_iload hx hb d_M_addWhole_44 (lv_at hl 3 rfl) ?_
      refine lv_bipush (v := (17 : Int32)) hx hb d_M_addWhole_46 (by decide) ?_
      refine nf_ic_le hx hb d_M_addWhole_48 (tgt := 55) (by decide) (fun hc => ?_) (fun hc => ?_)
      · have h := h.1 hc
        refine lv_iconst (v := (0 : Int32)) hx hb d_M_addWhole_51 (by decide) ?_
        refine lv_goto hx hb d_M_addWhole_52 (tgt := 67) (by decide) ?_
        exact w_M_addWhole_67 hfl K (fun x1 x4 x6 z => B_M_addWhole_36 post n x1 x4 x6 z) (fun x1 x4 x6 z H locs ls hh hll hww => ih x1 x4 x6 z H locs ls hh hll hww) x1 x4 x6 (0 : Int32) (48 : Int32) M _ _ _ h (lv_sub hl [0, 1, 2, 3] rfl) hw
      · have h := h.2 hc
        refine lv_lload_n hx hb d_M_addWhole_55 rfl (lv_at hl 1 rfl) ?_
        refine lv_iload hx hb d_M_addWhole_56 (lv_at hl 3 rfl) ?_
        refine nf_callW (ex := (fun _ _ => False)) (As := [.int x6]) (st0 := [.int x6, .long x1, .int (48 : Int32), .ref (a 19)]) (rest := [.long x1, .int (48 : Int32), .ref (a 19)]) K hw (nf_invS hx hb K.2.2.2.1 (nf_Kg K nw_1066) (nf_Kg K nw_1067) (nf_Kg K nw_9) (nf_Kg K nw_1068) ⟨by decide, by decide⟩ rfl nl_M_power rfl d_M_addWhole_58) (c_M_power l hfl x6) nw_1068 nw_9 rfl ⟨by decide, by decide⟩ (Nat.le_of_ble_eq_true rfl) hl.1 ⟨Nat.le_of_ble_eq_true rfl, Nat.le_of_ble_eq_true rfl⟩ h (fun _ _ h => h.elim) (fun r1 M2 H locs h hw => ?_)
        refine W.eq (g2 := F0 m 61 ls [.long r1, .long x1, .int (48 : Int32), .ref (a 19)]) rfl ?_
        obtain ⟨g3, h⟩ := h
        refine lv_ldiv hx hb d_M_addWhole_61 g3 ?_
        refine lv_ldc2 (v := (10 : Int64)) hx hb K.2.2.2.1 (nf_Kg K nw_1038) d_M_addWhole_62 ?_
        refine lv_lrem hx hb d_M_addWhole_65 (by decide) ?_
        refine lv_l2i hx hb d_M_addWhole_66 rfl ?_
        exact w_M_addWhole_67 hfl K (fun x1 x4 x6 z => B_M_addWhole_36 post n x1 x4 x6 z) (fun x1 x4 x6 z H locs ls hh hll hww => ih x1 x4 x6 z H locs ls hh hll hww) x1 x4 x6 (((x1 / r1) - (x1 / r1) / (10 : Int64) * (10 : Int64)).toInt32) (48 : Int32) M2 _ _ _ h (lv_sub hl [0, 1, 2, 3] rfl) hw
theorem w_M_addWhole_28 {post : Unit → nf_M → Prop} (hfl : l.flags = flags0) (K : nf_K p s m args meth c "NumberForgeModel" nb_M_addWhole 7 none D a sz) : ∀ (x1 : Int64) (x4 : Int32) (xy0 : Int32) (M : nf_M) (H : Heap) (locs : List Loc) (ls : Array Slot), B_M_addWhole_28 post x1 x4 xy0 M → lv_has ls 7 [(0, .ref (a 19)), (1, .long x1), (4, .int x4)] → nf_W D a s sz H locs M → W p l e rm_M_addWhole s m args below meth c H locs 0 0 (nf_MQ below (nf_Q nf_jN D a post ex (nf_A a sz)) args s rm_M_addWhole.cells rm_M_addWhole.slots (nf_A a sz)) (F0 m 28 ls [.int xy0]) := by
  have hx := K.1
  have hb := K.2.1
  intro x1 x4 xy0 M H locs ls h hl hw
  refine lv_istore (lv' := [(5, .int xy0), (0, .ref (a 19)), (1, .long x1), (4, .int x4)]) hx hb d_M_addWhole_28 hl (by decide) rfl (fun ls hl => ?_)
  refine lv_iload hx hb d_M_addWhole_30 (lv_at hl 0 rfl) ?_
  refine lv_iconst (v := (1 : Int32)) hx hb d_M_addWhole_32 (by decide) ?_
  refine lv_isub hx hb d_M_addWhole_33 ?_
  refine lv_topi (fun t1 et1 => ?_)
  have h := h t1 et1
  refine lv_istore (lv' := [(6, .int t1), (5, .int xy0), (0, .ref (a 19)), (1, .long x1), (4, .int x4)]) hx hb d_M_addWhole_34 hl (by decide) rfl (fun ls hl => ?_)
  obtain ⟨n, h⟩ := h
  exact w_M_addWhole_36 hfl K n x1 x4 t1 M _ _ _ h (lv_sub hl [2, 3, 4, 0] rfl) hw
theorem w_M_addWhole_14 {post : Unit → nf_M → Prop} (hfl : l.flags = flags0) (K : nf_K p s m args meth c "NumberForgeModel" nb_M_addWhole 7 none D a sz) : ∀ (x1 : Int64) (x3 : Int32) (x4 : Int32) (xy0 : Int32) (M : nf_M) (H : Heap) (locs : List Loc) (ls : Array Slot), B_M_addWhole_14 post x1 x3 x4 xy0 M → lv_has ls 7 [(0, .ref (a 19)), (1, .long x1), (3, .int x3), (4, .int x4)] → nf_W D a s sz H locs M → W p l e rm_M_addWhole s m args below meth c H locs 0 0 (nf_MQ below (nf_Q nf_jN D a post ex (nf_A a sz)) args s rm_M_addWhole.cells rm_M_addWhole.slots (nf_A a sz)) (F0 m 14 ls [.int xy0]) := by
  have hx := K.1
  have hb := K.2.1
  intro x1 x3 x4 xy0 M H locs ls h hl hw
  refine lv_istore (lv' := [(5, .int xy0), (0, .ref (a 19)), (1, .long x1), (3, .int x3), (4, .int x4)]) hx hb d_M_addWhole_14 hl (by decide) rfl (fun ls hl => ?_)
  refine lv_iload hx hb d_M_addWhole_16 (lv_at hl 0 rfl) ?_
  refine lv_iload_n hx hb d_M_addWhole_18 rfl (lv_at hl 3 rfl) ?_
  refine nf_ic_ge hx hb d_M_addWhole_19 (tgt := 26) (by decide) (fun hc => ?_) (fun hc => ?_)
  · have h := h.1 hc
    refine lv_iload_n hx hb d_M_addWhole_22 rfl (lv_at hl 3 rfl) ?_
    refine lv_goto hx hb d_M_addWhole_23 (tgt := 28) (by decide) ?_
    exact w_M_addWhole_28 hfl K x1 x4 x3 M _ _ _ h (lv_sub hl [1, 2, 4] rfl) hw
  · have h := h.2 hc
    refine lv_iload hx hb d_M_addWhole_26 (lv_at hl 0 rfl) ?_
    exact w_M_addWhole_28 hfl K x1 x4 xy0 M _ _ _ h (lv_sub hl [1, 2, 4] rfl) hw
theorem c_M_addWhole (l : Launch) (hfl : l.flags = flags0) (x1 : Int64) (x3 : Int32) (x4 : Int32) : nf_C nf_jN l nm_M_addWhole nb_M_addWhole 7 none rm_M_addWhole (fun a => [.ref (a 19), .long x1, .int x3, .int x4]) (fun M post ex => P_M_addWhole x1 x3 x4 M post) := by
  refine nf_start (plainFor_of_name (by decide +kernel)) (fun a => Nat.le_of_ble_eq_true rfl) ?_
  intro D a sz M post ex p e s m below meth c ls h K hl hw
  have hx := K.1
  have hb := K.2.1
  have hl : lv_has ls 7 [(0, .ref (a 19)), (1, .long x1), (3, .int x3), (4, .int x4)] := hl
  refine lv_lload_n hx hb d_M_addWhole_0 rfl (lv_at hl 1 rfl) ?_
  refine lv_lconst (v := (0 : Int64)) hx hb d_M_addWhole_1 (by decide) ?_
  refine nf_lc_ne hx hb d_M_addWhole_2 d_M_addWhole_3 (tgt := 10) (by decide) (fun hc => ?_) (fun hc => ?_)
  · have h := h.1 hc
    refine lv_iconst (v := (0 : Int32)) hx hb d_M_addWhole_6 (by decide) ?_
    refine lv_goto hx hb d_M_addWhole_7 (tgt := 14) (by decide) ?_
    exact w_M_addWhole_14 hfl K x1 x3 x4 (0 : Int32) M _ _ _ h (lv_sub hl [0, 1, 2, 3] rfl) hw
  · have h := h.2 hc
    refine lv_lload_n hx hb d_M_addWhole_10 rfl (lv_at hl 1 rfl) ?_
    refine nf_callW (ex := (fun _ _ => False)) (As := [.long x1]) (st0 := [.long x1]) (rest := []) K hw (nf_invS hx hb K.2.2.2.1 (nf_Kg K nw_1223) (nf_Kg K nw_1224) (nf_Kg K nw_9) (nf_Kg K nw_1225) ⟨by decide, by decide⟩ rfl nl_M_width rfl d_M_addWhole_11) (c_M_width l hfl x1) nw_1225 nw_9 rfl ⟨by decide, by decide⟩ (Nat.le_of_ble_eq_true rfl) hl.1 ⟨Nat.le_of_ble_eq_true rfl, Nat.le_of_ble_eq_true rfl⟩ h (fun _ _ h => h.elim) (fun r1 M2 H locs h hw => ?_)
    refine W.eq (g2 := F0 m 14 ls [.int r1]) rfl ?_
    exact w_M_addWhole_14 hfl K x1 x3 x4 r1 M2 _ _ _ h (lv_sub hl [0, 1, 2, 3] rfl) hw
theorem d_M_draw_0 : decode nb_M_draw 0 = .ok (.iload_n 3, 1) := by decide +kernel
theorem d_M_draw_1 : decode nb_M_draw 1 = .ok (.iload_n 2, 1) := by decide +kernel
theorem d_M_draw_2 : decode nb_M_draw 2 = .ok (.if_icmp .le 11, 3) := by decide +kernel
theorem d_M_draw_5 : decode nb_M_draw 5 = .ok (.iload_n 3, 1) := by decide +kernel
theorem d_M_draw_6 : decode nb_M_draw 6 = .ok (.iload_n 2, 1) := by decide +kernel
theorem d_M_draw_7 : decode nb_M_draw 7 = .ok (.isub, 1) := by decide +kernel
theorem d_M_draw_8 : decode nb_M_draw 8 = .ok (.iconst 1, 1) := by decide +kernel
theorem d_M_draw_9 : decode nb_M_draw 9 = .ok (.isub, 1) := by decide +kernel
theorem d_M_draw_10 : decode nb_M_draw 10 = .ok (.goto 4, 3) := by decide +kernel
theorem d_M_draw_13 : decode nb_M_draw 13 = .ok (.iconst 0, 1) := by decide +kernel
theorem d_M_draw_14 : decode nb_M_draw 14 = .ok (.istore 5, 2) := by decide +kernel
theorem d_M_draw_16 : decode nb_M_draw 16 = .ok (.aload_n 0, 1) := by decide +kernel
theorem d_M_draw_17 : decode nb_M_draw 17 = .ok (.getfield 74, 3) := by decide +kernel
theorem d_M_draw_20 : decode nb_M_draw 20 = .ok (.invokestatic 81, 3) := by decide +kernel
theorem d_M_draw_23 : decode nb_M_draw 23 = .ok (.lstore 6, 2) := by decide +kernel
theorem d_M_draw_25 : decode nb_M_draw 25 = .ok (.lload 6, 2) := by decide +kernel
theorem d_M_draw_27 : decode nb_M_draw 27 = .ok (.aload_n 0, 1) := by decide +kernel
theorem d_M_draw_28 : decode nb_M_draw 28 = .ok (.getfield 78, 3) := by decide +kernel
theorem d_M_draw_31 : decode nb_M_draw 31 = .ok (.invokestatic 42, 3) := by decide +kernel
theorem d_M_draw_34 : decode nb_M_draw 34 = .ok (.lrem, 1) := by decide +kernel
theorem d_M_draw_35 : decode nb_M_draw 35 = .ok (.lstore 8, 2) := by decide +kernel
theorem d_M_draw_37 : decode nb_M_draw 37 = .ok (.aload_n 0, 1) := by decide +kernel
theorem d_M_draw_38 : decode nb_M_draw 38 = .ok (.getfield 78, 3) := by decide +kernel
theorem d_M_draw_41 : decode nb_M_draw 41 = .ok (.istore 10, 2) := by decide +kernel
theorem d_M_draw_43 : decode nb_M_draw 43 = .ok (.iload 10, 2) := by decide +kernel
theorem d_M_draw_45 : decode nb_M_draw 45 = .ok (.ifCond .le 28, 3) := by decide +kernel
theorem d_M_draw_48 : decode nb_M_draw 48 = .ok (.lload 8, 2) := by decide +kernel
theorem d_M_draw_50 : decode nb_M_draw 50 = .ok (.ldc2_w 40, 3) := by decide +kernel
theorem d_M_draw_53 : decode nb_M_draw 53 = .ok (.lrem, 1) := by decide +kernel
theorem d_M_draw_54 : decode nb_M_draw 54 = .ok (.lconst 0, 1) := by decide +kernel
theorem d_M_draw_55 : decode nb_M_draw 55 = .ok (.lcmp, 1) := by decide +kernel
theorem d_M_draw_56 : decode nb_M_draw 56 = .ok (.ifCond .ne 17, 3) := by decide +kernel
theorem d_M_draw_59 : decode nb_M_draw 59 = .ok (.lload 8, 2) := by decide +kernel
theorem d_M_draw_61 : decode nb_M_draw 61 = .ok (.ldc2_w 40, 3) := by decide +kernel
theorem d_M_draw_64 : decode nb_M_draw 64 = .ok (.ldiv, 1) := by decide +kernel
theorem d_M_draw_65 : decode nb_M_draw 65 = .ok (.lstore 8, 2) := by decide +kernel
theorem d_M_draw_67 : decode nb_M_draw 67 = .ok (.iinc 10 (-1), 3) := by decide +kernel
theorem d_M_draw_70 : decode nb_M_draw 70 = .ok (.goto (-27), 3) := by decide +kernel
theorem d_M_draw_73 : decode nb_M_draw 73 = .ok (.iload 10, 2) := by decide +kernel
theorem d_M_draw_75 : decode nb_M_draw 75 = .ok (.iload 5, 2) := by decide +kernel
theorem d_M_draw_77 : decode nb_M_draw 77 = .ok (.if_icmp .le 8, 3) := by decide +kernel
theorem d_M_draw_80 : decode nb_M_draw 80 = .ok (.iload 10, 2) := by decide +kernel
theorem d_M_draw_82 : decode nb_M_draw 82 = .ok (.goto 5, 3) := by decide +kernel
theorem d_M_draw_85 : decode nb_M_draw 85 = .ok (.iload 5, 2) := by decide +kernel
theorem d_M_draw_87 : decode nb_M_draw 87 = .ok (.istore 11, 2) := by decide +kernel
theorem d_M_draw_89 : decode nb_M_draw 89 = .ok (.lload 6, 2) := by decide +kernel
theorem d_M_draw_91 : decode nb_M_draw 91 = .ok (.aload_n 0, 1) := by decide +kernel
theorem d_M_draw_92 : decode nb_M_draw 92 = .ok (.getfield 78, 3) := by decide +kernel
theorem d_M_draw_95 : decode nb_M_draw 95 = .ok (.invokestatic 42, 3) := by decide +kernel
theorem d_M_draw_98 : decode nb_M_draw 98 = .ok (.ldiv, 1) := by decide +kernel
theorem d_M_draw_99 : decode nb_M_draw 99 = .ok (.lstore 12, 2) := by decide +kernel
theorem d_M_draw_101 : decode nb_M_draw 101 = .ok (.aload_n 0, 1) := by decide +kernel
theorem d_M_draw_102 : decode nb_M_draw 102 = .ok (.iconst 0, 1) := by decide +kernel
theorem d_M_draw_103 : decode nb_M_draw 103 = .ok (.putfield 249, 3) := by decide +kernel
theorem d_M_draw_106 : decode nb_M_draw 106 = .ok (.aload_n 0, 1) := by decide +kernel
theorem d_M_draw_107 : decode nb_M_draw 107 = .ok (.getfield 74, 3) := by decide +kernel
theorem d_M_draw_110 : decode nb_M_draw 110 = .ok (.lconst 0, 1) := by decide +kernel
theorem d_M_draw_111 : decode nb_M_draw 111 = .ok (.lcmp, 1) := by decide +kernel
theorem d_M_draw_112 : decode nb_M_draw 112 = .ok (.ifCond .ge 9, 3) := by decide +kernel
theorem d_M_draw_115 : decode nb_M_draw 115 = .ok (.aload_n 0, 1) := by decide +kernel
theorem d_M_draw_116 : decode nb_M_draw 116 = .ok (.bipush 45, 2) := by decide +kernel
theorem d_M_draw_118 : decode nb_M_draw 118 = .ok (.invokevirtual 252, 3) := by decide +kernel
theorem d_M_draw_121 : decode nb_M_draw 121 = .ok (.iconst 0, 1) := by decide +kernel
theorem d_M_draw_122 : decode nb_M_draw 122 = .ok (.istore 14, 2) := by decide +kernel
theorem d_M_draw_124 : decode nb_M_draw 124 = .ok (.iload 14, 2) := by decide +kernel
theorem d_M_draw_126 : decode nb_M_draw 126 = .ok (.iload_n 1, 1) := by decide +kernel
theorem d_M_draw_127 : decode nb_M_draw 127 = .ok (.if_icmp .ge 19, 3) := by decide +kernel
theorem d_M_draw_130 : decode nb_M_draw 130 = .ok (.aload_n 0, 1) := by decide +kernel
theorem d_M_draw_131 : decode nb_M_draw 131 = .ok (.aload_n 0, 1) := by decide +kernel
theorem d_M_draw_132 : decode nb_M_draw 132 = .ok (.iload 14, 2) := by decide +kernel
theorem d_M_draw_134 : decode nb_M_draw 134 = .ok (.invokevirtual 275, 3) := by decide +kernel
theorem d_M_draw_137 : decode nb_M_draw 137 = .ok (.invokevirtual 252, 3) := by decide +kernel
theorem d_M_draw_140 : decode nb_M_draw 140 = .ok (.iinc 14 1, 3) := by decide +kernel
theorem d_M_draw_143 : decode nb_M_draw 143 = .ok (.goto (-19), 3) := by decide +kernel
theorem d_M_draw_146 : decode nb_M_draw 146 = .ok (.aload_n 0, 1) := by decide +kernel
theorem d_M_draw_147 : decode nb_M_draw 147 = .ok (.lload 12, 2) := by decide +kernel
theorem d_M_draw_149 : decode nb_M_draw 149 = .ok (.lload 12, 2) := by decide +kernel
theorem d_M_draw_151 : decode nb_M_draw 151 = .ok (.lconst 0, 1) := by decide +kernel
theorem d_M_draw_152 : decode nb_M_draw 152 = .ok (.lcmp, 1) := by decide +kernel
theorem d_M_draw_153 : decode nb_M_draw 153 = .ok (.ifCond .ne 19, 3) := by decide +kernel
theorem d_M_draw_156 : decode nb_M_draw 156 = .ok (.aload_n 0, 1) := by decide +kernel
theorem d_M_draw_157 : decode nb_M_draw 157 = .ok (.getfield 282, 3) := by decide +kernel
theorem d_M_draw_160 : decode nb_M_draw 160 = .ok (.ifCond .ne 12, 3) := by decide +kernel
theorem d_M_draw_163 : decode nb_M_draw 163 = .ok (.iload 11, 2) := by decide +kernel
theorem d_M_draw_165 : decode nb_M_draw 165 = .ok (.ifCond .ne 7, 3) := by decide +kernel
theorem d_M_draw_168 : decode nb_M_draw 168 = .ok (.iconst 1, 1) := by decide +kernel
theorem d_M_draw_169 : decode nb_M_draw 169 = .ok (.goto 7, 3) := by decide +kernel
theorem d_M_draw_172 : decode nb_M_draw 172 = .ok (.aload_n 0, 1) := by decide +kernel
theorem d_M_draw_173 : decode nb_M_draw 173 = .ok (.getfield 282, 3) := by decide +kernel
theorem d_M_draw_176 : decode nb_M_draw 176 = .ok (.aload_n 0, 1) := by decide +kernel
theorem d_M_draw_177 : decode nb_M_draw 177 = .ok (.getfield 285, 3) := by decide +kernel
theorem d_M_draw_180 : decode nb_M_draw 180 = .ok (.invokevirtual 288, 3) := by decide +kernel
theorem d_M_draw_183 : decode nb_M_draw 183 = .ok (.iload 11, 2) := by decide +kernel
theorem d_M_draw_185 : decode nb_M_draw 185 = .ok (.ifCond .le 9, 3) := by decide +kernel
theorem d_M_draw_188 : decode nb_M_draw 188 = .ok (.aload_n 0, 1) := by decide +kernel
theorem d_M_draw_189 : decode nb_M_draw 189 = .ok (.bipush 46, 2) := by decide +kernel
theorem d_M_draw_191 : decode nb_M_draw 191 = .ok (.invokevirtual 252, 3) := by decide +kernel
theorem d_M_draw_194 : decode nb_M_draw 194 = .ok (.iconst 1, 1) := by decide +kernel
theorem d_M_draw_195 : decode nb_M_draw 195 = .ok (.istore 14, 2) := by decide +kernel
theorem d_M_draw_197 : decode nb_M_draw 197 = .ok (.iload 14, 2) := by decide +kernel
theorem d_M_draw_199 : decode nb_M_draw 199 = .ok (.iload 11, 2) := by decide +kernel
theorem d_M_draw_201 : decode nb_M_draw 201 = .ok (.if_icmp .gt 47, 3) := by decide +kernel
theorem d_M_draw_204 : decode nb_M_draw 204 = .ok (.aload_n 0, 1) := by decide +kernel
theorem d_M_draw_205 : decode nb_M_draw 205 = .ok (.bipush 48, 2) := by decide +kernel
theorem d_M_draw_207 : decode nb_M_draw 207 = .ok (.iload 14, 2) := by decide +kernel
theorem d_M_draw_209 : decode nb_M_draw 209 = .ok (.aload_n 0, 1) := by decide +kernel
theorem d_M_draw_210 : decode nb_M_draw 210 = .ok (.getfield 78, 3) := by decide +kernel
theorem d_M_draw_213 : decode nb_M_draw 213 = .ok (.if_icmp .le 7, 3) := by decide +kernel
theorem d_M_draw_216 : decode nb_M_draw 216 = .ok (.iconst 0, 1) := by decide +kernel
theorem d_M_draw_217 : decode nb_M_draw 217 = .ok (.goto 21, 3) := by decide +kernel
theorem d_M_draw_220 : decode nb_M_draw 220 = .ok (.lload 6, 2) := by decide +kernel
theorem d_M_draw_222 : decode nb_M_draw 222 = .ok (.aload_n 0, 1) := by decide +kernel
theorem d_M_draw_223 : decode nb_M_draw 223 = .ok (.getfield 78, 3) := by decide +kernel
theorem d_M_draw_226 : decode nb_M_draw 226 = .ok (.iload 14, 2) := by decide +kernel
theorem d_M_draw_228 : decode nb_M_draw 228 = .ok (.isub, 1) := by decide +kernel
theorem d_M_draw_229 : decode nb_M_draw 229 = .ok (.invokestatic 42, 3) := by decide +kernel
theorem d_M_draw_232 : decode nb_M_draw 232 = .ok (.ldiv, 1) := by decide +kernel
theorem d_M_draw_233 : decode nb_M_draw 233 = .ok (.ldc2_w 40, 3) := by decide +kernel
theorem d_M_draw_236 : decode nb_M_draw 236 = .ok (.lrem, 1) := by decide +kernel
theorem d_M_draw_237 : decode nb_M_draw 237 = .ok (.l2i, 1) := by decide +kernel
theorem d_M_draw_238 : decode nb_M_draw 238 = .ok (.iadd, 1) := by decide +kernel
theorem d_M_draw_239 : decode nb_M_draw 239 = .ok (.invokevirtual 252, 3) := by decide +kernel
theorem d_M_draw_242 : decode nb_M_draw 242 = .ok (.iinc 14 1, 3) := by decide +kernel
theorem d_M_draw_245 : decode nb_M_draw 245 = .ok (.goto (-48), 3) := by decide +kernel
theorem d_M_draw_248 : decode nb_M_draw 248 = .ok (.iload 4, 2) := by decide +kernel
theorem d_M_draw_250 : decode nb_M_draw 250 = .ok (.istore 14, 2) := by decide +kernel
theorem d_M_draw_252 : decode nb_M_draw 252 = .ok (.iload 14, 2) := by decide +kernel
theorem d_M_draw_254 : decode nb_M_draw 254 = .ok (.aload_n 0, 1) := by decide +kernel
theorem d_M_draw_255 : decode nb_M_draw 255 = .ok (.getfield 37, 3) := by decide +kernel
theorem d_M_draw_258 : decode nb_M_draw 258 = .ok (.if_icmp .ge 19, 3) := by decide +kernel
theorem d_M_draw_261 : decode nb_M_draw 261 = .ok (.aload_n 0, 1) := by decide +kernel
theorem d_M_draw_262 : decode nb_M_draw 262 = .ok (.aload_n 0, 1) := by decide +kernel
theorem d_M_draw_263 : decode nb_M_draw 263 = .ok (.iload 14, 2) := by decide +kernel
theorem d_M_draw_265 : decode nb_M_draw 265 = .ok (.invokevirtual 275, 3) := by decide +kernel
theorem d_M_draw_268 : decode nb_M_draw 268 = .ok (.invokevirtual 252, 3) := by decide +kernel
theorem d_M_draw_271 : decode nb_M_draw 271 = .ok (.iinc 14 1, 3) := by decide +kernel
theorem d_M_draw_274 : decode nb_M_draw 274 = .ok (.goto (-22), 3) := by decide +kernel
theorem d_M_draw_277 : decode nb_M_draw 277 = .ok (.return_, 1) := by decide +kernel
abbrev rm_M_draw : Room := ({ frames := 3, cells := 0, slots := 0, locals := 72 })
theorem w_M_draw_238 {post : Unit → nf_M → Prop} (hfl : l.flags = flags0) (K : nf_K p s m args meth c "NumberForgeModel" nb_M_draw 15 none D a sz) (k197 : Int32 → Int64 → Int32 → Int32 → nf_M → Prop) (hk197 : ∀ (x4 : Int32) (x6 : Int64) (x11 : Int32) (x14 : Int32) (M : nf_M) (H : Heap) (locs : List Loc) (ls : Array Slot), k197 x4 x6 x11 x14 M → lv_has ls 15 [(0, .ref (a 19)), (4, .int x4), (6, .long x6), (11, .int x11), (14, .int x14)] → nf_W D a s sz H locs M → W p l e rm_M_draw s m args below meth c H locs 0 0 (nf_MQ below (nf_Q nf_jN D a post ex (nf_A a sz)) args s rm_M_draw.cells rm_M_draw.slots (nf_A a sz)) (F0 m 197 ls [])) : ∀ (x4 : Int32) (x6 : Int64) (x11 : Int32) (x14 : Int32) (xy0 : Int32) (xy1 : Int32) (M : nf_M) (H : Heap) (locs : List Loc) (ls : Array Slot), B_M_draw_238 k197 post x4 x6 x11 x14 xy0 xy1 M → lv_has ls 15 [(0, .ref (a 19)), (4, .int x4), (6, .long x6), (11, .int x11), (14, .int x14)] → nf_W D a s sz H locs M → W p l e rm_M_draw s m args below meth c H locs 0 0 (nf_MQ below (nf_Q nf_jN D a post ex (nf_A a sz)) args s rm_M_draw.cells rm_M_draw.slots (nf_A a sz)) (F0 m 238 ls [.int xy0, .int xy1, .ref (a 19)]) := by
  have hx := K.1
  have hb := K.2.1
  intro x4 x6 x11 x14 xy0 xy1 M H locs ls h hl hw
  refine lv_iadd hx hb d_M_draw_238 ?_
  refine nf_callW (ex := (fun _ _ => False)) (As := [.ref (a 19), .int (xy1 + xy0)]) (st0 := [.int (xy1 + xy0), .ref (a 19)]) (rest := []) K hw (nf_invV hx hb K.2.2.2.1 (nf_Kg K nw_1206) (nf_Kg K nw_1208) (nf_Kg K nx_M_add) (nf_Kg K nw_1209) ⟨by decide, by decide⟩ (nf_rcv K hw 19 7 rfl rfl) rfl nl_M_add rfl d_M_draw_239) (c_M_add l hfl (xy1 + xy0)) nw_1209 nw_9 rfl ⟨by decide, by decide⟩ (Nat.le_of_ble_eq_true rfl) hl.1 ⟨Nat.le_of_ble_eq_true rfl, Nat.le_of_ble_eq_true rfl⟩ h (fun _ _ h => h.elim) (fun r1 M2 H locs h hw => ?_)
  refine W.eq (g2 := F0 m 242 ls []) rfl ?_
  refine lv_iinc (k := 4) (v := x14 + (1 : Int32)) (lv' := [(14, .int (x14 + (1 : Int32))), (0, .ref (a 19)), (4, .int x4), (6, .long x6), (11, .int x11)]) hx hb d_M_draw_242 hl rfl (nf_inc (by decide)) (by decide) rfl (fun ls hl => ?_)
  refine lv_goto hx hb d_M_draw_245 (tgt := 197) (by decide) ?_
  exact hk197 x4 x6 x11 (x14 + (1 : Int32)) M2 _ _ _ h (lv_sub hl [1, 2, 3, 4, 0] rfl) hw
theorem w_M_draw_252 {post : Unit → nf_M → Prop} (hfl : l.flags = flags0) (K : nf_K p s m args meth c "NumberForgeModel" nb_M_draw 15 none D a sz) : ∀ (n : Nat) (x14 : Int32) (M : nf_M) (H : Heap) (locs : List Loc) (ls : Array Slot), B_M_draw_252 post n x14 M → lv_has ls 15 [(0, .ref (a 19)), (14, .int x14)] → nf_W D a s sz H locs M → W p l e rm_M_draw s m args below meth c H locs 0 0 (nf_MQ below (nf_Q nf_jN D a post ex (nf_A a sz)) args s rm_M_draw.cells rm_M_draw.slots (nf_A a sz)) (F0 m 252 ls []) := by
  have hx := K.1
  have hb := K.2.1
  intro n
  induction n with
  | zero => intro x14 M H locs ls h hl hw; exact h.elim
  | succ n ih =>
    intro x14 M H locs ls h hl hw
    refine lv_iload hx hb d_M_draw_252 (lv_at hl 1 rfl) ?_
    refine lv_aload_n hx hb d_M_draw_254 rfl (lv_at hl 0 rfl) ?_
    refine nf_get (v := .int (mg_I M 19 1)) K hw 19 7 1 nw_932 rfl rfl ni_M (by decide) rfl rfl d_M_draw_255 ?_
    refine nf_ic_ge hx hb d_M_draw_258 (tgt := 277) (by decide) (fun hc => ?_) (fun hc => ?_)
    · have h := h.1 hc
      refine lv_aload_n hx hb d_M_draw_261 rfl (lv_at hl 0 rfl) ?_
      refine lv_aload_n hx hb d_M_draw_262 rfl (lv_at hl 0 rfl) ?_
      refine lv_iload hx hb d_M_draw_263 (lv_at hl 1 rfl) ?_
      refine nf_callW (ex := (fun _ _ => False)) (As := [.ref (a 19), .int x14]) (st0 := [.int x14, .ref (a 19), .ref (a 19)]) (rest := [.ref (a 19)]) K hw (nf_invV hx hb K.2.2.2.1 (nf_Kg K nw_1234) (nf_Kg K nw_1236) (nf_Kg K nx_M_look) (nf_Kg K nw_1237) ⟨by decide, by decide⟩ (nf_rcv K hw 19 7 rfl rfl) rfl nl_M_look rfl d_M_draw_265) (c_M_look l hfl x14) nw_1237 nw_9 rfl ⟨by decide, by decide⟩ (Nat.le_of_ble_eq_true rfl) hl.1 ⟨Nat.le_of_ble_eq_true rfl, Nat.le_of_ble_eq_true rfl⟩ h (fun _ _ h => h.elim) (fun r1 M2 H locs h hw => ?_)
      refine W.eq (g2 := F0 m 268 ls [.int r1, .ref (a 19)]) rfl ?_
      refine nf_callW (ex := (fun _ _ => False)) (As := [.ref (a 19), .int r1]) (st0 := [.int r1, .ref (a 19)]) (rest := []) K hw (nf_invV hx hb K.2.2.2.1 (nf_Kg K nw_1206) (nf_Kg K nw_1208) (nf_Kg K nx_M_add) (nf_Kg K nw_1209) ⟨by decide, by decide⟩ (nf_rcv K hw 19 7 rfl rfl) rfl nl_M_add rfl d_M_draw_268) (c_M_add l hfl r1) nw_1209 nw_9 rfl ⟨by decide, by decide⟩ (Nat.le_of_ble_eq_true rfl) hl.1 ⟨Nat.le_of_ble_eq_true rfl, Nat.le_of_ble_eq_true rfl⟩ h (fun _ _ h => h.elim) (fun r3 M4 H locs h hw => ?_)
      refine W.eq (g2 := F0 m 271 ls []) rfl ?_
      refine lv_iinc (k := 1) (v := x14 + (1 : Int32)) (lv' := [(14, .int (x14 + (1 : Int32))), (0, .ref (a 19))]) hx hb d_M_draw_271 hl rfl (nf_inc (by decide)) (by decide) rfl (fun ls hl => ?_)
      refine lv_goto hx hb d_M_draw_274 (tgt := 252) (by decide) ?_
      exact ih (x14 + (1 : Int32)) M4 _ _ _ h (lv_sub hl [1, 0] rfl) hw
    · have h := h.2 hc
      exact nf_vret K hw d_M_draw_277 (Nat.le_of_ble_eq_true rfl) (Nat.le_of_ble_eq_true rfl) (r := ()) rfl h
theorem w_M_draw_197 {post : Unit → nf_M → Prop} (hfl : l.flags = flags0) (K : nf_K p s m args meth c "NumberForgeModel" nb_M_draw 15 none D a sz) : ∀ (n : Nat) (x4 : Int32) (x6 : Int64) (x11 : Int32) (x14 : Int32) (M : nf_M) (H : Heap) (locs : List Loc) (ls : Array Slot), B_M_draw_197 post n x4 x6 x11 x14 M → lv_has ls 15 [(0, .ref (a 19)), (4, .int x4), (6, .long x6), (11, .int x11), (14, .int x14)] → nf_W D a s sz H locs M → W p l e rm_M_draw s m args below meth c H locs 0 0 (nf_MQ below (nf_Q nf_jN D a post ex (nf_A a sz)) args s rm_M_draw.cells rm_M_draw.slots (nf_A a sz)) (F0 m 197 ls []) := by
  have hx := K.1
  have hb := K.2.1
  intro n
  induction n with
  | zero => intro x4 x6 x11 x14 M H locs ls h hl hw; exact h.elim
  | succ n ih =>
    intro x4 x6 x11 x14 M H locs ls h hl hw
    refine lv_iload hx hb d_M_draw_197 (lv_at hl 4 rfl) ?_
    refine lv_iload hx hb d_M_draw_199 (lv_at hl 3 rfl) ?_
    refine nf_ic_gt hx hb d_M_draw_201 (tgt := 248) (by decide) (fun hc => ?_) (fun hc => ?_)
    · have h := h.1 hc
      refine lv_iload hx hb d_M_draw_248 (lv_at hl 1 rfl) ?_
      refine lv_istore (lv' := [(14, .int x4), (0, .ref (a 19)), (4, .int x4), (6, .long x6), (11, .int x11)]) hx hb d_M_draw_250 hl (by decide) rfl (fun ls hl => ?_)
      obtain ⟨n9, h⟩ := h
      exact w_M_draw_252 hfl K n9 x4 M _ _ _ h (lv_sub hl [1, 0] rfl) hw
    · have h := h.2 hc
      refine lv_aload_n hx hb d_M_draw_204 rfl (lv_at hl 0 rfl) ?_
      refine lv_bipush (v := (48 : Int32)) hx hb d_M_draw_205 (by decide) ?_
      refine lv_iload hx hb d_M_draw_207 (lv_at hl 4 rfl) ?_
      refine lv_aload_n hx hb d_M_draw_209 rfl (lv_at hl 0 rfl) ?_
      refine nf_get (v := .int (mg_I M 19 11)) K hw 19 7 11 nw_942 rfl rfl ni_M (by decide) rfl rfl d_M_draw_210 ?_
      refine nf_ic_le hx hb d_M_draw_213 (tgt := 220) (by decide) (fun hc => ?_) (fun hc => ?_)
      · have h := h.1 hc
        refine lv_iconst (v := (0 : Int32)) hx hb d_M_draw_216 (by decide) ?_
        refine lv_goto hx hb d_M_draw_217 (tgt := 238) (by decide) ?_
        exact w_M_draw_238 hfl K (fun x4 x6 x11 x14 z => B_M_draw_197 post n x4 x6 x11 x14 z) (fun x4 x6 x11 x14 z H locs ls hh hll hww => ih x4 x6 x11 x14 z H locs ls hh hll hww) x4 x6 x11 x14 (0 : Int32) (48 : Int32) M _ _ _ h (lv_sub hl [0, 1, 2, 3, 4] rfl) hw
      · have h := h.2 hc
        refine lv_lload hx hb d_M_draw_220 (lv_at hl 2 rfl) ?_
        refine lv_aload_n hx hb d_M_draw_222 rfl (lv_at hl 0 rfl) ?_
        refine nf_get (v := .int (mg_I M 19 11)) K hw 19 7 11 nw_942 rfl rfl ni_M (by decide) rfl rfl d_M_draw_223 ?_
        refine lv_iload hx hb d_M_draw_226 (lv_at hl 4 rfl) ?_
        refine lv_isub hx hb d_M_draw_228 ?_
        refine nf_callW (ex := (fun _ _ => False)) (As := [.int ((mg_I M 19 11) - x14)]) (st0 := [.int ((mg_I M 19 11) - x14), .long x6, .int (48 : Int32), .ref (a 19)]) (rest := [.long x6, .int (48 : Int32), .ref (a 19)]) K hw (nf_invS hx hb K.2.2.2.1 (nf_Kg K nw_1066) (nf_Kg K nw_1067) (nf_Kg K nw_9) (nf_Kg K nw_1068) ⟨by decide, by decide⟩ rfl nl_M_power rfl d_M_draw_229) (c_M_power l hfl ((mg_I M 19 11) - x14)) nw_1068 nw_9 rfl ⟨by decide, by decide⟩ (Nat.le_of_ble_eq_true rfl) hl.1 ⟨Nat.le_of_ble_eq_true rfl, Nat.le_of_ble_eq_true rfl⟩ h (fun _ _ h => h.elim) (fun r1 M2 H locs h hw => ?_)
        refine W.eq (g2 := F0 m 232 ls [.long r1, .long x6, .int (48 : Int32), .ref (a 19)]) rfl ?_
        obtain ⟨g3, h⟩ := h
        refine lv_ldiv hx hb d_M_draw_232 g3 ?_
        refine lv_ldc2 (v := (10 : Int64)) hx hb K.2.2.2.1 (nf_Kg K nw_1038) d_M_draw_233 ?_
        refine lv_lrem hx hb d_M_draw_236 (by decide) ?_
        refine lv_l2i hx hb d_M_draw_237 rfl ?_
        exact w_M_draw_238 hfl K (fun x4 x6 x11 x14 z => B_M_draw_197 post n x4 x6 x11 x14 z) (fun x4 x6 x11 x14 z H locs ls hh hll hww => ih x4 x6 x11 x14 z H locs ls hh hll hww) x4 x6 x11 x14 (((x6 / r1) - (x6 / r1) / (10 : Int64) * (10 : Int64)).toInt32) (48 : Int32) M2 _ _ _ h (lv_sub hl [0, 1, 2, 3, 4] rfl) hw
theorem w_M_draw_194 {post : Unit → nf_M → Prop} (hfl : l.flags = flags0) (K : nf_K p s m args meth c "NumberForgeModel" nb_M_draw 15 none D a sz) : ∀ (x4 : Int32) (x6 : Int64) (x11 : Int32) (M : nf_M) (H : Heap) (locs : List Loc) (ls : Array Slot), B_M_draw_194 post x4 x6 x11 M → lv_has ls 15 [(0, .ref (a 19)), (4, .int x4), (6, .long x6), (11, .int x11)] → nf_W D a s sz H locs M → W p l e rm_M_draw s m args below meth c H locs 0 0 (nf_MQ below (nf_Q nf_jN D a post ex (nf_A a sz)) args s rm_M_draw.cells rm_M_draw.slots (nf_A a sz)) (F0 m 194 ls []) := by
  have hx := K.1
  have hb := K.2.1
  intro x4 x6 x11 M H locs ls h hl hw
  refine lv_iconst (v := (1 : Int32)) hx hb d_M_draw_194 (by decide) ?_
  refine lv_istore (lv' := [(14, .int (1 : Int32)), (0, .ref (a 19)), (4, .int x4), (6, .long x6), (11, .int x11)]) hx hb d_M_draw_195 hl (by decide) rfl (fun ls hl => ?_)
  obtain ⟨n, h⟩ := h
  exact w_M_draw_197 hfl K n x4 x6 x11 (1 : Int32) M _ _ _ h (lv_sub hl [1, 2, 3, 4, 0] rfl) hw
theorem w_M_draw_176 {post : Unit → nf_M → Prop} (hfl : l.flags = flags0) (K : nf_K p s m args meth c "NumberForgeModel" nb_M_draw 15 none D a sz) : ∀ (x4 : Int32) (x6 : Int64) (x11 : Int32) (xy0 : Int32) (xy1 : Int64) (M : nf_M) (H : Heap) (locs : List Loc) (ls : Array Slot), B_M_draw_176 post x4 x6 x11 xy0 xy1 M → lv_has ls 15 [(0, .ref (a 19)), (4, .int x4), (6, .long x6), (11, .int x11)] → nf_W D a s sz H locs M → W p l e rm_M_draw s m args below meth c H locs 0 0 (nf_MQ below (nf_Q nf_jN D a post ex (nf_A a sz)) args s rm_M_draw.cells rm_M_draw.slots (nf_A a sz)) (F0 m 176 ls [.int xy0, .long xy1, .ref (a 19)]) := by
  have hx := K.1
  have hb := K.2.1
  intro x4 x6 x11 xy0 xy1 M H locs ls h hl hw
  refine lv_aload_n hx hb d_M_draw_176 rfl (lv_at hl 0 rfl) ?_
  refine nf_get (v := .int (mg_I M 19 18)) K hw 19 7 18 nw_949 rfl rfl ni_M (by decide) rfl rfl d_M_draw_177 ?_
  refine nf_callW (ex := (fun _ _ => False)) (As := [.ref (a 19), .long xy1, .int xy0, .int (mg_I M 19 18)]) (st0 := [.int (mg_I M 19 18), .int xy0, .long xy1, .ref (a 19)]) (rest := []) K hw (nf_invV hx hb K.2.2.2.1 (nf_Kg K nw_1254) (nf_Kg K nw_1256) (nf_Kg K nx_M_addWhole) (nf_Kg K nw_1257) ⟨by decide, by decide⟩ (nf_rcv K hw 19 7 rfl rfl) rfl nl_M_addWhole rfl d_M_draw_180) (c_M_addWhole l hfl xy1 xy0 (mg_I M 19 18)) nw_1257 nw_9 rfl ⟨by decide, by decide⟩ (Nat.le_of_ble_eq_true rfl) hl.1 ⟨Nat.le_of_ble_eq_true rfl, Nat.le_of_ble_eq_true rfl⟩ h (fun _ _ h => h.elim) (fun r1 M2 H locs h hw => ?_)
  refine W.eq (g2 := F0 m 183 ls []) rfl ?_
  refine lv_iload hx hb d_M_draw_183 (lv_at hl 3 rfl) ?_
  refine nf_if_le hx hb d_M_draw_185 (tgt := 194) (by decide) (fun hc => ?_) (fun hc => ?_)
  · have h := h.1 hc
    refine lv_aload_n hx hb d_M_draw_188 rfl (lv_at hl 0 rfl) ?_
    refine lv_bipush (v := (46 : Int32)) hx hb d_M_draw_189 (by decide) ?_
    refine nf_callW (ex := (fun _ _ => False)) (As := [.ref (a 19), .int (46 : Int32)]) (st0 := [.int (46 : Int32), .ref (a 19)]) (rest := []) K hw (nf_invV hx hb K.2.2.2.1 (nf_Kg K nw_1206) (nf_Kg K nw_1208) (nf_Kg K nx_M_add) (nf_Kg K nw_1209) ⟨by decide, by decide⟩ (nf_rcv K hw 19 7 rfl rfl) rfl nl_M_add rfl d_M_draw_191) (c_M_add l hfl (46 : Int32)) nw_1209 nw_9 rfl ⟨by decide, by decide⟩ (Nat.le_of_ble_eq_true rfl) hl.1 ⟨Nat.le_of_ble_eq_true rfl, Nat.le_of_ble_eq_true rfl⟩ h (fun _ _ h => h.elim) (fun r3 M4 H locs h hw => ?_)
    refine W.eq (g2 := F0 m 194 ls []) rfl ?_
    exact w_M_draw_194 hfl K x4 x6 x11 M4 _ _ _ h (lv_sub hl [0, 1, 2, 3] rfl) hw
  · have h := h.2 hc
    exact w_M_draw_194 hfl K x4 x6 x11 M2 _ _ _ h (lv_sub hl [0, 1, 2, 3] rfl) hw
theorem w_M_draw_172 {post : Unit → nf_M → Prop} (hfl : l.flags = flags0) (K : nf_K p s m args meth c "NumberForgeModel" nb_M_draw 15 none D a sz) : ∀ (x4 : Int32) (x6 : Int64) (x11 : Int32) (xy0 : Int64) (M : nf_M) (H : Heap) (locs : List Loc) (ls : Array Slot), B_M_draw_172 post x4 x6 x11 xy0 M → lv_has ls 15 [(0, .ref (a 19)), (4, .int x4), (6, .long x6), (11, .int x11)] → nf_W D a s sz H locs M → W p l e rm_M_draw s m args below meth c H locs 0 0 (nf_MQ below (nf_Q nf_jN D a post ex (nf_A a sz)) args s rm_M_draw.cells rm_M_draw.slots (nf_A a sz)) (F0 m 172 ls [.long xy0, .ref (a 19)]) := by
  have hx := K.1
  have hb := K.2.1
  intro x4 x6 x11 xy0 M H locs ls h hl hw
  refine lv_aload_n hx hb d_M_draw_172 rfl (lv_at hl 0 rfl) ?_
  refine nf_get (v := .int (mg_I M 19 17)) K hw 19 7 17 nw_948 rfl rfl ni_M (by decide) rfl rfl d_M_draw_173 ?_
  exact w_M_draw_176 hfl K x4 x6 x11 (mg_I M 19 17) xy0 M _ _ _ h (lv_sub hl [0, 1, 2, 3] rfl) hw
theorem w_M_draw_124 {post : Unit → nf_M → Prop} (hfl : l.flags = flags0) (K : nf_K p s m args meth c "NumberForgeModel" nb_M_draw 15 none D a sz) : ∀ (n : Nat) (x1 : Int32) (x4 : Int32) (x6 : Int64) (x11 : Int32) (x12 : Int64) (x14 : Int32) (M : nf_M) (H : Heap) (locs : List Loc) (ls : Array Slot), B_M_draw_124 post n x1 x4 x6 x11 x12 x14 M → lv_has ls 15 [(0, .ref (a 19)), (1, .int x1), (4, .int x4), (6, .long x6), (11, .int x11), (12, .long x12), (14, .int x14)] → nf_W D a s sz H locs M → W p l e rm_M_draw s m args below meth c H locs 0 0 (nf_MQ below (nf_Q nf_jN D a post ex (nf_A a sz)) args s rm_M_draw.cells rm_M_draw.slots (nf_A a sz)) (F0 m 124 ls []) := by
  have hx := K.1
  have hb := K.2.1
  intro n
  induction n with
  | zero => intro x1 x4 x6 x11 x12 x14 M H locs ls h hl hw; exact h.elim
  | succ n ih =>
    intro x1 x4 x6 x11 x12 x14 M H locs ls h hl hw
    refine lv_iload hx hb d_M_draw_124 (lv_at hl 6 rfl) ?_
    refine lv_iload_n hx hb d_M_draw_126 rfl (lv_at hl 1 rfl) ?_
    refine nf_ic_ge hx hb d_M_draw_127 (tgt := 146) (by decide) (fun hc => ?_) (fun hc => ?_)
    · have h := h.1 hc
      refine lv_aload_n hx hb d_M_draw_130 rfl (lv_at hl 0 rfl) ?_
      refine lv_aload_n hx hb d_M_draw_131 rfl (lv_at hl 0 rfl) ?_
      refine lv_iload hx hb d_M_draw_132 (lv_at hl 6 rfl) ?_
      refine nf_callW (ex := (fun _ _ => False)) (As := [.ref (a 19), .int x14]) (st0 := [.int x14, .ref (a 19), .ref (a 19)]) (rest := [.ref (a 19)]) K hw (nf_invV hx hb K.2.2.2.1 (nf_Kg K nw_1234) (nf_Kg K nw_1236) (nf_Kg K nx_M_look) (nf_Kg K nw_1237) ⟨by decide, by decide⟩ (nf_rcv K hw 19 7 rfl rfl) rfl nl_M_look rfl d_M_draw_134) (c_M_look l hfl x14) nw_1237 nw_9 rfl ⟨by decide, by decide⟩ (Nat.le_of_ble_eq_true rfl) hl.1 ⟨Nat.le_of_ble_eq_true rfl, Nat.le_of_ble_eq_true rfl⟩ h (fun _ _ h => h.elim) (fun r1 M2 H locs h hw => ?_)
      refine W.eq (g2 := F0 m 137 ls [.int r1, .ref (a 19)]) rfl ?_
      refine nf_callW (ex := (fun _ _ => False)) (As := [.ref (a 19), .int r1]) (st0 := [.int r1, .ref (a 19)]) (rest := []) K hw (nf_invV hx hb K.2.2.2.1 (nf_Kg K nw_1206) (nf_Kg K nw_1208) (nf_Kg K nx_M_add) (nf_Kg K nw_1209) ⟨by decide, by decide⟩ (nf_rcv K hw 19 7 rfl rfl) rfl nl_M_add rfl d_M_draw_137) (c_M_add l hfl r1) nw_1209 nw_9 rfl ⟨by decide, by decide⟩ (Nat.le_of_ble_eq_true rfl) hl.1 ⟨Nat.le_of_ble_eq_true rfl, Nat.le_of_ble_eq_true rfl⟩ h (fun _ _ h => h.elim) (fun r3 M4 H locs h hw => ?_)
      refine W.eq (g2 := F0 m 140 ls []) rfl ?_
      refine lv_iinc (k := 6) (v := x14 + (1 : Int32)) (lv' := [(14, .int (x14 + (1 : Int32))), (0, .ref (a 19)), (1, .int x1), (4, .int x4), (6, .long x6), (11, .int x11), (12, .long x12)]) hx hb d_M_draw_140 hl rfl (nf_inc (by decide)) (by decide) rfl (fun ls hl => ?_)
      refine lv_goto hx hb d_M_draw_143 (tgt := 124) (by decide) ?_
      exact ih x1 x4 x6 x11 x12 (x14 + (1 : Int32)) M4 _ _ _ h (lv_sub hl [1, 2, 3, 4, 5, 6, 0] rfl) hw
    · have h := h.2 hc
      refine lv_aload_n hx hb d_M_draw_146 rfl (lv_at hl 0 rfl) ?_
      refine lv_lload hx hb d_M_draw_147 (lv_at hl 5 rfl) ?_
      refine lv_lload hx hb d_M_draw_149 (lv_at hl 5 rfl) ?_
      refine lv_lconst (v := (0 : Int64)) hx hb d_M_draw_151 (by decide) ?_
      refine nf_lc_ne hx hb d_M_draw_152 d_M_draw_153 (tgt := 172) (by decide) (fun hc => ?_) (fun hc => ?_)
      · have h := h.1 hc
        refine lv_aload_n hx hb d_M_draw_156 rfl (lv_at hl 0 rfl) ?_
        refine nf_get (v := .int (mg_I M 19 17)) K hw 19 7 17 nw_948 rfl rfl ni_M (by decide) rfl rfl d_M_draw_157 ?_
        refine nf_if_ne hx hb d_M_draw_160 (tgt := 172) (by decide) (fun hc => ?_) (fun hc => ?_)
        · have h := h.1 hc
          refine lv_iload hx hb d_M_draw_163 (lv_at hl 4 rfl) ?_
          refine nf_if_ne hx hb d_M_draw_165 (tgt := 172) (by decide) (fun hc => ?_) (fun hc => ?_)
          · have h := h.1 hc
            refine lv_iconst (v := (1 : Int32)) hx hb d_M_draw_168 (by decide) ?_
            refine lv_goto hx hb d_M_draw_169 (tgt := 176) (by decide) ?_
            exact w_M_draw_176 hfl K x4 x6 x11 (1 : Int32) x12 M _ _ _ h (lv_sub hl [0, 2, 3, 4] rfl) hw
          · have h := h.2 hc
            exact w_M_draw_172 hfl K x4 x6 x11 x12 M _ _ _ h (lv_sub hl [0, 2, 3, 4] rfl) hw
        · have h := h.2 hc
          exact w_M_draw_172 hfl K x4 x6 x11 x12 M _ _ _ h (lv_sub hl [0, 2, 3, 4] rfl) hw
      · have h := h.2 hc
        exact w_M_draw_172 hfl K x4 x6 x11 x12 M _ _ _ h (lv_sub hl [0, 2, 3, 4] rfl) hw
theorem w_M_draw_121 {post : Unit → nf_M → Prop} (hfl : l.flags = flags0) (K : nf_K p s m args meth c "NumberForgeModel" nb_M_draw 15 none D a sz) : ∀ (x1 : Int32) (x4 : Int32) (x6 : Int64) (x11 : Int32) (x12 : Int64) (M : nf_M) (H : Heap) (locs : List Loc) (ls : Array Slot), B_M_draw_121 post x1 x4 x6 x11 x12 M → lv_has ls 15 [(0, .ref (a 19)), (1, .int x1), (4, .int x4), (6, .long x6), (11, .int x11), (12, .long x12)] → nf_W D a s sz H locs M → W p l e rm_M_draw s m args below meth c H locs 0 0 (nf_MQ below (nf_Q nf_jN D a post ex (nf_A a sz)) args s rm_M_draw.cells rm_M_draw.slots (nf_A a sz)) (F0 m 121 ls []) := by
  have hx := K.1
  have hb := K.2.1
  intro x1 x4 x6 x11 x12 M H locs ls h hl hw
  refine lv_iconst (v := (0 : Int32)) hx hb d_M_draw_121 (by decide) ?_
  refine lv_istore (lv' := [(14, .int (0 : Int32)), (0, .ref (a 19)), (1, .int x1), (4, .int x4), (6, .long x6), (11, .int x11), (12, .long x12)]) hx hb d_M_draw_122 hl (by decide) rfl (fun ls hl => ?_)
  obtain ⟨n, h⟩ := h
  exact w_M_draw_124 hfl K n x1 x4 x6 x11 x12 (0 : Int32) M _ _ _ h (lv_sub hl [1, 2, 3, 4, 5, 6, 0] rfl) hw
theorem w_M_draw_87 {post : Unit → nf_M → Prop} (hfl : l.flags = flags0) (K : nf_K p s m args meth c "NumberForgeModel" nb_M_draw 15 none D a sz) : ∀ (x1 : Int32) (x4 : Int32) (x6 : Int64) (xy0 : Int32) (M : nf_M) (H : Heap) (locs : List Loc) (ls : Array Slot), B_M_draw_87 post x1 x4 x6 xy0 M → lv_has ls 15 [(0, .ref (a 19)), (1, .int x1), (4, .int x4), (6, .long x6)] → nf_W D a s sz H locs M → W p l e rm_M_draw s m args below meth c H locs 0 0 (nf_MQ below (nf_Q nf_jN D a post ex (nf_A a sz)) args s rm_M_draw.cells rm_M_draw.slots (nf_A a sz)) (F0 m 87 ls [.int xy0]) := by
  have hx := K.1
  have hb := K.2.1
  intro x1 x4 x6 xy0 M H locs ls h hl hw
  refine lv_istore (lv' := [(11, .int xy0), (0, .ref (a 19)), (1, .int x1), (4, .int x4), (6, .long x6)]) hx hb d_M_draw_87 hl (by decide) rfl (fun ls hl => ?_)
  refine lv_lload hx hb d_M_draw_89 (lv_at hl 4 rfl) ?_
  refine lv_aload_n hx hb d_M_draw_91 rfl (lv_at hl 1 rfl) ?_
  refine nf_get (v := .int (mg_I M 19 11)) K hw 19 7 11 nw_942 rfl rfl ni_M (by decide) rfl rfl d_M_draw_92 ?_
  refine nf_callW (ex := (fun _ _ => False)) (As := [.int (mg_I M 19 11)]) (st0 := [.int (mg_I M 19 11), .long x6]) (rest := [.long x6]) K hw (nf_invS hx hb K.2.2.2.1 (nf_Kg K nw_1066) (nf_Kg K nw_1067) (nf_Kg K nw_9) (nf_Kg K nw_1068) ⟨by decide, by decide⟩ rfl nl_M_power rfl d_M_draw_95) (c_M_power l hfl (mg_I M 19 11)) nw_1068 nw_9 rfl ⟨by decide, by decide⟩ (Nat.le_of_ble_eq_true rfl) hl.1 ⟨Nat.le_of_ble_eq_true rfl, Nat.le_of_ble_eq_true rfl⟩ h (fun _ _ h => h.elim) (fun r1 M2 H locs h hw => ?_)
  refine W.eq (g2 := F0 m 98 ls [.long r1, .long x6]) rfl ?_
  obtain ⟨g3, h⟩ := h
  refine lv_ldiv hx hb d_M_draw_98 g3 ?_
  refine lv_topl (fun t4 et4 => ?_)
  have h := h t4 et4
  refine lv_lstore (lv' := [(12, .long t4), (11, .int xy0), (0, .ref (a 19)), (1, .int x1), (4, .int x4), (6, .long x6)]) hx hb d_M_draw_99 hl (by decide) rfl (fun ls hl => ?_)
  refine lv_aload_n hx hb d_M_draw_101 rfl (lv_at hl 2 rfl) ?_
  refine lv_iconst (v := (0 : Int32)) hx hb d_M_draw_102 (by decide) ?_
  refine nf_put (M' := ms_I M2 19 3 (0 : Int32)) K hw 19 7 3 nw_934 rfl rfl rfl ni_M ny_M nq_M nn_M (by decide) rfl rfl rfl rfl (Nat.le_of_ble_eq_true rfl) d_M_draw_103 (fun H locs hw => ?_)
  obtain ⟨M5, eM5⟩ : ∃ z, z = ms_I M2 19 3 (0 : Int32) := ⟨_, rfl⟩
  rw [← eM5] at hw
  have h := h M5 eM5
  refine lv_aload_n hx hb d_M_draw_106 rfl (lv_at hl 2 rfl) ?_
  refine nf_get (v := .long (mg_L M5 19 10)) K hw 19 7 10 nw_941 rfl rfl ni_M (by decide) rfl rfl d_M_draw_107 ?_
  refine lv_lconst (v := (0 : Int64)) hx hb d_M_draw_110 (by decide) ?_
  refine nf_lc_ge hx hb d_M_draw_111 d_M_draw_112 (tgt := 121) (by decide) (fun hc => ?_) (fun hc => ?_)
  · have h := h.1 hc
    refine lv_aload_n hx hb d_M_draw_115 rfl (lv_at hl 2 rfl) ?_
    refine lv_bipush (v := (45 : Int32)) hx hb d_M_draw_116 (by decide) ?_
    refine nf_callW (ex := (fun _ _ => False)) (As := [.ref (a 19), .int (45 : Int32)]) (st0 := [.int (45 : Int32), .ref (a 19)]) (rest := []) K hw (nf_invV hx hb K.2.2.2.1 (nf_Kg K nw_1206) (nf_Kg K nw_1208) (nf_Kg K nx_M_add) (nf_Kg K nw_1209) ⟨by decide, by decide⟩ (nf_rcv K hw 19 7 rfl rfl) rfl nl_M_add rfl d_M_draw_118) (c_M_add l hfl (45 : Int32)) nw_1209 nw_9 rfl ⟨by decide, by decide⟩ (Nat.le_of_ble_eq_true rfl) hl.1 ⟨Nat.le_of_ble_eq_true rfl, Nat.le_of_ble_eq_true rfl⟩ h (fun _ _ h => h.elim) (fun r6 M7 H locs h hw => ?_)
    refine W.eq (g2 := F0 m 121 ls []) rfl ?_
    exact w_M_draw_121 hfl K x1 x4 x6 xy0 t4 M7 _ _ _ h (lv_sub hl [2, 3, 4, 5, 1, 0] rfl) hw
  · have h := h.2 hc
    exact w_M_draw_121 hfl K x1 x4 x6 xy0 t4 M5 _ _ _ h (lv_sub hl [2, 3, 4, 5, 1, 0] rfl) hw
theorem w_M_draw_73 {post : Unit → nf_M → Prop} (hfl : l.flags = flags0) (K : nf_K p s m args meth c "NumberForgeModel" nb_M_draw 15 none D a sz) : ∀ (x1 : Int32) (x4 : Int32) (x5 : Int32) (x6 : Int64) (x10 : Int32) (M : nf_M) (H : Heap) (locs : List Loc) (ls : Array Slot), B_M_draw_73 post x1 x4 x5 x6 x10 M → lv_has ls 15 [(0, .ref (a 19)), (1, .int x1), (4, .int x4), (5, .int x5), (6, .long x6), (10, .int x10)] → nf_W D a s sz H locs M → W p l e rm_M_draw s m args below meth c H locs 0 0 (nf_MQ below (nf_Q nf_jN D a post ex (nf_A a sz)) args s rm_M_draw.cells rm_M_draw.slots (nf_A a sz)) (F0 m 73 ls []) := by
  have hx := K.1
  have hb := K.2.1
  intro x1 x4 x5 x6 x10 M H locs ls h hl hw
  refine lv_iload hx hb d_M_draw_73 (lv_at hl 5 rfl) ?_
  refine lv_iload hx hb d_M_draw_75 (lv_at hl 3 rfl) ?_
  refine nf_ic_le hx hb d_M_draw_77 (tgt := 85) (by decide) (fun hc => ?_) (fun hc => ?_)
  · have h := h.1 hc
    refine lv_iload hx hb d_M_draw_80 (lv_at hl 5 rfl) ?_
    refine lv_goto hx hb d_M_draw_82 (tgt := 87) (by decide) ?_
    exact w_M_draw_87 hfl K x1 x4 x6 x10 M _ _ _ h (lv_sub hl [0, 1, 2, 4] rfl) hw
  · have h := h.2 hc
    refine lv_iload hx hb d_M_draw_85 (lv_at hl 3 rfl) ?_
    exact w_M_draw_87 hfl K x1 x4 x6 x5 M _ _ _ h (lv_sub hl [0, 1, 2, 4] rfl) hw
theorem w_M_draw_43 {post : Unit → nf_M → Prop} (hfl : l.flags = flags0) (K : nf_K p s m args meth c "NumberForgeModel" nb_M_draw 15 none D a sz) : ∀ (n : Nat) (x1 : Int32) (x4 : Int32) (x5 : Int32) (x6 : Int64) (x8 : Int64) (x10 : Int32) (M : nf_M) (H : Heap) (locs : List Loc) (ls : Array Slot), B_M_draw_43 post n x1 x4 x5 x6 x8 x10 M → lv_has ls 15 [(0, .ref (a 19)), (1, .int x1), (4, .int x4), (5, .int x5), (6, .long x6), (8, .long x8), (10, .int x10)] → nf_W D a s sz H locs M → W p l e rm_M_draw s m args below meth c H locs 0 0 (nf_MQ below (nf_Q nf_jN D a post ex (nf_A a sz)) args s rm_M_draw.cells rm_M_draw.slots (nf_A a sz)) (F0 m 43 ls []) := by
  have hx := K.1
  have hb := K.2.1
  intro n
  induction n with
  | zero => intro x1 x4 x5 x6 x8 x10 M H locs ls h hl hw; exact h.elim
  | succ n ih =>
    intro x1 x4 x5 x6 x8 x10 M H locs ls h hl hw
    refine lv_iload hx hb d_M_draw_43 (lv_at hl 6 rfl) ?_
    refine nf_if_le hx hb d_M_draw_45 (tgt := 73) (by decide) (fun hc => ?_) (fun hc => ?_)
    · have h := h.1 hc
      refine lv_lload hx hb d_M_draw_48 (lv_at hl 5 rfl) ?_
      refine lv_ldc2 (v := (10 : Int64)) hx hb K.2.2.2.1 (nf_Kg K nw_1038) d_M_draw_50 ?_
      refine lv_lrem hx hb d_M_draw_53 (by decide) ?_
      refine lv_lconst (v := (0 : Int64)) hx hb d_M_draw_54 (by decide) ?_
      refine nf_lc_ne hx hb d_M_draw_55 d_M_draw_56 (tgt := 73) (by decide) (fun hc => ?_) (fun hc => ?_)
      · have h := h.1 hc
        refine lv_lload hx hb d_M_draw_59 (lv_at hl 5 rfl) ?_
        refine lv_ldc2 (v := (10 : Int64)) hx hb K.2.2.2.1 (nf_Kg K nw_1038) d_M_draw_61 ?_
        refine lv_ldiv hx hb d_M_draw_64 (by decide) ?_
        refine lv_topl (fun t1 et1 => ?_)
        have h := h t1 et1
        refine lv_lstore (lv' := [(8, .long t1), (0, .ref (a 19)), (1, .int x1), (4, .int x4), (5, .int x5), (6, .long x6), (10, .int x10)]) hx hb d_M_draw_65 hl (by decide) rfl (fun ls hl => ?_)
        refine lv_iinc (k := 6) (v := x10 + (-1 : Int32)) (lv' := [(10, .int (x10 + (-1 : Int32))), (8, .long t1), (0, .ref (a 19)), (1, .int x1), (4, .int x4), (5, .int x5), (6, .long x6)]) hx hb d_M_draw_67 hl rfl (nf_inc (by decide)) (by decide) rfl (fun ls hl => ?_)
        refine lv_goto hx hb d_M_draw_70 (tgt := 43) (by decide) ?_
        exact ih x1 x4 x5 x6 t1 (x10 + (-1 : Int32)) M _ _ _ h (lv_sub hl [2, 3, 4, 5, 6, 1, 0] rfl) hw
      · have h := h.2 hc
        exact w_M_draw_73 hfl K x1 x4 x5 x6 x10 M _ _ _ h (lv_sub hl [0, 1, 2, 3, 4, 6] rfl) hw
    · have h := h.2 hc
      exact w_M_draw_73 hfl K x1 x4 x5 x6 x10 M _ _ _ h (lv_sub hl [0, 1, 2, 3, 4, 6] rfl) hw
theorem w_M_draw_14 {post : Unit → nf_M → Prop} (hfl : l.flags = flags0) (K : nf_K p s m args meth c "NumberForgeModel" nb_M_draw 15 none D a sz) : ∀ (x1 : Int32) (x4 : Int32) (xy0 : Int32) (M : nf_M) (H : Heap) (locs : List Loc) (ls : Array Slot), B_M_draw_14 post x1 x4 xy0 M → lv_has ls 15 [(0, .ref (a 19)), (1, .int x1), (4, .int x4)] → nf_W D a s sz H locs M → W p l e rm_M_draw s m args below meth c H locs 0 0 (nf_MQ below (nf_Q nf_jN D a post ex (nf_A a sz)) args s rm_M_draw.cells rm_M_draw.slots (nf_A a sz)) (F0 m 14 ls [.int xy0]) := by
  have hx := K.1
  have hb := K.2.1
  intro x1 x4 xy0 M H locs ls h hl hw
  refine lv_istore (lv' := [(5, .int xy0), (0, .ref (a 19)), (1, .int x1), (4, .int x4)]) hx hb d_M_draw_14 hl (by decide) rfl (fun ls hl => ?_)
  refine lv_aload_n hx hb d_M_draw_16 rfl (lv_at hl 1 rfl) ?_
  refine nf_get (v := .long (mg_L M 19 10)) K hw 19 7 10 nw_941 rfl rfl ni_M (by decide) rfl rfl d_M_draw_17 ?_
  refine nf_callW (ex := (fun _ _ => False)) (As := [.long (mg_L M 19 10)]) (st0 := [.long (mg_L M 19 10)]) (rest := []) K hw (nf_invS hx hb K.2.2.2.1 (nf_Kg K nw_1124) (nf_Kg K nw_1125) (nf_Kg K nw_9) (nf_Kg K nw_1126) ⟨by decide, by decide⟩ rfl nl_M_amount rfl d_M_draw_20) (c_M_amount l hfl (mg_L M 19 10)) nw_1126 nw_9 rfl ⟨by decide, by decide⟩ (Nat.le_of_ble_eq_true rfl) hl.1 ⟨Nat.le_of_ble_eq_true rfl, Nat.le_of_ble_eq_true rfl⟩ h (fun _ _ h => h.elim) (fun r1 M2 H locs h hw => ?_)
  refine W.eq (g2 := F0 m 23 ls [.long r1]) rfl ?_
  refine lv_lstore (lv' := [(6, .long r1), (5, .int xy0), (0, .ref (a 19)), (1, .int x1), (4, .int x4)]) hx hb d_M_draw_23 hl (by decide) rfl (fun ls hl => ?_)
  refine lv_lload hx hb d_M_draw_25 (lv_at hl 0 rfl) ?_
  refine lv_aload_n hx hb d_M_draw_27 rfl (lv_at hl 2 rfl) ?_
  refine nf_get (v := .int (mg_I M2 19 11)) K hw 19 7 11 nw_942 rfl rfl ni_M (by decide) rfl rfl d_M_draw_28 ?_
  refine nf_callW (ex := (fun _ _ => False)) (As := [.int (mg_I M2 19 11)]) (st0 := [.int (mg_I M2 19 11), .long r1]) (rest := [.long r1]) K hw (nf_invS hx hb K.2.2.2.1 (nf_Kg K nw_1066) (nf_Kg K nw_1067) (nf_Kg K nw_9) (nf_Kg K nw_1068) ⟨by decide, by decide⟩ rfl nl_M_power rfl d_M_draw_31) (c_M_power l hfl (mg_I M2 19 11)) nw_1068 nw_9 rfl ⟨by decide, by decide⟩ (Nat.le_of_ble_eq_true rfl) hl.1 ⟨Nat.le_of_ble_eq_true rfl, Nat.le_of_ble_eq_true rfl⟩ h (fun _ _ h => h.elim) (fun r3 M4 H locs h hw => ?_)
  refine W.eq (g2 := F0 m 34 ls [.long r3, .long r1]) rfl ?_
  obtain ⟨g5, h⟩ := h
  refine lv_lrem hx hb d_M_draw_34 g5 ?_
  refine lv_topl (fun t6 et6 => ?_)
  have h := h t6 et6
  refine lv_lstore (lv' := [(8, .long t6), (6, .long r1), (5, .int xy0), (0, .ref (a 19)), (1, .int x1), (4, .int x4)]) hx hb d_M_draw_35 hl (by decide) rfl (fun ls hl => ?_)
  refine lv_aload_n hx hb d_M_draw_37 rfl (lv_at hl 3 rfl) ?_
  refine nf_get (v := .int (mg_I M4 19 11)) K hw 19 7 11 nw_942 rfl rfl ni_M (by decide) rfl rfl d_M_draw_38 ?_
  refine lv_topi (fun t7 et7 => ?_)
  have h := h t7 et7
  refine lv_istore (lv' := [(10, .int t7), (8, .long t6), (6, .long r1), (5, .int xy0), (0, .ref (a 19)), (1, .int x1), (4, .int x4)]) hx hb d_M_draw_41 hl (by decide) rfl (fun ls hl => ?_)
  obtain ⟨n, h⟩ := h
  exact w_M_draw_43 hfl K n x1 x4 xy0 r1 t6 t7 M4 _ _ _ h (lv_sub hl [4, 5, 6, 3, 2, 1, 0] rfl) hw
theorem c_M_draw (l : Launch) (hfl : l.flags = flags0) (x1 : Int32) (x2 : Int32) (x3 : Int32) (x4 : Int32) : nf_C nf_jN l nm_M_draw nb_M_draw 15 none rm_M_draw (fun a => [.ref (a 19), .int x1, .int x2, .int x3, .int x4]) (fun M post ex => P_M_draw x1 x2 x3 x4 M post) := by
  refine nf_start (plainFor_of_name (by decide +kernel)) (fun a => Nat.le_of_ble_eq_true rfl) ?_
  intro D a sz M post ex p e s m below meth c ls h K hl hw
  have hx := K.1
  have hb := K.2.1
  have hl : lv_has ls 15 [(0, .ref (a 19)), (1, .int x1), (2, .int x2), (3, .int x3), (4, .int x4)] := hl
  refine lv_iload_n hx hb d_M_draw_0 rfl (lv_at hl 3 rfl) ?_
  refine lv_iload_n hx hb d_M_draw_1 rfl (lv_at hl 2 rfl) ?_
  refine nf_ic_le hx hb d_M_draw_2 (tgt := 13) (by decide) (fun hc => ?_) (fun hc => ?_)
  · have h := h.1 hc
    refine lv_iload_n hx hb d_M_draw_5 rfl (lv_at hl 3 rfl) ?_
    refine lv_iload_n hx hb d_M_draw_6 rfl (lv_at hl 2 rfl) ?_
    refine lv_isub hx hb d_M_draw_7 ?_
    refine lv_iconst (v := (1 : Int32)) hx hb d_M_draw_8 (by decide) ?_
    refine lv_isub hx hb d_M_draw_9 ?_
    refine lv_goto hx hb d_M_draw_10 (tgt := 14) (by decide) ?_
    exact w_M_draw_14 hfl K x1 x4 ((x3 - x2) - (1 : Int32)) M _ _ _ h (lv_sub hl [0, 1, 4] rfl) hw
  · have h := h.2 hc
    refine lv_iconst (v := (0 : Int32)) hx hb d_M_draw_13 (by decide) ?_
    exact w_M_draw_14 hfl K x1 x4 (0 : Int32) M _ _ _ h (lv_sub hl [0, 1, 4] rfl) hw
end NW9
