/-! the law's body (printed by wip/whole/gen/law3.py) -/
def P_arm0 (x1 : Int32) (x2 : Int32) (M : nf_M) (k : nf_M → Prop) : Prop :=
    P_F_type (((x1.toInt64) <<< ((32 : Int32).toInt64 &&& 63)) ||| ((x2.toInt64) &&& (4294967295 : Int64))) M (fun r1 M2 =>
    P_M_type (((x1.toInt64) <<< ((32 : Int32).toInt64 &&& 63)) ||| ((x2.toInt64) &&& (4294967295 : Int64))) M2 (fun r3 M4 =>
    (r1 = r3 → k M4) ∧
    (¬ r1 = r3 → False)))
def P_arm1 (M : nf_M) (k : nf_M → Prop) : Prop :=
    P_F_wipe M (fun _ M2 =>
    P_M_wipe M2 (fun _ M4 =>
    k M4))
def P_arm2 (x1 : Int32) (x2 : Int32) (M : nf_M) (k : nf_M → Prop) : Prop :=
    P_L_read x1 x2 M (fun r1 M2 =>
    P_M_read x1 x2 M2 (fun _ M4 =>
    P_M_thrown M4 (fun r5 M6 =>
    (r5 = r1 → k M6) ∧
    (¬ r5 = r1 → False))))
def P_arm3 (x1 : Int32) (x2 : Int32) (x3 : Int32) (M : nf_M) (k : nf_M → Prop) : Prop :=
    (vf_n64 (FP.dmul (FP.i2d x2) (4593671619917905920 : UInt64))) ∧
    ((x3 = 0 → P_L_put x1 (FP.dmul (FP.i2d x2) (4593671619917905920 : UInt64)) (0 : Int32) M (fun r2 M3 =>
    (vf_n64 (FP.dmul (FP.i2d x2) (4593671619917905920 : UInt64))) ∧
    ((x3 = 0 → P_M_put x1 (FP.dmul (FP.i2d x2) (4593671619917905920 : UInt64)) (0 : Int32) M3 (fun _ M6 =>
    P_M_thrown M6 (fun r7 M8 =>
    (r7 = r2 → k M8) ∧
    (¬ r7 = r2 → False)))) ∧
    (¬ x3 = 0 → P_M_put x1 (FP.dmul (FP.i2d x2) (4593671619917905920 : UInt64)) (1 : Int32) M3 (fun _ M10 =>
    P_M_thrown M10 (fun r11 M12 =>
    (r11 = r2 → k M12) ∧
    (¬ r11 = r2 → False))))))) ∧
    (¬ x3 = 0 → P_L_put x1 (FP.dmul (FP.i2d x2) (4593671619917905920 : UInt64)) (1 : Int32) M (fun r13 M14 =>
    (vf_n64 (FP.dmul (FP.i2d x2) (4593671619917905920 : UInt64))) ∧
    ((x3 = 0 → P_M_put x1 (FP.dmul (FP.i2d x2) (4593671619917905920 : UInt64)) (0 : Int32) M14 (fun _ M17 =>
    P_M_thrown M17 (fun r18 M19 =>
    (r18 = r13 → k M19) ∧
    (¬ r18 = r13 → False)))) ∧
    (¬ x3 = 0 → P_M_put x1 (FP.dmul (FP.i2d x2) (4593671619917905920 : UInt64)) (1 : Int32) M14 (fun _ M21 =>
    P_M_thrown M21 (fun r22 M23 =>
    (r22 = r13 → k M23) ∧
    (¬ r22 = r13 → False))))))))
def P_arm4 (x1 : Int32) (x2 : Int32) (x3 : Int32) (x4 : Int32) (M : nf_M) (k : nf_M → Prop) : Prop :=
    P_L_reckon x1 x2 x3 x4 M (fun r1 M2 =>
    P_M_reckon x1 x2 x3 x4 M2 (fun _ M4 =>
    P_M_thrown M4 (fun r5 M6 =>
    (r5 = r1 → k M6) ∧
    (¬ r5 = r1 → False))))
def P_arm5 (x1 : Int32) (x2 : Int32) (x3 : Int32) (M : nf_M) (k : nf_M → Prop) : Prop :=
    P_L_one x1 x2 x3 M (fun r1 M2 =>
    P_M_one x1 x2 x3 M2 (fun _ M4 =>
    P_M_thrown M4 (fun r5 M6 =>
    (r5 = r1 → k M6) ∧
    (¬ r5 = r1 → False))))
def P_arm6 (x1 : Int32) (x2 : Int32) (x3 : Int32) (M : nf_M) (k : nf_M → Prop) : Prop :=
    P_L_cast x1 x2 x3 M (fun r1 M2 =>
    P_M_cast x1 x2 x3 M2 (fun _ M4 =>
    P_M_thrown M4 (fun r5 M6 =>
    (r5 = r1 → k M6) ∧
    (¬ r5 = r1 → False))))
def P_arm7 (x1 : Int32) (x2 : Int32) (M : nf_M) (k : nf_M → Prop) : Prop :=
    P_L_compare x1 x2 M (fun r1 M2 =>
    P_M_compare x1 x2 M2 (fun r3 M4 =>
    P_M_thrown M4 (fun r5 M6 =>
    (r5 = r1 → (r1 = 0 → (vp_in (0 : Int32) 1) ∧
    (((mg_L M6 27 (0 : Int32).toNatClampNeg) = (r3.toInt64) → k M6) ∧
    (¬ (mg_L M6 27 (0 : Int32).toNatClampNeg) = (r3.toInt64) → False))) ∧
    (¬ r1 = 0 → k M6)) ∧
    (¬ r5 = r1 → False))))
def P_arm8 (x1 : Int32) (M : nf_M) (k : nf_M → Prop) : Prop :=
    P_F_kind x1 M (fun r1 M2 =>
    P_M_kind x1 M2 (fun r3 M4 =>
    (r1 = r3 → k M4) ∧
    (¬ r1 = r3 → False)))
def P_arm9 (x1 : Int32) (M : nf_M) (k : nf_M → Prop) : Prop :=
    P_L_real x1 M (fun r1 M2 =>
    P_M_real x1 M2 (fun r3 M4 =>
    P_M_thrown M4 (fun r5 M6 =>
    (r5 = r1 → (r1 = 0 → (vp_in (0 : Int32) 1) ∧
    ((nf_deq (mg_D M6 28 (0 : Int32).toNatClampNeg) r3 → k M6) ∧
    (¬ nf_deq (mg_D M6 28 (0 : Int32).toNatClampNeg) r3 → (vp_in (0 : Int32) 1) ∧
    ((vp_in (0 : Int32) 1) ∧
    ((nf_deq (mg_D M6 28 (0 : Int32).toNatClampNeg) (mg_D M6 28 (0 : Int32).toNatClampNeg) → False) ∧
    (¬ nf_deq (mg_D M6 28 (0 : Int32).toNatClampNeg) (mg_D M6 28 (0 : Int32).toNatClampNeg) → (nf_deq r3 r3 → False) ∧
    (¬ nf_deq r3 r3 → k M6))))))) ∧
    (¬ r1 = 0 → k M6)) ∧
    (¬ r5 = r1 → False))))
def P_arm10 (x1 : Int32) (x2 : Int32) (M : nf_M) (k : nf_M → Prop) : Prop :=
    P_F_exact x1 x2 M (fun r1 M2 =>
    P_M_exact x1 x2 M2 (fun r3 M4 =>
    (r1 = r3 → k M4) ∧
    (¬ r1 = r3 → False)))
def P_arm11 (x1 : Int32) (M : nf_M) (k : nf_M → Prop) : Prop :=
    P_L_write x1 M (fun r1 M2 =>
    P_M_write x1 M2 (fun r3 M4 =>
    P_M_thrown M4 (fun r5 M6 =>
    (r5 = r1 → (r1 = 0 → (vp_in (0 : Int32) 1) ∧
    (((mg_L M6 27 (0 : Int32).toNatClampNeg) = (r3.toInt64) → k M6) ∧
    (¬ (mg_L M6 27 (0 : Int32).toNatClampNeg) = (r3.toInt64) → False))) ∧
    (¬ r1 = 0 → k M6)) ∧
    (¬ r5 = r1 → False))))
def P_arm12 (x1 : Int32) (M : nf_M) (k : nf_M → Prop) : Prop :=
    P_L_picture x1 M (fun r1 M2 =>
    P_M_picture x1 M2 (fun r3 M4 =>
    P_M_thrown M4 (fun r5 M6 =>
    (r5 = r1 → (r1 = 0 → (vp_in (0 : Int32) 1) ∧
    (((mg_L M6 27 (0 : Int32).toNatClampNeg) = (r3.toInt64) → k M6) ∧
    (¬ (mg_L M6 27 (0 : Int32).toNatClampNeg) = (r3.toInt64) → False))) ∧
    (¬ r1 = 0 → k M6)) ∧
    (¬ r5 = r1 → False))))
def P_arm13 (x1 : Int32) (x2 : Int32) (M : nf_M) (k : nf_M → Prop) : Prop :=
    P_L_letters x1 x2 M (fun r1 M2 =>
    P_M_letters x1 x2 M2 (fun r3 M4 =>
    P_M_thrown M4 (fun r5 M6 =>
    (r5 = r1 → (r1 = 0 → (vp_in (0 : Int32) 1) ∧
    (((mg_L M6 27 (0 : Int32).toNatClampNeg) = (r3.toInt64) → k M6) ∧
    (¬ (mg_L M6 27 (0 : Int32).toNatClampNeg) = (r3.toInt64) → False))) ∧
    (¬ r1 = 0 → k M6)) ∧
    (¬ r5 = r1 → False))))
def P_arm14 (x1 : Int32) (M : nf_M) (k : nf_M → Prop) : Prop :=
    P_F_output x1 M (fun r1 M2 =>
    P_M_output x1 M2 (fun r3 M4 =>
    (r1 = r3 → k M4) ∧
    (¬ r1 = r3 → False)))
theorem nf_roomle {a b c d n : Nat} (h : a + b ≤ c) (hd : n + d ≤ b) : a + n + d ≤ c := by omega
abbrev nb_L_law : ByteArray := code
def nf_lawL (a : Nat → Nat) (b : Nat) (i5 : Int32) : List (Nat × Value) := [(0, .ref b), (1, .ref (a 0)), (2, .ref (a 19)), (3, .ref (a 27)), (4, .ref (a 28)), (5, .int i5)]
section NFA
variable {p : Program} {l : Launch} {e : Env} {s : State} {m : MethodId} {args : Array Value} {below : List Frame} {meth : Method} {c : Code} {H : Heap} {cells slots : Nat} {Q : State → Prop}
variable {D : va_G} {a : Nat → Nat} {M : nf_M} {ls : Array Slot} {b L : Nat} {xs : Nat → Int32} {i5 : Int32} {kc ks : Nat} {k : nf_M → Prop}
theorem d_L_law_120 : decode nb_L_law 120 = .ok (.aload_n 1, 1) := by decide +kernel
theorem d_L_law_121 : decode nb_L_law 121 = .ok (.aload_n 0, 1) := by decide +kernel
theorem d_L_law_122 : decode nb_L_law 122 = .ok (.iload 5, 2) := by decide +kernel
theorem d_L_law_124 : decode nb_L_law 124 = .ok (.iconst 1, 1) := by decide +kernel
theorem d_L_law_125 : decode nb_L_law 125 = .ok (.iadd, 1) := by decide +kernel
theorem d_L_law_126 : decode nb_L_law 126 = .ok (.iaload, 1) := by decide +kernel
theorem d_L_law_127 : decode nb_L_law 127 = .ok (.i2l, 1) := by decide +kernel
theorem d_L_law_128 : decode nb_L_law 128 = .ok (.bipush 32, 2) := by decide +kernel
theorem d_L_law_130 : decode nb_L_law 130 = .ok (.lshl, 1) := by decide +kernel
theorem d_L_law_131 : decode nb_L_law 131 = .ok (.aload_n 0, 1) := by decide +kernel
theorem d_L_law_132 : decode nb_L_law 132 = .ok (.iload 5, 2) := by decide +kernel
theorem d_L_law_134 : decode nb_L_law 134 = .ok (.iconst 2, 1) := by decide +kernel
theorem d_L_law_135 : decode nb_L_law 135 = .ok (.iadd, 1) := by decide +kernel
theorem d_L_law_136 : decode nb_L_law 136 = .ok (.iaload, 1) := by decide +kernel
theorem d_L_law_137 : decode nb_L_law 137 = .ok (.i2l, 1) := by decide +kernel
theorem d_L_law_138 : decode nb_L_law 138 = .ok (.ldc2_w 60, 3) := by decide +kernel
theorem d_L_law_141 : decode nb_L_law 141 = .ok (.land, 1) := by decide +kernel
theorem d_L_law_142 : decode nb_L_law 142 = .ok (.lor, 1) := by decide +kernel
theorem d_L_law_143 : decode nb_L_law 143 = .ok (.invokevirtual 62, 3) := by decide +kernel
theorem d_L_law_146 : decode nb_L_law 146 = .ok (.aload_n 2, 1) := by decide +kernel
theorem d_L_law_147 : decode nb_L_law 147 = .ok (.aload_n 0, 1) := by decide +kernel
theorem d_L_law_148 : decode nb_L_law 148 = .ok (.iload 5, 2) := by decide +kernel
theorem d_L_law_150 : decode nb_L_law 150 = .ok (.iconst 1, 1) := by decide +kernel
theorem d_L_law_151 : decode nb_L_law 151 = .ok (.iadd, 1) := by decide +kernel
theorem d_L_law_152 : decode nb_L_law 152 = .ok (.iaload, 1) := by decide +kernel
theorem d_L_law_153 : decode nb_L_law 153 = .ok (.i2l, 1) := by decide +kernel
theorem d_L_law_154 : decode nb_L_law 154 = .ok (.bipush 32, 2) := by decide +kernel
theorem d_L_law_156 : decode nb_L_law 156 = .ok (.lshl, 1) := by decide +kernel
theorem d_L_law_157 : decode nb_L_law 157 = .ok (.aload_n 0, 1) := by decide +kernel
theorem d_L_law_158 : decode nb_L_law 158 = .ok (.iload 5, 2) := by decide +kernel
theorem d_L_law_160 : decode nb_L_law 160 = .ok (.iconst 2, 1) := by decide +kernel
theorem d_L_law_161 : decode nb_L_law 161 = .ok (.iadd, 1) := by decide +kernel
theorem d_L_law_162 : decode nb_L_law 162 = .ok (.iaload, 1) := by decide +kernel
theorem d_L_law_163 : decode nb_L_law 163 = .ok (.i2l, 1) := by decide +kernel
theorem d_L_law_164 : decode nb_L_law 164 = .ok (.ldc2_w 60, 3) := by decide +kernel
theorem d_L_law_167 : decode nb_L_law 167 = .ok (.land, 1) := by decide +kernel
theorem d_L_law_168 : decode nb_L_law 168 = .ok (.lor, 1) := by decide +kernel
theorem d_L_law_169 : decode nb_L_law 169 = .ok (.invokevirtual 66, 3) := by decide +kernel
theorem d_L_law_172 : decode nb_L_law 172 = .ok (.if_icmp .eq 755, 3) := by decide +kernel
theorem d_L_law_175 : decode nb_L_law 175 = .ok (.iconst 0, 1) := by decide +kernel
theorem d_L_law_177 : decode nb_L_law 177 = .ok (.aload_n 1, 1) := by decide +kernel
theorem d_L_law_178 : decode nb_L_law 178 = .ok (.invokevirtual 67, 3) := by decide +kernel
theorem d_L_law_181 : decode nb_L_law 181 = .ok (.aload_n 2, 1) := by decide +kernel
theorem d_L_law_182 : decode nb_L_law 182 = .ok (.invokevirtual 70, 3) := by decide +kernel
theorem d_L_law_185 : decode nb_L_law 185 = .ok (.goto 742, 3) := by decide +kernel
theorem d_L_law_188 : decode nb_L_law 188 = .ok (.aload_n 1, 1) := by decide +kernel
theorem d_L_law_189 : decode nb_L_law 189 = .ok (.aload_n 0, 1) := by decide +kernel
theorem d_L_law_190 : decode nb_L_law 190 = .ok (.iload 5, 2) := by decide +kernel
theorem d_L_law_192 : decode nb_L_law 192 = .ok (.iconst 1, 1) := by decide +kernel
theorem d_L_law_193 : decode nb_L_law 193 = .ok (.iadd, 1) := by decide +kernel
theorem d_L_law_194 : decode nb_L_law 194 = .ok (.iaload, 1) := by decide +kernel
theorem d_L_law_195 : decode nb_L_law 195 = .ok (.aload_n 0, 1) := by decide +kernel
theorem d_L_law_196 : decode nb_L_law 196 = .ok (.iload 5, 2) := by decide +kernel
theorem d_L_law_198 : decode nb_L_law 198 = .ok (.iconst 2, 1) := by decide +kernel
theorem d_L_law_199 : decode nb_L_law 199 = .ok (.iadd, 1) := by decide +kernel
theorem d_L_law_200 : decode nb_L_law 200 = .ok (.iaload, 1) := by decide +kernel
theorem d_L_law_201 : decode nb_L_law 201 = .ok (.invokestatic 71, 3) := by decide +kernel
theorem d_L_law_204 : decode nb_L_law 204 = .ok (.istore 6, 2) := by decide +kernel
theorem d_L_law_206 : decode nb_L_law 206 = .ok (.aload_n 2, 1) := by decide +kernel
theorem d_L_law_207 : decode nb_L_law 207 = .ok (.aload_n 0, 1) := by decide +kernel
theorem d_L_law_208 : decode nb_L_law 208 = .ok (.iload 5, 2) := by decide +kernel
theorem d_L_law_210 : decode nb_L_law 210 = .ok (.iconst 1, 1) := by decide +kernel
theorem d_L_law_211 : decode nb_L_law 211 = .ok (.iadd, 1) := by decide +kernel
theorem d_L_law_212 : decode nb_L_law 212 = .ok (.iaload, 1) := by decide +kernel
theorem d_L_law_213 : decode nb_L_law 213 = .ok (.aload_n 0, 1) := by decide +kernel
theorem d_L_law_214 : decode nb_L_law 214 = .ok (.iload 5, 2) := by decide +kernel
theorem d_L_law_216 : decode nb_L_law 216 = .ok (.iconst 2, 1) := by decide +kernel
theorem d_L_law_217 : decode nb_L_law 217 = .ok (.iadd, 1) := by decide +kernel
theorem d_L_law_218 : decode nb_L_law 218 = .ok (.iaload, 1) := by decide +kernel
theorem d_L_law_219 : decode nb_L_law 219 = .ok (.invokevirtual 76, 3) := by decide +kernel
theorem d_L_law_222 : decode nb_L_law 222 = .ok (.aload_n 2, 1) := by decide +kernel
theorem d_L_law_223 : decode nb_L_law 223 = .ok (.invokevirtual 77, 3) := by decide +kernel
theorem d_L_law_226 : decode nb_L_law 226 = .ok (.iload 6, 2) := by decide +kernel
theorem d_L_law_228 : decode nb_L_law 228 = .ok (.if_icmp .eq 5, 3) := by decide +kernel
theorem d_L_law_231 : decode nb_L_law 231 = .ok (.iconst 0, 1) := by decide +kernel
theorem d_L_law_233 : decode nb_L_law 233 = .ok (.goto 694, 3) := by decide +kernel
theorem d_L_law_236 : decode nb_L_law 236 = .ok (.aload_n 1, 1) := by decide +kernel
theorem d_L_law_237 : decode nb_L_law 237 = .ok (.aload_n 0, 1) := by decide +kernel
theorem d_L_law_238 : decode nb_L_law 238 = .ok (.iload 5, 2) := by decide +kernel
theorem d_L_law_240 : decode nb_L_law 240 = .ok (.iconst 1, 1) := by decide +kernel
theorem d_L_law_241 : decode nb_L_law 241 = .ok (.iadd, 1) := by decide +kernel
theorem d_L_law_242 : decode nb_L_law 242 = .ok (.iaload, 1) := by decide +kernel
theorem d_L_law_243 : decode nb_L_law 243 = .ok (.aload_n 0, 1) := by decide +kernel
theorem d_L_law_244 : decode nb_L_law 244 = .ok (.iload 5, 2) := by decide +kernel
theorem d_L_law_246 : decode nb_L_law 246 = .ok (.iconst 2, 1) := by decide +kernel
theorem d_L_law_247 : decode nb_L_law 247 = .ok (.iadd, 1) := by decide +kernel
theorem d_L_law_248 : decode nb_L_law 248 = .ok (.iaload, 1) := by decide +kernel
theorem d_L_law_249 : decode nb_L_law 249 = .ok (.i2d, 1) := by decide +kernel
theorem d_L_law_250 : decode nb_L_law 250 = .ok (.ldc2_w 81, 3) := by decide +kernel
theorem d_L_law_253 : decode nb_L_law 253 = .ok (.dmul, 1) := by decide +kernel
theorem d_L_law_254 : decode nb_L_law 254 = .ok (.aload_n 0, 1) := by decide +kernel
theorem d_L_law_255 : decode nb_L_law 255 = .ok (.iload 5, 2) := by decide +kernel
theorem d_L_law_257 : decode nb_L_law 257 = .ok (.iconst 3, 1) := by decide +kernel
theorem d_L_law_258 : decode nb_L_law 258 = .ok (.iadd, 1) := by decide +kernel
theorem d_L_law_259 : decode nb_L_law 259 = .ok (.iaload, 1) := by decide +kernel
theorem d_L_law_260 : decode nb_L_law 260 = .ok (.ifCond .eq 7, 3) := by decide +kernel
theorem d_L_law_263 : decode nb_L_law 263 = .ok (.iconst 1, 1) := by decide +kernel
theorem d_L_law_264 : decode nb_L_law 264 = .ok (.goto 4, 3) := by decide +kernel
theorem d_L_law_267 : decode nb_L_law 267 = .ok (.iconst 0, 1) := by decide +kernel
theorem d_L_law_268 : decode nb_L_law 268 = .ok (.invokestatic 83, 3) := by decide +kernel
theorem d_L_law_271 : decode nb_L_law 271 = .ok (.istore 6, 2) := by decide +kernel
theorem d_L_law_273 : decode nb_L_law 273 = .ok (.aload_n 2, 1) := by decide +kernel
theorem d_L_law_274 : decode nb_L_law 274 = .ok (.aload_n 0, 1) := by decide +kernel
theorem d_L_law_275 : decode nb_L_law 275 = .ok (.iload 5, 2) := by decide +kernel
theorem d_L_law_277 : decode nb_L_law 277 = .ok (.iconst 1, 1) := by decide +kernel
theorem d_L_law_278 : decode nb_L_law 278 = .ok (.iadd, 1) := by decide +kernel
theorem d_L_law_279 : decode nb_L_law 279 = .ok (.iaload, 1) := by decide +kernel
theorem d_L_law_280 : decode nb_L_law 280 = .ok (.aload_n 0, 1) := by decide +kernel
theorem d_L_law_281 : decode nb_L_law 281 = .ok (.iload 5, 2) := by decide +kernel
theorem d_L_law_283 : decode nb_L_law 283 = .ok (.iconst 2, 1) := by decide +kernel
theorem d_L_law_284 : decode nb_L_law 284 = .ok (.iadd, 1) := by decide +kernel
theorem d_L_law_285 : decode nb_L_law 285 = .ok (.iaload, 1) := by decide +kernel
theorem d_L_law_286 : decode nb_L_law 286 = .ok (.i2d, 1) := by decide +kernel
theorem d_L_law_287 : decode nb_L_law 287 = .ok (.ldc2_w 81, 3) := by decide +kernel
theorem d_L_law_290 : decode nb_L_law 290 = .ok (.dmul, 1) := by decide +kernel
theorem d_L_law_291 : decode nb_L_law 291 = .ok (.aload_n 0, 1) := by decide +kernel
theorem d_L_law_292 : decode nb_L_law 292 = .ok (.iload 5, 2) := by decide +kernel
theorem d_L_law_294 : decode nb_L_law 294 = .ok (.iconst 3, 1) := by decide +kernel
theorem d_L_law_295 : decode nb_L_law 295 = .ok (.iadd, 1) := by decide +kernel
theorem d_L_law_296 : decode nb_L_law 296 = .ok (.iaload, 1) := by decide +kernel
theorem d_L_law_297 : decode nb_L_law 297 = .ok (.ifCond .eq 7, 3) := by decide +kernel
theorem d_L_law_300 : decode nb_L_law 300 = .ok (.iconst 1, 1) := by decide +kernel
theorem d_L_law_301 : decode nb_L_law 301 = .ok (.goto 4, 3) := by decide +kernel
theorem d_L_law_304 : decode nb_L_law 304 = .ok (.iconst 0, 1) := by decide +kernel
theorem d_L_law_305 : decode nb_L_law 305 = .ok (.invokevirtual 86, 3) := by decide +kernel
theorem d_L_law_308 : decode nb_L_law 308 = .ok (.aload_n 2, 1) := by decide +kernel
theorem d_L_law_309 : decode nb_L_law 309 = .ok (.invokevirtual 77, 3) := by decide +kernel
theorem d_L_law_312 : decode nb_L_law 312 = .ok (.iload 6, 2) := by decide +kernel
theorem d_L_law_314 : decode nb_L_law 314 = .ok (.if_icmp .eq 5, 3) := by decide +kernel
theorem d_L_law_317 : decode nb_L_law 317 = .ok (.iconst 0, 1) := by decide +kernel
theorem d_L_law_319 : decode nb_L_law 319 = .ok (.goto 608, 3) := by decide +kernel
theorem d_L_law_322 : decode nb_L_law 322 = .ok (.aload_n 1, 1) := by decide +kernel
theorem d_L_law_323 : decode nb_L_law 323 = .ok (.aload_n 0, 1) := by decide +kernel
theorem d_L_law_324 : decode nb_L_law 324 = .ok (.iload 5, 2) := by decide +kernel
theorem d_L_law_326 : decode nb_L_law 326 = .ok (.iconst 1, 1) := by decide +kernel
theorem d_L_law_327 : decode nb_L_law 327 = .ok (.iadd, 1) := by decide +kernel
theorem d_L_law_328 : decode nb_L_law 328 = .ok (.iaload, 1) := by decide +kernel
theorem d_L_law_329 : decode nb_L_law 329 = .ok (.aload_n 0, 1) := by decide +kernel
theorem d_L_law_330 : decode nb_L_law 330 = .ok (.iload 5, 2) := by decide +kernel
theorem d_L_law_332 : decode nb_L_law 332 = .ok (.iconst 2, 1) := by decide +kernel
theorem d_L_law_333 : decode nb_L_law 333 = .ok (.iadd, 1) := by decide +kernel
theorem d_L_law_334 : decode nb_L_law 334 = .ok (.iaload, 1) := by decide +kernel
theorem d_L_law_335 : decode nb_L_law 335 = .ok (.aload_n 0, 1) := by decide +kernel
theorem d_L_law_336 : decode nb_L_law 336 = .ok (.iload 5, 2) := by decide +kernel
theorem d_L_law_338 : decode nb_L_law 338 = .ok (.iconst 3, 1) := by decide +kernel
theorem d_L_law_339 : decode nb_L_law 339 = .ok (.iadd, 1) := by decide +kernel
theorem d_L_law_340 : decode nb_L_law 340 = .ok (.iaload, 1) := by decide +kernel
theorem d_L_law_341 : decode nb_L_law 341 = .ok (.aload_n 0, 1) := by decide +kernel
theorem d_L_law_342 : decode nb_L_law 342 = .ok (.iload 5, 2) := by decide +kernel
theorem d_L_law_344 : decode nb_L_law 344 = .ok (.iconst 4, 1) := by decide +kernel
theorem d_L_law_345 : decode nb_L_law 345 = .ok (.iadd, 1) := by decide +kernel
theorem d_L_law_346 : decode nb_L_law 346 = .ok (.iaload, 1) := by decide +kernel
theorem d_L_law_347 : decode nb_L_law 347 = .ok (.invokestatic 87, 3) := by decide +kernel
theorem d_L_law_350 : decode nb_L_law 350 = .ok (.istore 6, 2) := by decide +kernel
theorem d_L_law_352 : decode nb_L_law 352 = .ok (.aload_n 2, 1) := by decide +kernel
theorem d_L_law_353 : decode nb_L_law 353 = .ok (.aload_n 0, 1) := by decide +kernel
theorem d_L_law_354 : decode nb_L_law 354 = .ok (.iload 5, 2) := by decide +kernel
theorem d_L_law_356 : decode nb_L_law 356 = .ok (.iconst 1, 1) := by decide +kernel
theorem d_L_law_357 : decode nb_L_law 357 = .ok (.iadd, 1) := by decide +kernel
theorem d_L_law_358 : decode nb_L_law 358 = .ok (.iaload, 1) := by decide +kernel
theorem d_L_law_359 : decode nb_L_law 359 = .ok (.aload_n 0, 1) := by decide +kernel
theorem d_L_law_360 : decode nb_L_law 360 = .ok (.iload 5, 2) := by decide +kernel
theorem d_L_law_362 : decode nb_L_law 362 = .ok (.iconst 2, 1) := by decide +kernel
theorem d_L_law_363 : decode nb_L_law 363 = .ok (.iadd, 1) := by decide +kernel
theorem d_L_law_364 : decode nb_L_law 364 = .ok (.iaload, 1) := by decide +kernel
theorem d_L_law_365 : decode nb_L_law 365 = .ok (.aload_n 0, 1) := by decide +kernel
theorem d_L_law_366 : decode nb_L_law 366 = .ok (.iload 5, 2) := by decide +kernel
theorem d_L_law_368 : decode nb_L_law 368 = .ok (.iconst 3, 1) := by decide +kernel
theorem d_L_law_369 : decode nb_L_law 369 = .ok (.iadd, 1) := by decide +kernel
theorem d_L_law_370 : decode nb_L_law 370 = .ok (.iaload, 1) := by decide +kernel
theorem d_L_law_371 : decode nb_L_law 371 = .ok (.aload_n 0, 1) := by decide +kernel
theorem d_L_law_372 : decode nb_L_law 372 = .ok (.iload 5, 2) := by decide +kernel
theorem d_L_law_374 : decode nb_L_law 374 = .ok (.iconst 4, 1) := by decide +kernel
theorem d_L_law_375 : decode nb_L_law 375 = .ok (.iadd, 1) := by decide +kernel
theorem d_L_law_376 : decode nb_L_law 376 = .ok (.iaload, 1) := by decide +kernel
theorem d_L_law_377 : decode nb_L_law 377 = .ok (.invokevirtual 90, 3) := by decide +kernel
theorem d_L_law_380 : decode nb_L_law 380 = .ok (.aload_n 2, 1) := by decide +kernel
theorem d_L_law_381 : decode nb_L_law 381 = .ok (.invokevirtual 77, 3) := by decide +kernel
theorem d_L_law_384 : decode nb_L_law 384 = .ok (.iload 6, 2) := by decide +kernel
theorem d_L_law_386 : decode nb_L_law 386 = .ok (.if_icmp .eq 5, 3) := by decide +kernel
theorem d_L_law_389 : decode nb_L_law 389 = .ok (.iconst 0, 1) := by decide +kernel
theorem d_L_law_391 : decode nb_L_law 391 = .ok (.goto 536, 3) := by decide +kernel
theorem d_L_law_394 : decode nb_L_law 394 = .ok (.aload_n 1, 1) := by decide +kernel
theorem d_L_law_395 : decode nb_L_law 395 = .ok (.aload_n 0, 1) := by decide +kernel
theorem d_L_law_396 : decode nb_L_law 396 = .ok (.iload 5, 2) := by decide +kernel
theorem d_L_law_398 : decode nb_L_law 398 = .ok (.iconst 1, 1) := by decide +kernel
theorem d_L_law_399 : decode nb_L_law 399 = .ok (.iadd, 1) := by decide +kernel
theorem d_L_law_400 : decode nb_L_law 400 = .ok (.iaload, 1) := by decide +kernel
theorem d_L_law_401 : decode nb_L_law 401 = .ok (.aload_n 0, 1) := by decide +kernel
theorem d_L_law_402 : decode nb_L_law 402 = .ok (.iload 5, 2) := by decide +kernel
theorem d_L_law_404 : decode nb_L_law 404 = .ok (.iconst 2, 1) := by decide +kernel
theorem d_L_law_405 : decode nb_L_law 405 = .ok (.iadd, 1) := by decide +kernel
theorem d_L_law_406 : decode nb_L_law 406 = .ok (.iaload, 1) := by decide +kernel
theorem d_L_law_407 : decode nb_L_law 407 = .ok (.aload_n 0, 1) := by decide +kernel
theorem d_L_law_408 : decode nb_L_law 408 = .ok (.iload 5, 2) := by decide +kernel
theorem d_L_law_410 : decode nb_L_law 410 = .ok (.iconst 3, 1) := by decide +kernel
theorem d_L_law_411 : decode nb_L_law 411 = .ok (.iadd, 1) := by decide +kernel
theorem d_L_law_412 : decode nb_L_law 412 = .ok (.iaload, 1) := by decide +kernel
theorem d_L_law_413 : decode nb_L_law 413 = .ok (.invokestatic 91, 3) := by decide +kernel
theorem d_L_law_416 : decode nb_L_law 416 = .ok (.istore 6, 2) := by decide +kernel
theorem d_L_law_418 : decode nb_L_law 418 = .ok (.aload_n 2, 1) := by decide +kernel
theorem d_L_law_419 : decode nb_L_law 419 = .ok (.aload_n 0, 1) := by decide +kernel
theorem d_L_law_420 : decode nb_L_law 420 = .ok (.iload 5, 2) := by decide +kernel
theorem d_L_law_422 : decode nb_L_law 422 = .ok (.iconst 1, 1) := by decide +kernel
theorem d_L_law_423 : decode nb_L_law 423 = .ok (.iadd, 1) := by decide +kernel
theorem d_L_law_424 : decode nb_L_law 424 = .ok (.iaload, 1) := by decide +kernel
theorem d_L_law_425 : decode nb_L_law 425 = .ok (.aload_n 0, 1) := by decide +kernel
theorem d_L_law_426 : decode nb_L_law 426 = .ok (.iload 5, 2) := by decide +kernel
theorem d_L_law_428 : decode nb_L_law 428 = .ok (.iconst 2, 1) := by decide +kernel
theorem d_L_law_429 : decode nb_L_law 429 = .ok (.iadd, 1) := by decide +kernel
theorem d_L_law_430 : decode nb_L_law 430 = .ok (.iaload, 1) := by decide +kernel
theorem d_L_law_431 : decode nb_L_law 431 = .ok (.aload_n 0, 1) := by decide +kernel
theorem d_L_law_432 : decode nb_L_law 432 = .ok (.iload 5, 2) := by decide +kernel
theorem d_L_law_434 : decode nb_L_law 434 = .ok (.iconst 3, 1) := by decide +kernel
theorem d_L_law_435 : decode nb_L_law 435 = .ok (.iadd, 1) := by decide +kernel
theorem d_L_law_436 : decode nb_L_law 436 = .ok (.iaload, 1) := by decide +kernel
theorem d_L_law_437 : decode nb_L_law 437 = .ok (.invokevirtual 94, 3) := by decide +kernel
theorem d_L_law_440 : decode nb_L_law 440 = .ok (.aload_n 2, 1) := by decide +kernel
theorem d_L_law_441 : decode nb_L_law 441 = .ok (.invokevirtual 77, 3) := by decide +kernel
theorem d_L_law_444 : decode nb_L_law 444 = .ok (.iload 6, 2) := by decide +kernel
theorem d_L_law_446 : decode nb_L_law 446 = .ok (.if_icmp .eq 5, 3) := by decide +kernel
theorem d_L_law_449 : decode nb_L_law 449 = .ok (.iconst 0, 1) := by decide +kernel
theorem d_L_law_451 : decode nb_L_law 451 = .ok (.goto 476, 3) := by decide +kernel
theorem d_L_law_454 : decode nb_L_law 454 = .ok (.aload_n 1, 1) := by decide +kernel
theorem d_L_law_455 : decode nb_L_law 455 = .ok (.aload_n 0, 1) := by decide +kernel
theorem d_L_law_456 : decode nb_L_law 456 = .ok (.iload 5, 2) := by decide +kernel
theorem d_L_law_458 : decode nb_L_law 458 = .ok (.iconst 1, 1) := by decide +kernel
theorem d_L_law_459 : decode nb_L_law 459 = .ok (.iadd, 1) := by decide +kernel
theorem d_L_law_460 : decode nb_L_law 460 = .ok (.iaload, 1) := by decide +kernel
theorem d_L_law_461 : decode nb_L_law 461 = .ok (.aload_n 0, 1) := by decide +kernel
theorem d_L_law_462 : decode nb_L_law 462 = .ok (.iload 5, 2) := by decide +kernel
theorem d_L_law_464 : decode nb_L_law 464 = .ok (.iconst 2, 1) := by decide +kernel
theorem d_L_law_465 : decode nb_L_law 465 = .ok (.iadd, 1) := by decide +kernel
theorem d_L_law_466 : decode nb_L_law 466 = .ok (.iaload, 1) := by decide +kernel
theorem d_L_law_467 : decode nb_L_law 467 = .ok (.aload_n 0, 1) := by decide +kernel
theorem d_L_law_468 : decode nb_L_law 468 = .ok (.iload 5, 2) := by decide +kernel
theorem d_L_law_470 : decode nb_L_law 470 = .ok (.iconst 3, 1) := by decide +kernel
theorem d_L_law_471 : decode nb_L_law 471 = .ok (.iadd, 1) := by decide +kernel
theorem d_L_law_472 : decode nb_L_law 472 = .ok (.iaload, 1) := by decide +kernel
theorem d_L_law_473 : decode nb_L_law 473 = .ok (.invokestatic 95, 3) := by decide +kernel
theorem d_L_law_476 : decode nb_L_law 476 = .ok (.istore 6, 2) := by decide +kernel
theorem d_L_law_478 : decode nb_L_law 478 = .ok (.aload_n 2, 1) := by decide +kernel
theorem d_L_law_479 : decode nb_L_law 479 = .ok (.aload_n 0, 1) := by decide +kernel
theorem d_L_law_480 : decode nb_L_law 480 = .ok (.iload 5, 2) := by decide +kernel
theorem d_L_law_482 : decode nb_L_law 482 = .ok (.iconst 1, 1) := by decide +kernel
theorem d_L_law_483 : decode nb_L_law 483 = .ok (.iadd, 1) := by decide +kernel
theorem d_L_law_484 : decode nb_L_law 484 = .ok (.iaload, 1) := by decide +kernel
theorem d_L_law_485 : decode nb_L_law 485 = .ok (.aload_n 0, 1) := by decide +kernel
theorem d_L_law_486 : decode nb_L_law 486 = .ok (.iload 5, 2) := by decide +kernel
theorem d_L_law_488 : decode nb_L_law 488 = .ok (.iconst 2, 1) := by decide +kernel
theorem d_L_law_489 : decode nb_L_law 489 = .ok (.iadd, 1) := by decide +kernel
theorem d_L_law_490 : decode nb_L_law 490 = .ok (.iaload, 1) := by decide +kernel
theorem d_L_law_491 : decode nb_L_law 491 = .ok (.aload_n 0, 1) := by decide +kernel
theorem d_L_law_492 : decode nb_L_law 492 = .ok (.iload 5, 2) := by decide +kernel
theorem d_L_law_494 : decode nb_L_law 494 = .ok (.iconst 3, 1) := by decide +kernel
theorem d_L_law_495 : decode nb_L_law 495 = .ok (.iadd, 1) := by decide +kernel
theorem d_L_law_496 : decode nb_L_law 496 = .ok (.iaload, 1) := by decide +kernel
theorem d_L_law_497 : decode nb_L_law 497 = .ok (.invokevirtual 97, 3) := by decide +kernel
theorem d_L_law_500 : decode nb_L_law 500 = .ok (.aload_n 2, 1) := by decide +kernel
theorem d_L_law_501 : decode nb_L_law 501 = .ok (.invokevirtual 77, 3) := by decide +kernel
theorem d_L_law_504 : decode nb_L_law 504 = .ok (.iload 6, 2) := by decide +kernel
theorem d_L_law_506 : decode nb_L_law 506 = .ok (.if_icmp .eq 5, 3) := by decide +kernel
theorem d_L_law_509 : decode nb_L_law 509 = .ok (.iconst 0, 1) := by decide +kernel
theorem d_L_law_511 : decode nb_L_law 511 = .ok (.goto 416, 3) := by decide +kernel
theorem d_L_law_514 : decode nb_L_law 514 = .ok (.aload_n 1, 1) := by decide +kernel
theorem d_L_law_515 : decode nb_L_law 515 = .ok (.aload_n 0, 1) := by decide +kernel
theorem d_L_law_516 : decode nb_L_law 516 = .ok (.iload 5, 2) := by decide +kernel
theorem d_L_law_518 : decode nb_L_law 518 = .ok (.iconst 1, 1) := by decide +kernel
theorem d_L_law_519 : decode nb_L_law 519 = .ok (.iadd, 1) := by decide +kernel
theorem d_L_law_520 : decode nb_L_law 520 = .ok (.iaload, 1) := by decide +kernel
theorem d_L_law_521 : decode nb_L_law 521 = .ok (.aload_n 0, 1) := by decide +kernel
theorem d_L_law_522 : decode nb_L_law 522 = .ok (.iload 5, 2) := by decide +kernel
theorem d_L_law_524 : decode nb_L_law 524 = .ok (.iconst 2, 1) := by decide +kernel
theorem d_L_law_525 : decode nb_L_law 525 = .ok (.iadd, 1) := by decide +kernel
theorem d_L_law_526 : decode nb_L_law 526 = .ok (.iaload, 1) := by decide +kernel
theorem d_L_law_527 : decode nb_L_law 527 = .ok (.aload_n 3, 1) := by decide +kernel
theorem d_L_law_528 : decode nb_L_law 528 = .ok (.invokestatic 98, 3) := by decide +kernel
theorem d_L_law_531 : decode nb_L_law 531 = .ok (.istore 6, 2) := by decide +kernel
theorem d_L_law_533 : decode nb_L_law 533 = .ok (.aload_n 2, 1) := by decide +kernel
theorem d_L_law_534 : decode nb_L_law 534 = .ok (.aload_n 0, 1) := by decide +kernel
theorem d_L_law_535 : decode nb_L_law 535 = .ok (.iload 5, 2) := by decide +kernel
theorem d_L_law_537 : decode nb_L_law 537 = .ok (.iconst 1, 1) := by decide +kernel
theorem d_L_law_538 : decode nb_L_law 538 = .ok (.iadd, 1) := by decide +kernel
theorem d_L_law_539 : decode nb_L_law 539 = .ok (.iaload, 1) := by decide +kernel
theorem d_L_law_540 : decode nb_L_law 540 = .ok (.aload_n 0, 1) := by decide +kernel
theorem d_L_law_541 : decode nb_L_law 541 = .ok (.iload 5, 2) := by decide +kernel
theorem d_L_law_543 : decode nb_L_law 543 = .ok (.iconst 2, 1) := by decide +kernel
theorem d_L_law_544 : decode nb_L_law 544 = .ok (.iadd, 1) := by decide +kernel
theorem d_L_law_545 : decode nb_L_law 545 = .ok (.iaload, 1) := by decide +kernel
theorem d_L_law_546 : decode nb_L_law 546 = .ok (.invokevirtual 101, 3) := by decide +kernel
theorem d_L_law_549 : decode nb_L_law 549 = .ok (.istore 7, 2) := by decide +kernel
theorem d_L_law_551 : decode nb_L_law 551 = .ok (.aload_n 2, 1) := by decide +kernel
theorem d_L_law_552 : decode nb_L_law 552 = .ok (.invokevirtual 77, 3) := by decide +kernel
theorem d_L_law_555 : decode nb_L_law 555 = .ok (.iload 6, 2) := by decide +kernel
theorem d_L_law_557 : decode nb_L_law 557 = .ok (.if_icmp .eq 5, 3) := by decide +kernel
theorem d_L_law_560 : decode nb_L_law 560 = .ok (.iconst 0, 1) := by decide +kernel
theorem d_L_law_562 : decode nb_L_law 562 = .ok (.iload 6, 2) := by decide +kernel
theorem d_L_law_564 : decode nb_L_law 564 = .ok (.ifCond .ne 15, 3) := by decide +kernel
theorem d_L_law_567 : decode nb_L_law 567 = .ok (.aload_n 3, 1) := by decide +kernel
theorem d_L_law_568 : decode nb_L_law 568 = .ok (.iconst 0, 1) := by decide +kernel
theorem d_L_law_569 : decode nb_L_law 569 = .ok (.laload, 1) := by decide +kernel
theorem d_L_law_570 : decode nb_L_law 570 = .ok (.iload 7, 2) := by decide +kernel
theorem d_L_law_572 : decode nb_L_law 572 = .ok (.i2l, 1) := by decide +kernel
theorem d_L_law_573 : decode nb_L_law 573 = .ok (.lcmp, 1) := by decide +kernel
theorem d_L_law_574 : decode nb_L_law 574 = .ok (.ifCond .eq 5, 3) := by decide +kernel
theorem d_L_law_577 : decode nb_L_law 577 = .ok (.iconst 0, 1) := by decide +kernel
theorem d_L_law_579 : decode nb_L_law 579 = .ok (.goto 348, 3) := by decide +kernel
theorem d_L_law_582 : decode nb_L_law 582 = .ok (.aload_n 1, 1) := by decide +kernel
theorem d_L_law_583 : decode nb_L_law 583 = .ok (.aload_n 0, 1) := by decide +kernel
theorem d_L_law_584 : decode nb_L_law 584 = .ok (.iload 5, 2) := by decide +kernel
theorem d_L_law_586 : decode nb_L_law 586 = .ok (.iconst 1, 1) := by decide +kernel
theorem d_L_law_587 : decode nb_L_law 587 = .ok (.iadd, 1) := by decide +kernel
theorem d_L_law_588 : decode nb_L_law 588 = .ok (.iaload, 1) := by decide +kernel
theorem d_L_law_589 : decode nb_L_law 589 = .ok (.invokevirtual 102, 3) := by decide +kernel
theorem d_L_law_592 : decode nb_L_law 592 = .ok (.aload_n 2, 1) := by decide +kernel
theorem d_L_law_593 : decode nb_L_law 593 = .ok (.aload_n 0, 1) := by decide +kernel
theorem d_L_law_594 : decode nb_L_law 594 = .ok (.iload 5, 2) := by decide +kernel
theorem d_L_law_596 : decode nb_L_law 596 = .ok (.iconst 1, 1) := by decide +kernel
theorem d_L_law_597 : decode nb_L_law 597 = .ok (.iadd, 1) := by decide +kernel
theorem d_L_law_598 : decode nb_L_law 598 = .ok (.iaload, 1) := by decide +kernel
theorem d_L_law_599 : decode nb_L_law 599 = .ok (.invokevirtual 105, 3) := by decide +kernel
theorem d_L_law_602 : decode nb_L_law 602 = .ok (.if_icmp .eq 325, 3) := by decide +kernel
theorem d_L_law_605 : decode nb_L_law 605 = .ok (.iconst 0, 1) := by decide +kernel
theorem d_L_law_607 : decode nb_L_law 607 = .ok (.aload_n 1, 1) := by decide +kernel
theorem d_L_law_608 : decode nb_L_law 608 = .ok (.aload_n 0, 1) := by decide +kernel
theorem d_L_law_609 : decode nb_L_law 609 = .ok (.iload 5, 2) := by decide +kernel
theorem d_L_law_611 : decode nb_L_law 611 = .ok (.iconst 1, 1) := by decide +kernel
theorem d_L_law_612 : decode nb_L_law 612 = .ok (.iadd, 1) := by decide +kernel
theorem d_L_law_613 : decode nb_L_law 613 = .ok (.iaload, 1) := by decide +kernel
theorem d_L_law_614 : decode nb_L_law 614 = .ok (.aload 4, 2) := by decide +kernel
theorem d_L_law_616 : decode nb_L_law 616 = .ok (.invokestatic 106, 3) := by decide +kernel
theorem d_L_law_619 : decode nb_L_law 619 = .ok (.istore 6, 2) := by decide +kernel
theorem d_L_law_621 : decode nb_L_law 621 = .ok (.aload_n 2, 1) := by decide +kernel
theorem d_L_law_622 : decode nb_L_law 622 = .ok (.aload_n 0, 1) := by decide +kernel
theorem d_L_law_623 : decode nb_L_law 623 = .ok (.iload 5, 2) := by decide +kernel
theorem d_L_law_625 : decode nb_L_law 625 = .ok (.iconst 1, 1) := by decide +kernel
theorem d_L_law_626 : decode nb_L_law 626 = .ok (.iadd, 1) := by decide +kernel
theorem d_L_law_627 : decode nb_L_law 627 = .ok (.iaload, 1) := by decide +kernel
theorem d_L_law_628 : decode nb_L_law 628 = .ok (.invokevirtual 109, 3) := by decide +kernel
theorem d_L_law_631 : decode nb_L_law 631 = .ok (.dstore 7, 2) := by decide +kernel
theorem d_L_law_633 : decode nb_L_law 633 = .ok (.aload_n 2, 1) := by decide +kernel
theorem d_L_law_634 : decode nb_L_law 634 = .ok (.invokevirtual 77, 3) := by decide +kernel
theorem d_L_law_637 : decode nb_L_law 637 = .ok (.iload 6, 2) := by decide +kernel
theorem d_L_law_639 : decode nb_L_law 639 = .ok (.if_icmp .eq 5, 3) := by decide +kernel
theorem d_L_law_642 : decode nb_L_law 642 = .ok (.iconst 0, 1) := by decide +kernel
theorem d_L_law_644 : decode nb_L_law 644 = .ok (.iload 6, 2) := by decide +kernel
theorem d_L_law_646 : decode nb_L_law 646 = .ok (.ifCond .ne 35, 3) := by decide +kernel
theorem d_L_law_649 : decode nb_L_law 649 = .ok (.aload 4, 2) := by decide +kernel
theorem d_L_law_651 : decode nb_L_law 651 = .ok (.iconst 0, 1) := by decide +kernel
theorem d_L_law_652 : decode nb_L_law 652 = .ok (.daload, 1) := by decide +kernel
theorem d_L_law_653 : decode nb_L_law 653 = .ok (.dload 7, 2) := by decide +kernel
theorem d_L_law_655 : decode nb_L_law 655 = .ok (.dcmp .l, 1) := by decide +kernel
theorem d_L_law_656 : decode nb_L_law 656 = .ok (.ifCond .eq 25, 3) := by decide +kernel
theorem d_L_law_659 : decode nb_L_law 659 = .ok (.aload 4, 2) := by decide +kernel
theorem d_L_law_661 : decode nb_L_law 661 = .ok (.iconst 0, 1) := by decide +kernel
theorem d_L_law_662 : decode nb_L_law 662 = .ok (.daload, 1) := by decide +kernel
theorem d_L_law_663 : decode nb_L_law 663 = .ok (.aload 4, 2) := by decide +kernel
theorem d_L_law_665 : decode nb_L_law 665 = .ok (.iconst 0, 1) := by decide +kernel
theorem d_L_law_666 : decode nb_L_law 666 = .ok (.daload, 1) := by decide +kernel
theorem d_L_law_667 : decode nb_L_law 667 = .ok (.dcmp .l, 1) := by decide +kernel
theorem d_L_law_668 : decode nb_L_law 668 = .ok (.ifCond .eq 11, 3) := by decide +kernel
theorem d_L_law_671 : decode nb_L_law 671 = .ok (.dload 7, 2) := by decide +kernel
theorem d_L_law_673 : decode nb_L_law 673 = .ok (.dload 7, 2) := by decide +kernel
theorem d_L_law_675 : decode nb_L_law 675 = .ok (.dcmp .l, 1) := by decide +kernel
theorem d_L_law_676 : decode nb_L_law 676 = .ok (.ifCond .ne 5, 3) := by decide +kernel
theorem d_L_law_679 : decode nb_L_law 679 = .ok (.iconst 0, 1) := by decide +kernel
theorem d_L_law_681 : decode nb_L_law 681 = .ok (.goto 246, 3) := by decide +kernel
theorem d_L_law_684 : decode nb_L_law 684 = .ok (.aload_n 1, 1) := by decide +kernel
theorem d_L_law_685 : decode nb_L_law 685 = .ok (.aload_n 0, 1) := by decide +kernel
theorem d_L_law_686 : decode nb_L_law 686 = .ok (.iload 5, 2) := by decide +kernel
theorem d_L_law_688 : decode nb_L_law 688 = .ok (.iconst 1, 1) := by decide +kernel
theorem d_L_law_689 : decode nb_L_law 689 = .ok (.iadd, 1) := by decide +kernel
theorem d_L_law_690 : decode nb_L_law 690 = .ok (.iaload, 1) := by decide +kernel
theorem d_L_law_691 : decode nb_L_law 691 = .ok (.aload_n 0, 1) := by decide +kernel
theorem d_L_law_692 : decode nb_L_law 692 = .ok (.iload 5, 2) := by decide +kernel
theorem d_L_law_694 : decode nb_L_law 694 = .ok (.iconst 2, 1) := by decide +kernel
theorem d_L_law_695 : decode nb_L_law 695 = .ok (.iadd, 1) := by decide +kernel
theorem d_L_law_696 : decode nb_L_law 696 = .ok (.iaload, 1) := by decide +kernel
theorem d_L_law_697 : decode nb_L_law 697 = .ok (.invokevirtual 110, 3) := by decide +kernel
theorem d_L_law_700 : decode nb_L_law 700 = .ok (.aload_n 2, 1) := by decide +kernel
theorem d_L_law_701 : decode nb_L_law 701 = .ok (.aload_n 0, 1) := by decide +kernel
theorem d_L_law_702 : decode nb_L_law 702 = .ok (.iload 5, 2) := by decide +kernel
theorem d_L_law_704 : decode nb_L_law 704 = .ok (.iconst 1, 1) := by decide +kernel
theorem d_L_law_705 : decode nb_L_law 705 = .ok (.iadd, 1) := by decide +kernel
theorem d_L_law_706 : decode nb_L_law 706 = .ok (.iaload, 1) := by decide +kernel
theorem d_L_law_707 : decode nb_L_law 707 = .ok (.aload_n 0, 1) := by decide +kernel
theorem d_L_law_708 : decode nb_L_law 708 = .ok (.iload 5, 2) := by decide +kernel
theorem d_L_law_710 : decode nb_L_law 710 = .ok (.iconst 2, 1) := by decide +kernel
theorem d_L_law_711 : decode nb_L_law 711 = .ok (.iadd, 1) := by decide +kernel
theorem d_L_law_712 : decode nb_L_law 712 = .ok (.iaload, 1) := by decide +kernel
theorem d_L_law_713 : decode nb_L_law 713 = .ok (.invokevirtual 114, 3) := by decide +kernel
theorem d_L_law_716 : decode nb_L_law 716 = .ok (.lcmp, 1) := by decide +kernel
theorem d_L_law_717 : decode nb_L_law 717 = .ok (.ifCond .eq 210, 3) := by decide +kernel
theorem d_L_law_720 : decode nb_L_law 720 = .ok (.iconst 0, 1) := by decide +kernel
theorem d_L_law_722 : decode nb_L_law 722 = .ok (.aload_n 1, 1) := by decide +kernel
theorem d_L_law_723 : decode nb_L_law 723 = .ok (.aload_n 0, 1) := by decide +kernel
theorem d_L_law_724 : decode nb_L_law 724 = .ok (.iload 5, 2) := by decide +kernel
theorem d_L_law_726 : decode nb_L_law 726 = .ok (.iconst 1, 1) := by decide +kernel
theorem d_L_law_727 : decode nb_L_law 727 = .ok (.iadd, 1) := by decide +kernel
theorem d_L_law_728 : decode nb_L_law 728 = .ok (.iaload, 1) := by decide +kernel
theorem d_L_law_729 : decode nb_L_law 729 = .ok (.aload_n 3, 1) := by decide +kernel
theorem d_L_law_730 : decode nb_L_law 730 = .ok (.invokestatic 115, 3) := by decide +kernel
theorem d_L_law_733 : decode nb_L_law 733 = .ok (.istore 6, 2) := by decide +kernel
theorem d_L_law_735 : decode nb_L_law 735 = .ok (.aload_n 2, 1) := by decide +kernel
theorem d_L_law_736 : decode nb_L_law 736 = .ok (.aload_n 0, 1) := by decide +kernel
theorem d_L_law_737 : decode nb_L_law 737 = .ok (.iload 5, 2) := by decide +kernel
theorem d_L_law_739 : decode nb_L_law 739 = .ok (.iconst 1, 1) := by decide +kernel
theorem d_L_law_740 : decode nb_L_law 740 = .ok (.iadd, 1) := by decide +kernel
theorem d_L_law_741 : decode nb_L_law 741 = .ok (.iaload, 1) := by decide +kernel
theorem d_L_law_742 : decode nb_L_law 742 = .ok (.invokevirtual 118, 3) := by decide +kernel
theorem d_L_law_745 : decode nb_L_law 745 = .ok (.istore 7, 2) := by decide +kernel
theorem d_L_law_747 : decode nb_L_law 747 = .ok (.aload_n 2, 1) := by decide +kernel
theorem d_L_law_748 : decode nb_L_law 748 = .ok (.invokevirtual 77, 3) := by decide +kernel
theorem d_L_law_751 : decode nb_L_law 751 = .ok (.iload 6, 2) := by decide +kernel
theorem d_L_law_753 : decode nb_L_law 753 = .ok (.if_icmp .eq 5, 3) := by decide +kernel
theorem d_L_law_756 : decode nb_L_law 756 = .ok (.iconst 0, 1) := by decide +kernel
theorem d_L_law_758 : decode nb_L_law 758 = .ok (.iload 6, 2) := by decide +kernel
theorem d_L_law_760 : decode nb_L_law 760 = .ok (.ifCond .ne 15, 3) := by decide +kernel
theorem d_L_law_763 : decode nb_L_law 763 = .ok (.aload_n 3, 1) := by decide +kernel
theorem d_L_law_764 : decode nb_L_law 764 = .ok (.iconst 0, 1) := by decide +kernel
theorem d_L_law_765 : decode nb_L_law 765 = .ok (.laload, 1) := by decide +kernel
theorem d_L_law_766 : decode nb_L_law 766 = .ok (.iload 7, 2) := by decide +kernel
theorem d_L_law_768 : decode nb_L_law 768 = .ok (.i2l, 1) := by decide +kernel
theorem d_L_law_769 : decode nb_L_law 769 = .ok (.lcmp, 1) := by decide +kernel
theorem d_L_law_770 : decode nb_L_law 770 = .ok (.ifCond .eq 5, 3) := by decide +kernel
theorem d_L_law_773 : decode nb_L_law 773 = .ok (.iconst 0, 1) := by decide +kernel
theorem d_L_law_775 : decode nb_L_law 775 = .ok (.goto 152, 3) := by decide +kernel
theorem d_L_law_778 : decode nb_L_law 778 = .ok (.aload_n 1, 1) := by decide +kernel
theorem d_L_law_779 : decode nb_L_law 779 = .ok (.aload_n 0, 1) := by decide +kernel
theorem d_L_law_780 : decode nb_L_law 780 = .ok (.iload 5, 2) := by decide +kernel
theorem d_L_law_782 : decode nb_L_law 782 = .ok (.iconst 1, 1) := by decide +kernel
theorem d_L_law_783 : decode nb_L_law 783 = .ok (.iadd, 1) := by decide +kernel
theorem d_L_law_784 : decode nb_L_law 784 = .ok (.iaload, 1) := by decide +kernel
theorem d_L_law_785 : decode nb_L_law 785 = .ok (.aload_n 3, 1) := by decide +kernel
theorem d_L_law_786 : decode nb_L_law 786 = .ok (.invokestatic 119, 3) := by decide +kernel
theorem d_L_law_789 : decode nb_L_law 789 = .ok (.istore 6, 2) := by decide +kernel
theorem d_L_law_791 : decode nb_L_law 791 = .ok (.aload_n 2, 1) := by decide +kernel
theorem d_L_law_792 : decode nb_L_law 792 = .ok (.aload_n 0, 1) := by decide +kernel
theorem d_L_law_793 : decode nb_L_law 793 = .ok (.iload 5, 2) := by decide +kernel
theorem d_L_law_795 : decode nb_L_law 795 = .ok (.iconst 1, 1) := by decide +kernel
theorem d_L_law_796 : decode nb_L_law 796 = .ok (.iadd, 1) := by decide +kernel
theorem d_L_law_797 : decode nb_L_law 797 = .ok (.iaload, 1) := by decide +kernel
theorem d_L_law_798 : decode nb_L_law 798 = .ok (.invokevirtual 121, 3) := by decide +kernel
theorem d_L_law_801 : decode nb_L_law 801 = .ok (.istore 7, 2) := by decide +kernel
theorem d_L_law_803 : decode nb_L_law 803 = .ok (.aload_n 2, 1) := by decide +kernel
theorem d_L_law_804 : decode nb_L_law 804 = .ok (.invokevirtual 77, 3) := by decide +kernel
theorem d_L_law_807 : decode nb_L_law 807 = .ok (.iload 6, 2) := by decide +kernel
theorem d_L_law_809 : decode nb_L_law 809 = .ok (.if_icmp .eq 5, 3) := by decide +kernel
theorem d_L_law_812 : decode nb_L_law 812 = .ok (.iconst 0, 1) := by decide +kernel
theorem d_L_law_814 : decode nb_L_law 814 = .ok (.iload 6, 2) := by decide +kernel
theorem d_L_law_816 : decode nb_L_law 816 = .ok (.ifCond .ne 15, 3) := by decide +kernel
theorem d_L_law_819 : decode nb_L_law 819 = .ok (.aload_n 3, 1) := by decide +kernel
theorem d_L_law_820 : decode nb_L_law 820 = .ok (.iconst 0, 1) := by decide +kernel
theorem d_L_law_821 : decode nb_L_law 821 = .ok (.laload, 1) := by decide +kernel
theorem d_L_law_822 : decode nb_L_law 822 = .ok (.iload 7, 2) := by decide +kernel
theorem d_L_law_824 : decode nb_L_law 824 = .ok (.i2l, 1) := by decide +kernel
theorem d_L_law_825 : decode nb_L_law 825 = .ok (.lcmp, 1) := by decide +kernel
theorem d_L_law_826 : decode nb_L_law 826 = .ok (.ifCond .eq 5, 3) := by decide +kernel
theorem d_L_law_829 : decode nb_L_law 829 = .ok (.iconst 0, 1) := by decide +kernel
theorem d_L_law_831 : decode nb_L_law 831 = .ok (.goto 96, 3) := by decide +kernel
theorem d_L_law_834 : decode nb_L_law 834 = .ok (.aload_n 1, 1) := by decide +kernel
theorem d_L_law_835 : decode nb_L_law 835 = .ok (.aload_n 0, 1) := by decide +kernel
theorem d_L_law_836 : decode nb_L_law 836 = .ok (.iload 5, 2) := by decide +kernel
theorem d_L_law_838 : decode nb_L_law 838 = .ok (.iconst 1, 1) := by decide +kernel
theorem d_L_law_839 : decode nb_L_law 839 = .ok (.iadd, 1) := by decide +kernel
theorem d_L_law_840 : decode nb_L_law 840 = .ok (.iaload, 1) := by decide +kernel
theorem d_L_law_841 : decode nb_L_law 841 = .ok (.aload_n 0, 1) := by decide +kernel
theorem d_L_law_842 : decode nb_L_law 842 = .ok (.iload 5, 2) := by decide +kernel
theorem d_L_law_844 : decode nb_L_law 844 = .ok (.iconst 2, 1) := by decide +kernel
theorem d_L_law_845 : decode nb_L_law 845 = .ok (.iadd, 1) := by decide +kernel
theorem d_L_law_846 : decode nb_L_law 846 = .ok (.iaload, 1) := by decide +kernel
theorem d_L_law_847 : decode nb_L_law 847 = .ok (.aload_n 3, 1) := by decide +kernel
theorem d_L_law_848 : decode nb_L_law 848 = .ok (.invokestatic 122, 3) := by decide +kernel
theorem d_L_law_851 : decode nb_L_law 851 = .ok (.istore 6, 2) := by decide +kernel
theorem d_L_law_853 : decode nb_L_law 853 = .ok (.aload_n 2, 1) := by decide +kernel
theorem d_L_law_854 : decode nb_L_law 854 = .ok (.aload_n 0, 1) := by decide +kernel
theorem d_L_law_855 : decode nb_L_law 855 = .ok (.iload 5, 2) := by decide +kernel
theorem d_L_law_857 : decode nb_L_law 857 = .ok (.iconst 1, 1) := by decide +kernel
theorem d_L_law_858 : decode nb_L_law 858 = .ok (.iadd, 1) := by decide +kernel
theorem d_L_law_859 : decode nb_L_law 859 = .ok (.iaload, 1) := by decide +kernel
theorem d_L_law_860 : decode nb_L_law 860 = .ok (.aload_n 0, 1) := by decide +kernel
theorem d_L_law_861 : decode nb_L_law 861 = .ok (.iload 5, 2) := by decide +kernel
theorem d_L_law_863 : decode nb_L_law 863 = .ok (.iconst 2, 1) := by decide +kernel
theorem d_L_law_864 : decode nb_L_law 864 = .ok (.iadd, 1) := by decide +kernel
theorem d_L_law_865 : decode nb_L_law 865 = .ok (.iaload, 1) := by decide +kernel
theorem d_L_law_866 : decode nb_L_law 866 = .ok (.invokevirtual 124, 3) := by decide +kernel
theorem d_L_law_869 : decode nb_L_law 869 = .ok (.istore 7, 2) := by decide +kernel
theorem d_L_law_871 : decode nb_L_law 871 = .ok (.aload_n 2, 1) := by decide +kernel
theorem d_L_law_872 : decode nb_L_law 872 = .ok (.invokevirtual 77, 3) := by decide +kernel
theorem d_L_law_875 : decode nb_L_law 875 = .ok (.iload 6, 2) := by decide +kernel
theorem d_L_law_877 : decode nb_L_law 877 = .ok (.if_icmp .eq 5, 3) := by decide +kernel
theorem d_L_law_880 : decode nb_L_law 880 = .ok (.iconst 0, 1) := by decide +kernel
theorem d_L_law_882 : decode nb_L_law 882 = .ok (.iload 6, 2) := by decide +kernel
theorem d_L_law_884 : decode nb_L_law 884 = .ok (.ifCond .ne 15, 3) := by decide +kernel
theorem d_L_law_887 : decode nb_L_law 887 = .ok (.aload_n 3, 1) := by decide +kernel
theorem d_L_law_888 : decode nb_L_law 888 = .ok (.iconst 0, 1) := by decide +kernel
theorem d_L_law_889 : decode nb_L_law 889 = .ok (.laload, 1) := by decide +kernel
theorem d_L_law_890 : decode nb_L_law 890 = .ok (.iload 7, 2) := by decide +kernel
theorem d_L_law_892 : decode nb_L_law 892 = .ok (.i2l, 1) := by decide +kernel
theorem d_L_law_893 : decode nb_L_law 893 = .ok (.lcmp, 1) := by decide +kernel
theorem d_L_law_894 : decode nb_L_law 894 = .ok (.ifCond .eq 5, 3) := by decide +kernel
theorem d_L_law_897 : decode nb_L_law 897 = .ok (.iconst 0, 1) := by decide +kernel
theorem d_L_law_899 : decode nb_L_law 899 = .ok (.goto 28, 3) := by decide +kernel
theorem d_L_law_902 : decode nb_L_law 902 = .ok (.aload_n 1, 1) := by decide +kernel
theorem d_L_law_903 : decode nb_L_law 903 = .ok (.aload_n 0, 1) := by decide +kernel
theorem d_L_law_904 : decode nb_L_law 904 = .ok (.iload 5, 2) := by decide +kernel
theorem d_L_law_906 : decode nb_L_law 906 = .ok (.iconst 1, 1) := by decide +kernel
theorem d_L_law_907 : decode nb_L_law 907 = .ok (.iadd, 1) := by decide +kernel
theorem d_L_law_908 : decode nb_L_law 908 = .ok (.iaload, 1) := by decide +kernel
theorem d_L_law_909 : decode nb_L_law 909 = .ok (.invokevirtual 125, 3) := by decide +kernel
theorem d_L_law_912 : decode nb_L_law 912 = .ok (.aload_n 2, 1) := by decide +kernel
theorem d_L_law_913 : decode nb_L_law 913 = .ok (.aload_n 0, 1) := by decide +kernel
theorem d_L_law_914 : decode nb_L_law 914 = .ok (.iload 5, 2) := by decide +kernel
theorem d_L_law_916 : decode nb_L_law 916 = .ok (.iconst 1, 1) := by decide +kernel
theorem d_L_law_917 : decode nb_L_law 917 = .ok (.iadd, 1) := by decide +kernel
theorem d_L_law_918 : decode nb_L_law 918 = .ok (.iaload, 1) := by decide +kernel
theorem d_L_law_919 : decode nb_L_law 919 = .ok (.invokevirtual 128, 3) := by decide +kernel
theorem d_L_law_922 : decode nb_L_law 922 = .ok (.if_icmp .eq 5, 3) := by decide +kernel
theorem d_L_law_925 : decode nb_L_law 925 = .ok (.iconst 0, 1) := by decide +kernel
theorem w_arm0 (hfl : l.flags = flags0) (K : nf_KW p s m args meth c nr_L nb_L_law 9 D a) (hX : va_X b L xs s s.heap) (hbl : b < s.heap.size) {x1 : Int32} {x2 : Int32} (hi1 : vp_in (i5 + (1 : Int32)) L) (hv1 : xs (i5 + (1 : Int32)).toNatClampNeg = x1) (hi2 : vp_in (i5 + (2 : Int32)) L) (hv2 : xs (i5 + (2 : Int32)).toNatClampNeg = x2) (hkc : kc + 40 ≤ room_1.cells) (hks : ks + 240 ≤ room_1.slots) (hk : ∀ (M : nf_M) (H : Heap) (ls : Array Slot), k M → lv_has ls 9 (nf_lawL a b i5) → nf_W D a s s.heap.size H [] M → W p l e room_1 s m args below meth c H [] (kc + 40) (ks + 240) Q (F0 m 927 ls [])) (h : P_arm0 x1 x2 M k) (hl : lv_has ls 9 (nf_lawL a b i5)) (hw : nf_W D a s s.heap.size H [] M) :
    W p l e room_1 s m args below meth c H [] kc ks Q (F0 m 120 ls []) := by
  have hx := K.1
  have hb := K.2.1
  have hl : lv_has ls 9 [(0, .ref b), (1, .ref (a 0)), (2, .ref (a 19)), (3, .ref (a 27)), (4, .ref (a 28)), (5, .int i5)] := hl
  refine W.widen (k := kc + 0) (n := ks + 0) (Nat.le_refl _) (Nat.le_refl _) ?_
  refine lv_aload_n hx hb d_L_law_120 rfl (lv_at hl 1 rfl) ?_
  refine lv_aload_n hx hb d_L_law_121 rfl (lv_at hl 0 rfl) ?_
  refine lv_iload hx hb d_L_law_122 (lv_at hl 5 rfl) ?_
  refine lv_iconst (v := (1 : Int32)) hx hb d_L_law_124 (by decide) ?_
  refine lv_iadd hx hb d_L_law_125 ?_
  refine nf_sldW K hw hX hbl hi1 hv1 d_L_law_126 ?_
  refine lv_i2l hx hb d_L_law_127 rfl ?_
  refine lv_bipush (v := (32 : Int32)) hx hb d_L_law_128 (by decide) ?_
  refine lv_lshl hx hb d_L_law_130 rfl ?_
  refine lv_aload_n hx hb d_L_law_131 rfl (lv_at hl 0 rfl) ?_
  refine lv_iload hx hb d_L_law_132 (lv_at hl 5 rfl) ?_
  refine lv_iconst (v := (2 : Int32)) hx hb d_L_law_134 (by decide) ?_
  refine lv_iadd hx hb d_L_law_135 ?_
  refine nf_sldW K hw hX hbl hi2 hv2 d_L_law_136 ?_
  refine lv_i2l hx hb d_L_law_137 rfl ?_
  refine lv_ldc2 (v := (4294967295 : Int64)) hx hb K.2.2.2.1 (nf_KgW K nw_1280) d_L_law_138 ?_
  refine lv_land hx hb d_L_law_141 ?_
  refine lv_lor hx hb d_L_law_142 ?_
  refine nf_callLW (As := [.ref (a 0), .long (((x1.toInt64) <<< ((32 : Int32).toInt64 &&& 63)) ||| ((x2.toInt64) &&& (4294967295 : Int64)))]) (st0 := [.long (((x1.toInt64) <<< ((32 : Int32).toInt64 &&& 63)) ||| ((x2.toInt64) &&& (4294967295 : Int64))), .ref (a 0)]) (rest := []) K hw (nf_invV hx hb K.2.2.2.1 (nf_KgW K nw_193) (nf_KgW K nw_194) (nf_KgW K nw_195) (nf_KgW K nw_196) ⟨by decide, by decide⟩ (nf_rcvW K hw 0 6 rfl rfl) rfl nl_F_type rfl d_L_law_143) (c_F_type l hfl (((x1.toInt64) <<< ((32 : Int32).toInt64 &&& 63)) ||| ((x2.toInt64) &&& (4294967295 : Int64)))) nw_196 nw_1 rfl ⟨by decide, by decide⟩ (Nat.le_of_ble_eq_true rfl) hl.1 ⟨nf_roomle (n := 0) hkc (Nat.le_of_ble_eq_true rfl), nf_roomle (n := 0) hks (Nat.le_of_ble_eq_true rfl)⟩ h (fun r1 M2 H h hw => ?_)
  refine W.eq (g2 := F0 m 146 ls [.int r1]) rfl ?_
  refine W.widen (k := kc + 0) (n := ks + 0) (Nat.add_le_add_left (m := _) (Nat.le_of_ble_eq_true rfl) kc) (Nat.add_le_add_left (Nat.le_of_ble_eq_true rfl) ks) ?_
  refine lv_aload_n hx hb d_L_law_146 rfl (lv_at hl 2 rfl) ?_
  refine lv_aload_n hx hb d_L_law_147 rfl (lv_at hl 0 rfl) ?_
  refine lv_iload hx hb d_L_law_148 (lv_at hl 5 rfl) ?_
  refine lv_iconst (v := (1 : Int32)) hx hb d_L_law_150 (by decide) ?_
  refine lv_iadd hx hb d_L_law_151 ?_
  refine nf_sldW K hw hX hbl hi1 hv1 d_L_law_152 ?_
  refine lv_i2l hx hb d_L_law_153 rfl ?_
  refine lv_bipush (v := (32 : Int32)) hx hb d_L_law_154 (by decide) ?_
  refine lv_lshl hx hb d_L_law_156 rfl ?_
  refine lv_aload_n hx hb d_L_law_157 rfl (lv_at hl 0 rfl) ?_
  refine lv_iload hx hb d_L_law_158 (lv_at hl 5 rfl) ?_
  refine lv_iconst (v := (2 : Int32)) hx hb d_L_law_160 (by decide) ?_
  refine lv_iadd hx hb d_L_law_161 ?_
  refine nf_sldW K hw hX hbl hi2 hv2 d_L_law_162 ?_
  refine lv_i2l hx hb d_L_law_163 rfl ?_
  refine lv_ldc2 (v := (4294967295 : Int64)) hx hb K.2.2.2.1 (nf_KgW K nw_1280) d_L_law_164 ?_
  refine lv_land hx hb d_L_law_167 ?_
  refine lv_lor hx hb d_L_law_168 ?_
  refine nf_callLW (As := [.ref (a 19), .long (((x1.toInt64) <<< ((32 : Int32).toInt64 &&& 63)) ||| ((x2.toInt64) &&& (4294967295 : Int64)))]) (st0 := [.long (((x1.toInt64) <<< ((32 : Int32).toInt64 &&& 63)) ||| ((x2.toInt64) &&& (4294967295 : Int64))), .ref (a 19), .int r1]) (rest := [.int r1]) K hw (nf_invV hx hb K.2.2.2.1 (nf_KgW K nw_996) (nf_KgW K nw_997) (nf_KgW K nw_998) (nf_KgW K nw_999) ⟨by decide, by decide⟩ (nf_rcvW K hw 19 7 rfl rfl) rfl nl_M_type rfl d_L_law_169) (c_M_type l hfl (((x1.toInt64) <<< ((32 : Int32).toInt64 &&& 63)) ||| ((x2.toInt64) &&& (4294967295 : Int64)))) nw_999 nw_9 rfl ⟨by decide, by decide⟩ (Nat.le_of_ble_eq_true rfl) hl.1 ⟨nf_roomle (n := 0) hkc (Nat.le_of_ble_eq_true rfl), nf_roomle (n := 0) hks (Nat.le_of_ble_eq_true rfl)⟩ h (fun r3 M4 H h hw => ?_)
  refine W.eq (g2 := F0 m 172 ls [.int r3, .int r1]) rfl ?_
  refine W.widen (k := kc + 0) (n := ks + 0) (Nat.add_le_add_left (m := _) (Nat.le_of_ble_eq_true rfl) kc) (Nat.add_le_add_left (Nat.le_of_ble_eq_true rfl) ks) ?_
  refine nf_ic_eq hx hb d_L_law_172 (tgt := 927) (by decide) (fun hc => ?_) (fun hc => ?_)
  · have h := h.1 hc
    refine W.widen (k := kc + 40) (n := ks + 240) (Nat.add_le_add_left (Nat.le_of_ble_eq_true rfl) _) (Nat.add_le_add_left (Nat.le_of_ble_eq_true rfl) _) ?_
    exact hk M4 _ _ h (lv_sub hl [0, 1, 2, 3, 4, 5] rfl) hw
  · have h := h.2 hc
    refine lv_iconst (v := (0 : Int32)) hx hb d_L_law_175 (by decide) ?_
    exact h.elim
theorem w_arm1 (hfl : l.flags = flags0) (K : nf_KW p s m args meth c nr_L nb_L_law 9 D a) (hX : va_X b L xs s s.heap) (hbl : b < s.heap.size)  (hkc : kc + 40 ≤ room_1.cells) (hks : ks + 240 ≤ room_1.slots) (hk : ∀ (M : nf_M) (H : Heap) (ls : Array Slot), k M → lv_has ls 9 (nf_lawL a b i5) → nf_W D a s s.heap.size H [] M → W p l e room_1 s m args below meth c H [] (kc + 40) (ks + 240) Q (F0 m 927 ls [])) (h : P_arm1 M k) (hl : lv_has ls 9 (nf_lawL a b i5)) (hw : nf_W D a s s.heap.size H [] M) :
    W p l e room_1 s m args below meth c H [] kc ks Q (F0 m 177 ls []) := by
  have hx := K.1
  have hb := K.2.1
  have hl : lv_has ls 9 [(0, .ref b), (1, .ref (a 0)), (2, .ref (a 19)), (3, .ref (a 27)), (4, .ref (a 28)), (5, .int i5)] := hl
  refine W.widen (k := kc + 0) (n := ks + 0) (Nat.le_refl _) (Nat.le_refl _) ?_
  refine lv_aload_n hx hb d_L_law_177 rfl (lv_at hl 1 rfl) ?_
  refine nf_callLW (As := [.ref (a 0)]) (st0 := [.ref (a 0)]) (rest := []) K hw (nf_invV hx hb K.2.2.2.1 (nf_KgW K nw_201) (nf_KgW K nw_202) (nf_KgW K nw_203) (nf_KgW K nw_204) ⟨by decide, by decide⟩ (nf_rcvW K hw 0 6 rfl rfl) rfl nl_F_wipe rfl d_L_law_178) (c_F_wipe l hfl) nw_204 nw_1 rfl ⟨by decide, by decide⟩ (Nat.le_of_ble_eq_true rfl) hl.1 ⟨nf_roomle (n := 0) hkc (Nat.le_of_ble_eq_true rfl), nf_roomle (n := 0) hks (Nat.le_of_ble_eq_true rfl)⟩ h (fun r1 M2 H h hw => ?_)
  refine W.eq (g2 := F0 m 181 ls []) rfl ?_
  refine W.widen (k := kc + 0) (n := ks + 0) (Nat.add_le_add_left (m := _) (Nat.le_of_ble_eq_true rfl) kc) (Nat.add_le_add_left (Nat.le_of_ble_eq_true rfl) ks) ?_
  refine lv_aload_n hx hb d_L_law_181 rfl (lv_at hl 2 rfl) ?_
  refine nf_callLW (As := [.ref (a 19)]) (st0 := [.ref (a 19)]) (rest := []) K hw (nf_invV hx hb K.2.2.2.1 (nf_KgW K nw_1000) (nf_KgW K nw_1001) (nf_KgW K nw_1002) (nf_KgW K nw_1003) ⟨by decide, by decide⟩ (nf_rcvW K hw 19 7 rfl rfl) rfl nl_M_wipe rfl d_L_law_182) (c_M_wipe l hfl) nw_1003 nw_9 rfl ⟨by decide, by decide⟩ (Nat.le_of_ble_eq_true rfl) hl.1 ⟨nf_roomle (n := 0) hkc (Nat.le_of_ble_eq_true rfl), nf_roomle (n := 0) hks (Nat.le_of_ble_eq_true rfl)⟩ h (fun r3 M4 H h hw => ?_)
  refine W.eq (g2 := F0 m 185 ls []) rfl ?_
  refine W.widen (k := kc + 0) (n := ks + 0) (Nat.add_le_add_left (m := _) (Nat.le_of_ble_eq_true rfl) kc) (Nat.add_le_add_left (Nat.le_of_ble_eq_true rfl) ks) ?_
  refine lv_goto hx hb d_L_law_185 (tgt := 927) (by decide) ?_
  refine W.widen (k := kc + 40) (n := ks + 240) (Nat.add_le_add_left (Nat.le_of_ble_eq_true rfl) _) (Nat.add_le_add_left (Nat.le_of_ble_eq_true rfl) _) ?_
  exact hk M4 _ _ h (lv_sub hl [0, 1, 2, 3, 4, 5] rfl) hw
theorem w_arm2 (hfl : l.flags = flags0) (K : nf_KW p s m args meth c nr_L nb_L_law 9 D a) (hX : va_X b L xs s s.heap) (hbl : b < s.heap.size) {x1 : Int32} {x2 : Int32} (hi1 : vp_in (i5 + (1 : Int32)) L) (hv1 : xs (i5 + (1 : Int32)).toNatClampNeg = x1) (hi2 : vp_in (i5 + (2 : Int32)) L) (hv2 : xs (i5 + (2 : Int32)).toNatClampNeg = x2) (hkc : kc + 40 ≤ room_1.cells) (hks : ks + 240 ≤ room_1.slots) (hk : ∀ (M : nf_M) (H : Heap) (ls : Array Slot), k M → lv_has ls 9 (nf_lawL a b i5) → nf_W D a s s.heap.size H [] M → W p l e room_1 s m args below meth c H [] (kc + 40) (ks + 240) Q (F0 m 927 ls [])) (h : P_arm2 x1 x2 M k) (hl : lv_has ls 9 (nf_lawL a b i5)) (hw : nf_W D a s s.heap.size H [] M) :
    W p l e room_1 s m args below meth c H [] kc ks Q (F0 m 188 ls []) := by
  have hx := K.1
  have hb := K.2.1
  have hl : lv_has ls 9 [(0, .ref b), (1, .ref (a 0)), (2, .ref (a 19)), (3, .ref (a 27)), (4, .ref (a 28)), (5, .int i5)] := hl
  refine W.widen (k := kc + 0) (n := ks + 0) (Nat.le_refl _) (Nat.le_refl _) ?_
  refine lv_aload_n hx hb d_L_law_188 rfl (lv_at hl 1 rfl) ?_
  refine lv_aload_n hx hb d_L_law_189 rfl (lv_at hl 0 rfl) ?_
  refine lv_iload hx hb d_L_law_190 (lv_at hl 5 rfl) ?_
  refine lv_iconst (v := (1 : Int32)) hx hb d_L_law_192 (by decide) ?_
  refine lv_iadd hx hb d_L_law_193 ?_
  refine nf_sldW K hw hX hbl hi1 hv1 d_L_law_194 ?_
  refine lv_aload_n hx hb d_L_law_195 rfl (lv_at hl 0 rfl) ?_
  refine lv_iload hx hb d_L_law_196 (lv_at hl 5 rfl) ?_
  refine lv_iconst (v := (2 : Int32)) hx hb d_L_law_198 (by decide) ?_
  refine lv_iadd hx hb d_L_law_199 ?_
  refine nf_sldW K hw hX hbl hi2 hv2 d_L_law_200 ?_
  refine nf_callLWH (As := [.ref (a 0), .int x1, .int x2]) (st0 := [.int x2, .int x1, .ref (a 0)]) (rest := []) K hw (nf_invSH hx hb K.2.2.2.1 (nf_KgW K nw_233) (nf_KgW K nw_234) (nf_KgW K nw_0) (nf_KgW K nw_235) ⟨by decide, by decide⟩ rfl nl_L_read rfl d_L_law_201) (c_L_read l hfl x1 x2) nw_235 nw_0 rfl ⟨by decide, by decide⟩ (Nat.le_of_ble_eq_true rfl) hl.1 ⟨nf_roomle (n := 0) hkc (Nat.le_of_ble_eq_true rfl), nf_roomle (n := 0) hks (Nat.le_of_ble_eq_true rfl)⟩ h (fun r1 M2 H h hw => ?_)
  refine W.eq (g2 := F0 m 204 ls [.int r1]) rfl ?_
  refine W.widen (k := kc + 4) (n := ks + 24) (Nat.add_le_add_left (m := _) (Nat.le_of_ble_eq_true rfl) kc) (Nat.add_le_add_left (Nat.le_of_ble_eq_true rfl) ks) ?_
  refine lv_istore (lv' := [(6, .int r1), (0, .ref b), (1, .ref (a 0)), (2, .ref (a 19)), (3, .ref (a 27)), (4, .ref (a 28)), (5, .int i5)]) hx hb d_L_law_204 hl (by decide) rfl (fun ls hl => ?_)
  refine lv_aload_n hx hb d_L_law_206 rfl (lv_at hl 3 rfl) ?_
  refine lv_aload_n hx hb d_L_law_207 rfl (lv_at hl 1 rfl) ?_
  refine lv_iload hx hb d_L_law_208 (lv_at hl 6 rfl) ?_
  refine lv_iconst (v := (1 : Int32)) hx hb d_L_law_210 (by decide) ?_
  refine lv_iadd hx hb d_L_law_211 ?_
  refine nf_sldW K hw hX hbl hi1 hv1 d_L_law_212 ?_
  refine lv_aload_n hx hb d_L_law_213 rfl (lv_at hl 1 rfl) ?_
  refine lv_iload hx hb d_L_law_214 (lv_at hl 6 rfl) ?_
  refine lv_iconst (v := (2 : Int32)) hx hb d_L_law_216 (by decide) ?_
  refine lv_iadd hx hb d_L_law_217 ?_
  refine nf_sldW K hw hX hbl hi2 hv2 d_L_law_218 ?_
  refine nf_callLW (As := [.ref (a 19), .int x1, .int x2]) (st0 := [.int x2, .int x1, .ref (a 19)]) (rest := []) K hw (nf_invV hx hb K.2.2.2.1 (nf_KgW K nw_1004) (nf_KgW K nw_1005) (nf_KgW K nw_1006) (nf_KgW K nw_1007) ⟨by decide, by decide⟩ (nf_rcvW K hw 19 7 rfl rfl) rfl nl_M_read rfl d_L_law_219) (c_M_read l hfl x1 x2) nw_1007 nw_9 rfl ⟨by decide, by decide⟩ (Nat.le_of_ble_eq_true rfl) hl.1 ⟨nf_roomle (n := 4) hkc (Nat.le_of_ble_eq_true rfl), nf_roomle (n := 24) hks (Nat.le_of_ble_eq_true rfl)⟩ h (fun r3 M4 H h hw => ?_)
  refine W.eq (g2 := F0 m 222 ls []) rfl ?_
  refine W.widen (k := kc + 4) (n := ks + 24) (Nat.add_le_add_left (m := _) (Nat.le_of_ble_eq_true rfl) kc) (Nat.add_le_add_left (Nat.le_of_ble_eq_true rfl) ks) ?_
  refine lv_aload_n hx hb d_L_law_222 rfl (lv_at hl 3 rfl) ?_
  refine nf_callLW (As := [.ref (a 19)]) (st0 := [.ref (a 19)]) (rest := []) K hw (nf_invV hx hb K.2.2.2.1 (nf_KgW K nw_992) (nf_KgW K nw_993) (nf_KgW K nw_994) (nf_KgW K nw_995) ⟨by decide, by decide⟩ (nf_rcvW K hw 19 7 rfl rfl) rfl nl_M_thrown rfl d_L_law_223) (c_M_thrown l hfl) nw_995 nw_9 rfl ⟨by decide, by decide⟩ (Nat.le_of_ble_eq_true rfl) hl.1 ⟨nf_roomle (n := 4) hkc (Nat.le_of_ble_eq_true rfl), nf_roomle (n := 24) hks (Nat.le_of_ble_eq_true rfl)⟩ h (fun r5 M6 H h hw => ?_)
  refine W.eq (g2 := F0 m 226 ls [.int r5]) rfl ?_
  refine W.widen (k := kc + 4) (n := ks + 24) (Nat.add_le_add_left (m := _) (Nat.le_of_ble_eq_true rfl) kc) (Nat.add_le_add_left (Nat.le_of_ble_eq_true rfl) ks) ?_
  refine lv_iload hx hb d_L_law_226 (lv_at hl 0 rfl) ?_
  refine nf_ic_eq hx hb d_L_law_228 (tgt := 233) (by decide) (fun hc => ?_) (fun hc => ?_)
  · have h := h.1 hc
    refine lv_goto hx hb d_L_law_233 (tgt := 927) (by decide) ?_
    refine W.widen (k := kc + 40) (n := ks + 240) (Nat.add_le_add_left (Nat.le_of_ble_eq_true rfl) _) (Nat.add_le_add_left (Nat.le_of_ble_eq_true rfl) _) ?_
    exact hk M6 _ _ h (lv_sub hl [1, 2, 3, 4, 5, 6] rfl) hw
  · have h := h.2 hc
    refine lv_iconst (v := (0 : Int32)) hx hb d_L_law_231 (by decide) ?_
    exact h.elim
theorem w_arm3 (hfl : l.flags = flags0) (K : nf_KW p s m args meth c nr_L nb_L_law 9 D a) (hX : va_X b L xs s s.heap) (hbl : b < s.heap.size) {x1 : Int32} {x2 : Int32} {x3 : Int32} (hi1 : vp_in (i5 + (1 : Int32)) L) (hv1 : xs (i5 + (1 : Int32)).toNatClampNeg = x1) (hi2 : vp_in (i5 + (2 : Int32)) L) (hv2 : xs (i5 + (2 : Int32)).toNatClampNeg = x2) (hi3 : vp_in (i5 + (3 : Int32)) L) (hv3 : xs (i5 + (3 : Int32)).toNatClampNeg = x3) (hkc : kc + 40 ≤ room_1.cells) (hks : ks + 240 ≤ room_1.slots) (hk : ∀ (M : nf_M) (H : Heap) (ls : Array Slot), k M → lv_has ls 9 (nf_lawL a b i5) → nf_W D a s s.heap.size H [] M → W p l e room_1 s m args below meth c H [] (kc + 40) (ks + 240) Q (F0 m 927 ls [])) (h : P_arm3 x1 x2 x3 M k) (hl : lv_has ls 9 (nf_lawL a b i5)) (hw : nf_W D a s s.heap.size H [] M) :
    W p l e room_1 s m args below meth c H [] kc ks Q (F0 m 236 ls []) := by
  have hx := K.1
  have hb := K.2.1
  have hl : lv_has ls 9 [(0, .ref b), (1, .ref (a 0)), (2, .ref (a 19)), (3, .ref (a 27)), (4, .ref (a 28)), (5, .int i5)] := hl
  refine W.widen (k := kc + 0) (n := ks + 0) (Nat.le_refl _) (Nat.le_refl _) ?_
  refine lv_aload_n hx hb d_L_law_236 rfl (lv_at hl 1 rfl) ?_
  refine lv_aload_n hx hb d_L_law_237 rfl (lv_at hl 0 rfl) ?_
  refine lv_iload hx hb d_L_law_238 (lv_at hl 5 rfl) ?_
  refine lv_iconst (v := (1 : Int32)) hx hb d_L_law_240 (by decide) ?_
  refine lv_iadd hx hb d_L_law_241 ?_
  refine nf_sldW K hw hX hbl hi1 hv1 d_L_law_242 ?_
  refine lv_aload_n hx hb d_L_law_243 rfl (lv_at hl 0 rfl) ?_
  refine lv_iload hx hb d_L_law_244 (lv_at hl 5 rfl) ?_
  refine lv_iconst (v := (2 : Int32)) hx hb d_L_law_246 (by decide) ?_
  refine lv_iadd hx hb d_L_law_247 ?_
  refine nf_sldW K hw hX hbl hi2 hv2 d_L_law_248 ?_
  refine lv_i2d hx hb d_L_law_249 ?_
  refine lv_ldc2d (v := (4593671619917905920 : UInt64)) hx hb K.2.2.2.1 (nf_KgW K nw_1281) d_L_law_250 ?_
  obtain ⟨g1, h⟩ := h
  refine lv_dmul hx hb d_L_law_253 g1 ?_
  refine lv_aload_n hx hb d_L_law_254 rfl (lv_at hl 0 rfl) ?_
  refine lv_iload hx hb d_L_law_255 (lv_at hl 5 rfl) ?_
  refine lv_iconst (v := (3 : Int32)) hx hb d_L_law_257 (by decide) ?_
  refine lv_iadd hx hb d_L_law_258 ?_
  refine nf_sldW K hw hX hbl hi3 hv3 d_L_law_259 ?_
  refine nf_if_eq hx hb d_L_law_260 (tgt := 267) (by decide) (fun hc => ?_) (fun hc => ?_)
  · have h := h.1 hc
    refine lv_iconst (v := (0 : Int32)) hx hb d_L_law_267 (by decide) ?_
    refine nf_callLWH (As := [.ref (a 0), .int x1, .double (FP.dmul (FP.i2d x2) (4593671619917905920 : UInt64)), .int (0 : Int32)]) (st0 := [.int (0 : Int32), .double (FP.dmul (FP.i2d x2) (4593671619917905920 : UInt64)), .int x1, .ref (a 0)]) (rest := []) K hw (nf_invSH hx hb K.2.2.2.1 (nf_KgW K nw_433) (nf_KgW K nw_434) (nf_KgW K nw_0) (nf_KgW K nw_435) ⟨by decide, by decide⟩ rfl nl_L_put rfl d_L_law_268) (c_L_put l hfl x1 (FP.dmul (FP.i2d x2) (4593671619917905920 : UInt64)) (0 : Int32)) nw_435 nw_0 rfl ⟨by decide, by decide⟩ (Nat.le_of_ble_eq_true rfl) hl.1 ⟨nf_roomle (n := 0) hkc (Nat.le_of_ble_eq_true rfl), nf_roomle (n := 0) hks (Nat.le_of_ble_eq_true rfl)⟩ h (fun r2 M3 H h hw => ?_)
    refine W.eq (g2 := F0 m 271 ls [.int r2]) rfl ?_
    refine W.widen (k := kc + 1) (n := ks + 6) (Nat.add_le_add_left (m := _) (Nat.le_of_ble_eq_true rfl) kc) (Nat.add_le_add_left (Nat.le_of_ble_eq_true rfl) ks) ?_
    refine lv_istore (lv' := [(6, .int r2), (0, .ref b), (1, .ref (a 0)), (2, .ref (a 19)), (3, .ref (a 27)), (4, .ref (a 28)), (5, .int i5)]) hx hb d_L_law_271 hl (by decide) rfl (fun ls hl => ?_)
    refine lv_aload_n hx hb d_L_law_273 rfl (lv_at hl 3 rfl) ?_
    refine lv_aload_n hx hb d_L_law_274 rfl (lv_at hl 1 rfl) ?_
    refine lv_iload hx hb d_L_law_275 (lv_at hl 6 rfl) ?_
    refine lv_iconst (v := (1 : Int32)) hx hb d_L_law_277 (by decide) ?_
    refine lv_iadd hx hb d_L_law_278 ?_
    refine nf_sldW K hw hX hbl hi1 hv1 d_L_law_279 ?_
    refine lv_aload_n hx hb d_L_law_280 rfl (lv_at hl 1 rfl) ?_
    refine lv_iload hx hb d_L_law_281 (lv_at hl 6 rfl) ?_
    refine lv_iconst (v := (2 : Int32)) hx hb d_L_law_283 (by decide) ?_
    refine lv_iadd hx hb d_L_law_284 ?_
    refine nf_sldW K hw hX hbl hi2 hv2 d_L_law_285 ?_
    refine lv_i2d hx hb d_L_law_286 ?_
    refine lv_ldc2d (v := (4593671619917905920 : UInt64)) hx hb K.2.2.2.1 (nf_KgW K nw_1281) d_L_law_287 ?_
    obtain ⟨g4, h⟩ := h
    refine lv_dmul hx hb d_L_law_290 g4 ?_
    refine lv_aload_n hx hb d_L_law_291 rfl (lv_at hl 1 rfl) ?_
    refine lv_iload hx hb d_L_law_292 (lv_at hl 6 rfl) ?_
    refine lv_iconst (v := (3 : Int32)) hx hb d_L_law_294 (by decide) ?_
    refine lv_iadd hx hb d_L_law_295 ?_
    refine nf_sldW K hw hX hbl hi3 hv3 d_L_law_296 ?_
    refine nf_if_eq hx hb d_L_law_297 (tgt := 304) (by decide) (fun hc => ?_) (fun hc => ?_)
    · have h := h.1 hc
      refine lv_iconst (v := (0 : Int32)) hx hb d_L_law_304 (by decide) ?_
      refine nf_callLW (As := [.ref (a 19), .int x1, .double (FP.dmul (FP.i2d x2) (4593671619917905920 : UInt64)), .int (0 : Int32)]) (st0 := [.int (0 : Int32), .double (FP.dmul (FP.i2d x2) (4593671619917905920 : UInt64)), .int x1, .ref (a 19)]) (rest := []) K hw (nf_invV hx hb K.2.2.2.1 (nf_KgW K nw_1074) (nf_KgW K nw_1075) (nf_KgW K nw_1076) (nf_KgW K nw_1077) ⟨by decide, by decide⟩ (nf_rcvW K hw 19 7 rfl rfl) rfl nl_M_put rfl d_L_law_305) (c_M_put l hfl x1 (FP.dmul (FP.i2d x2) (4593671619917905920 : UInt64)) (0 : Int32)) nw_1077 nw_9 rfl ⟨by decide, by decide⟩ (Nat.le_of_ble_eq_true rfl) hl.1 ⟨nf_roomle (n := 1) hkc (Nat.le_of_ble_eq_true rfl), nf_roomle (n := 6) hks (Nat.le_of_ble_eq_true rfl)⟩ h (fun r5 M6 H h hw => ?_)
      refine W.eq (g2 := F0 m 308 ls []) rfl ?_
      refine W.widen (k := kc + 1) (n := ks + 6) (Nat.add_le_add_left (m := _) (Nat.le_of_ble_eq_true rfl) kc) (Nat.add_le_add_left (Nat.le_of_ble_eq_true rfl) ks) ?_
      refine lv_aload_n hx hb d_L_law_308 rfl (lv_at hl 3 rfl) ?_
      refine nf_callLW (As := [.ref (a 19)]) (st0 := [.ref (a 19)]) (rest := []) K hw (nf_invV hx hb K.2.2.2.1 (nf_KgW K nw_992) (nf_KgW K nw_993) (nf_KgW K nw_994) (nf_KgW K nw_995) ⟨by decide, by decide⟩ (nf_rcvW K hw 19 7 rfl rfl) rfl nl_M_thrown rfl d_L_law_309) (c_M_thrown l hfl) nw_995 nw_9 rfl ⟨by decide, by decide⟩ (Nat.le_of_ble_eq_true rfl) hl.1 ⟨nf_roomle (n := 1) hkc (Nat.le_of_ble_eq_true rfl), nf_roomle (n := 6) hks (Nat.le_of_ble_eq_true rfl)⟩ h (fun r7 M8 H h hw => ?_)
      refine W.eq (g2 := F0 m 312 ls [.int r7]) rfl ?_
      refine W.widen (k := kc + 1) (n := ks + 6) (Nat.add_le_add_left (m := _) (Nat.le_of_ble_eq_true rfl) kc) (Nat.add_le_add_left (Nat.le_of_ble_eq_true rfl) ks) ?_
      refine lv_iload hx hb d_L_law_312 (lv_at hl 0 rfl) ?_
      refine nf_ic_eq hx hb d_L_law_314 (tgt := 319) (by decide) (fun hc => ?_) (fun hc => ?_)
      · have h := h.1 hc
        refine lv_goto hx hb d_L_law_319 (tgt := 927) (by decide) ?_
        refine W.widen (k := kc + 40) (n := ks + 240) (Nat.add_le_add_left (Nat.le_of_ble_eq_true rfl) _) (Nat.add_le_add_left (Nat.le_of_ble_eq_true rfl) _) ?_
        exact hk M8 _ _ h (lv_sub hl [1, 2, 3, 4, 5, 6] rfl) hw
      · have h := h.2 hc
        refine lv_iconst (v := (0 : Int32)) hx hb d_L_law_317 (by decide) ?_
        exact h.elim
    · have h := h.2 hc
      refine lv_iconst (v := (1 : Int32)) hx hb d_L_law_300 (by decide) ?_
      refine lv_goto hx hb d_L_law_301 (tgt := 305) (by decide) ?_
      refine nf_callLW (As := [.ref (a 19), .int x1, .double (FP.dmul (FP.i2d x2) (4593671619917905920 : UInt64)), .int (1 : Int32)]) (st0 := [.int (1 : Int32), .double (FP.dmul (FP.i2d x2) (4593671619917905920 : UInt64)), .int x1, .ref (a 19)]) (rest := []) K hw (nf_invV hx hb K.2.2.2.1 (nf_KgW K nw_1074) (nf_KgW K nw_1075) (nf_KgW K nw_1076) (nf_KgW K nw_1077) ⟨by decide, by decide⟩ (nf_rcvW K hw 19 7 rfl rfl) rfl nl_M_put rfl d_L_law_305) (c_M_put l hfl x1 (FP.dmul (FP.i2d x2) (4593671619917905920 : UInt64)) (1 : Int32)) nw_1077 nw_9 rfl ⟨by decide, by decide⟩ (Nat.le_of_ble_eq_true rfl) hl.1 ⟨nf_roomle (n := 1) hkc (Nat.le_of_ble_eq_true rfl), nf_roomle (n := 6) hks (Nat.le_of_ble_eq_true rfl)⟩ h (fun r9 M10 H h hw => ?_)
      refine W.eq (g2 := F0 m 308 ls []) rfl ?_
      refine W.widen (k := kc + 1) (n := ks + 6) (Nat.add_le_add_left (m := _) (Nat.le_of_ble_eq_true rfl) kc) (Nat.add_le_add_left (Nat.le_of_ble_eq_true rfl) ks) ?_
      refine lv_aload_n hx hb d_L_law_308 rfl (lv_at hl 3 rfl) ?_
      refine nf_callLW (As := [.ref (a 19)]) (st0 := [.ref (a 19)]) (rest := []) K hw (nf_invV hx hb K.2.2.2.1 (nf_KgW K nw_992) (nf_KgW K nw_993) (nf_KgW K nw_994) (nf_KgW K nw_995) ⟨by decide, by decide⟩ (nf_rcvW K hw 19 7 rfl rfl) rfl nl_M_thrown rfl d_L_law_309) (c_M_thrown l hfl) nw_995 nw_9 rfl ⟨by decide, by decide⟩ (Nat.le_of_ble_eq_true rfl) hl.1 ⟨nf_roomle (n := 1) hkc (Nat.le_of_ble_eq_true rfl), nf_roomle (n := 6) hks (Nat.le_of_ble_eq_true rfl)⟩ h (fun r11 M12 H h hw => ?_)
      refine W.eq (g2 := F0 m 312 ls [.int r11]) rfl ?_
      refine W.widen (k := kc + 1) (n := ks + 6) (Nat.add_le_add_left (m := _) (Nat.le_of_ble_eq_true rfl) kc) (Nat.add_le_add_left (Nat.le_of_ble_eq_true rfl) ks) ?_
      refine lv_iload hx hb d_L_law_312 (lv_at hl 0 rfl) ?_
      refine nf_ic_eq hx hb d_L_law_314 (tgt := 319) (by decide) (fun hc => ?_) (fun hc => ?_)
      · have h := h.1 hc
        refine lv_goto hx hb d_L_law_319 (tgt := 927) (by decide) ?_
        refine W.widen (k := kc + 40) (n := ks + 240) (Nat.add_le_add_left (Nat.le_of_ble_eq_true rfl) _) (Nat.add_le_add_left (Nat.le_of_ble_eq_true rfl) _) ?_
        exact hk M12 _ _ h (lv_sub hl [1, 2, 3, 4, 5, 6] rfl) hw
      · have h := h.2 hc
        refine lv_iconst (v := (0 : Int32)) hx hb d_L_law_317 (by decide) ?_
        exact h.elim
  · have h := h.2 hc
    refine lv_iconst (v := (1 : Int32)) hx hb d_L_law_263 (by decide) ?_
    refine lv_goto hx hb d_L_law_264 (tgt := 268) (by decide) ?_
    refine nf_callLWH (As := [.ref (a 0), .int x1, .double (FP.dmul (FP.i2d x2) (4593671619917905920 : UInt64)), .int (1 : Int32)]) (st0 := [.int (1 : Int32), .double (FP.dmul (FP.i2d x2) (4593671619917905920 : UInt64)), .int x1, .ref (a 0)]) (rest := []) K hw (nf_invSH hx hb K.2.2.2.1 (nf_KgW K nw_433) (nf_KgW K nw_434) (nf_KgW K nw_0) (nf_KgW K nw_435) ⟨by decide, by decide⟩ rfl nl_L_put rfl d_L_law_268) (c_L_put l hfl x1 (FP.dmul (FP.i2d x2) (4593671619917905920 : UInt64)) (1 : Int32)) nw_435 nw_0 rfl ⟨by decide, by decide⟩ (Nat.le_of_ble_eq_true rfl) hl.1 ⟨nf_roomle (n := 0) hkc (Nat.le_of_ble_eq_true rfl), nf_roomle (n := 0) hks (Nat.le_of_ble_eq_true rfl)⟩ h (fun r13 M14 H h hw => ?_)
    refine W.eq (g2 := F0 m 271 ls [.int r13]) rfl ?_
    refine W.widen (k := kc + 1) (n := ks + 6) (Nat.add_le_add_left (m := _) (Nat.le_of_ble_eq_true rfl) kc) (Nat.add_le_add_left (Nat.le_of_ble_eq_true rfl) ks) ?_
    refine lv_istore (lv' := [(6, .int r13), (0, .ref b), (1, .ref (a 0)), (2, .ref (a 19)), (3, .ref (a 27)), (4, .ref (a 28)), (5, .int i5)]) hx hb d_L_law_271 hl (by decide) rfl (fun ls hl => ?_)
    refine lv_aload_n hx hb d_L_law_273 rfl (lv_at hl 3 rfl) ?_
    refine lv_aload_n hx hb d_L_law_274 rfl (lv_at hl 1 rfl) ?_
    refine lv_iload hx hb d_L_law_275 (lv_at hl 6 rfl) ?_
    refine lv_iconst (v := (1 : Int32)) hx hb d_L_law_277 (by decide) ?_
    refine lv_iadd hx hb d_L_law_278 ?_
    refine nf_sldW K hw hX hbl hi1 hv1 d_L_law_279 ?_
    refine lv_aload_n hx hb d_L_law_280 rfl (lv_at hl 1 rfl) ?_
    refine lv_iload hx hb d_L_law_281 (lv_at hl 6 rfl) ?_
    refine lv_iconst (v := (2 : Int32)) hx hb d_L_law_283 (by decide) ?_
    refine lv_iadd hx hb d_L_law_284 ?_
    refine nf_sldW K hw hX hbl hi2 hv2 d_L_law_285 ?_
    refine lv_i2d hx hb d_L_law_286 ?_
    refine lv_ldc2d (v := (4593671619917905920 : UInt64)) hx hb K.2.2.2.1 (nf_KgW K nw_1281) d_L_law_287 ?_
    obtain ⟨g15, h⟩ := h
    refine lv_dmul hx hb d_L_law_290 g15 ?_
    refine lv_aload_n hx hb d_L_law_291 rfl (lv_at hl 1 rfl) ?_
    refine lv_iload hx hb d_L_law_292 (lv_at hl 6 rfl) ?_
    refine lv_iconst (v := (3 : Int32)) hx hb d_L_law_294 (by decide) ?_
    refine lv_iadd hx hb d_L_law_295 ?_
    refine nf_sldW K hw hX hbl hi3 hv3 d_L_law_296 ?_
    refine nf_if_eq hx hb d_L_law_297 (tgt := 304) (by decide) (fun hc => ?_) (fun hc => ?_)
    · have h := h.1 hc
      refine lv_iconst (v := (0 : Int32)) hx hb d_L_law_304 (by decide) ?_
      refine nf_callLW (As := [.ref (a 19), .int x1, .double (FP.dmul (FP.i2d x2) (4593671619917905920 : UInt64)), .int (0 : Int32)]) (st0 := [.int (0 : Int32), .double (FP.dmul (FP.i2d x2) (4593671619917905920 : UInt64)), .int x1, .ref (a 19)]) (rest := []) K hw (nf_invV hx hb K.2.2.2.1 (nf_KgW K nw_1074) (nf_KgW K nw_1075) (nf_KgW K nw_1076) (nf_KgW K nw_1077) ⟨by decide, by decide⟩ (nf_rcvW K hw 19 7 rfl rfl) rfl nl_M_put rfl d_L_law_305) (c_M_put l hfl x1 (FP.dmul (FP.i2d x2) (4593671619917905920 : UInt64)) (0 : Int32)) nw_1077 nw_9 rfl ⟨by decide, by decide⟩ (Nat.le_of_ble_eq_true rfl) hl.1 ⟨nf_roomle (n := 1) hkc (Nat.le_of_ble_eq_true rfl), nf_roomle (n := 6) hks (Nat.le_of_ble_eq_true rfl)⟩ h (fun r16 M17 H h hw => ?_)
      refine W.eq (g2 := F0 m 308 ls []) rfl ?_
      refine W.widen (k := kc + 1) (n := ks + 6) (Nat.add_le_add_left (m := _) (Nat.le_of_ble_eq_true rfl) kc) (Nat.add_le_add_left (Nat.le_of_ble_eq_true rfl) ks) ?_
      refine lv_aload_n hx hb d_L_law_308 rfl (lv_at hl 3 rfl) ?_
      refine nf_callLW (As := [.ref (a 19)]) (st0 := [.ref (a 19)]) (rest := []) K hw (nf_invV hx hb K.2.2.2.1 (nf_KgW K nw_992) (nf_KgW K nw_993) (nf_KgW K nw_994) (nf_KgW K nw_995) ⟨by decide, by decide⟩ (nf_rcvW K hw 19 7 rfl rfl) rfl nl_M_thrown rfl d_L_law_309) (c_M_thrown l hfl) nw_995 nw_9 rfl ⟨by decide, by decide⟩ (Nat.le_of_ble_eq_true rfl) hl.1 ⟨nf_roomle (n := 1) hkc (Nat.le_of_ble_eq_true rfl), nf_roomle (n := 6) hks (Nat.le_of_ble_eq_true rfl)⟩ h (fun r18 M19 H h hw => ?_)
      refine W.eq (g2 := F0 m 312 ls [.int r18]) rfl ?_
      refine W.widen (k := kc + 1) (n := ks + 6) (Nat.add_le_add_left (m := _) (Nat.le_of_ble_eq_true rfl) kc) (Nat.add_le_add_left (Nat.le_of_ble_eq_true rfl) ks) ?_
      refine lv_iload hx hb d_L_law_312 (lv_at hl 0 rfl) ?_
      refine nf_ic_eq hx hb d_L_law_314 (tgt := 319) (by decide) (fun hc => ?_) (fun hc => ?_)
      · have h := h.1 hc
        refine lv_goto hx hb d_L_law_319 (tgt := 927) (by decide) ?_
        refine W.widen (k := kc + 40) (n := ks + 240) (Nat.add_le_add_left (Nat.le_of_ble_eq_true rfl) _) (Nat.add_le_add_left (Nat.le_of_ble_eq_true rfl) _) ?_
        exact hk M19 _ _ h (lv_sub hl [1, 2, 3, 4, 5, 6] rfl) hw
      · have h := h.2 hc
        refine lv_iconst (v := (0 : Int32)) hx hb d_L_law_317 (by decide) ?_
        exact h.elim
    · have h := h.2 hc
      refine lv_iconst (v := (1 : Int32)) hx hb d_L_law_300 (by decide) ?_
      refine lv_goto hx hb d_L_law_301 (tgt := 305) (by decide) ?_
      refine nf_callLW (As := [.ref (a 19), .int x1, .double (FP.dmul (FP.i2d x2) (4593671619917905920 : UInt64)), .int (1 : Int32)]) (st0 := [.int (1 : Int32), .double (FP.dmul (FP.i2d x2) (4593671619917905920 : UInt64)), .int x1, .ref (a 19)]) (rest := []) K hw (nf_invV hx hb K.2.2.2.1 (nf_KgW K nw_1074) (nf_KgW K nw_1075) (nf_KgW K nw_1076) (nf_KgW K nw_1077) ⟨by decide, by decide⟩ (nf_rcvW K hw 19 7 rfl rfl) rfl nl_M_put rfl d_L_law_305) (c_M_put l hfl x1 (FP.dmul (FP.i2d x2) (4593671619917905920 : UInt64)) (1 : Int32)) nw_1077 nw_9 rfl ⟨by decide, by decide⟩ (Nat.le_of_ble_eq_true rfl) hl.1 ⟨nf_roomle (n := 1) hkc (Nat.le_of_ble_eq_true rfl), nf_roomle (n := 6) hks (Nat.le_of_ble_eq_true rfl)⟩ h (fun r20 M21 H h hw => ?_)
      refine W.eq (g2 := F0 m 308 ls []) rfl ?_
      refine W.widen (k := kc + 1) (n := ks + 6) (Nat.add_le_add_left (m := _) (Nat.le_of_ble_eq_true rfl) kc) (Nat.add_le_add_left (Nat.le_of_ble_eq_true rfl) ks) ?_
      refine lv_aload_n hx hb d_L_law_308 rfl (lv_at hl 3 rfl) ?_
      refine nf_callLW (As := [.ref (a 19)]) (st0 := [.ref (a 19)]) (rest := []) K hw (nf_invV hx hb K.2.2.2.1 (nf_KgW K nw_992) (nf_KgW K nw_993) (nf_KgW K nw_994) (nf_KgW K nw_995) ⟨by decide, by decide⟩ (nf_rcvW K hw 19 7 rfl rfl) rfl nl_M_thrown rfl d_L_law_309) (c_M_thrown l hfl) nw_995 nw_9 rfl ⟨by decide, by decide⟩ (Nat.le_of_ble_eq_true rfl) hl.1 ⟨nf_roomle (n := 1) hkc (Nat.le_of_ble_eq_true rfl), nf_roomle (n := 6) hks (Nat.le_of_ble_eq_true rfl)⟩ h (fun r22 M23 H h hw => ?_)
      refine W.eq (g2 := F0 m 312 ls [.int r22]) rfl ?_
      refine W.widen (k := kc + 1) (n := ks + 6) (Nat.add_le_add_left (m := _) (Nat.le_of_ble_eq_true rfl) kc) (Nat.add_le_add_left (Nat.le_of_ble_eq_true rfl) ks) ?_
      refine lv_iload hx hb d_L_law_312 (lv_at hl 0 rfl) ?_
      refine nf_ic_eq hx hb d_L_law_314 (tgt := 319) (by decide) (fun hc => ?_) (fun hc => ?_)
      · have h := h.1 hc
        refine lv_goto hx hb d_L_law_319 (tgt := 927) (by decide) ?_
        refine W.widen (k := kc + 40) (n := ks + 240) (Nat.add_le_add_left (Nat.le_of_ble_eq_true rfl) _) (Nat.add_le_add_left (Nat.le_of_ble_eq_true rfl) _) ?_
        exact hk M23 _ _ h (lv_sub hl [1, 2, 3, 4, 5, 6] rfl) hw
      · have h := h.2 hc
        refine lv_iconst (v := (0 : Int32)) hx hb d_L_law_317 (by decide) ?_
        exact h.elim
theorem w_arm4 (hfl : l.flags = flags0) (K : nf_KW p s m args meth c nr_L nb_L_law 9 D a) (hX : va_X b L xs s s.heap) (hbl : b < s.heap.size) {x1 : Int32} {x2 : Int32} {x3 : Int32} {x4 : Int32} (hi1 : vp_in (i5 + (1 : Int32)) L) (hv1 : xs (i5 + (1 : Int32)).toNatClampNeg = x1) (hi2 : vp_in (i5 + (2 : Int32)) L) (hv2 : xs (i5 + (2 : Int32)).toNatClampNeg = x2) (hi3 : vp_in (i5 + (3 : Int32)) L) (hv3 : xs (i5 + (3 : Int32)).toNatClampNeg = x3) (hi4 : vp_in (i5 + (4 : Int32)) L) (hv4 : xs (i5 + (4 : Int32)).toNatClampNeg = x4) (hkc : kc + 40 ≤ room_1.cells) (hks : ks + 240 ≤ room_1.slots) (hk : ∀ (M : nf_M) (H : Heap) (ls : Array Slot), k M → lv_has ls 9 (nf_lawL a b i5) → nf_W D a s s.heap.size H [] M → W p l e room_1 s m args below meth c H [] (kc + 40) (ks + 240) Q (F0 m 927 ls [])) (h : P_arm4 x1 x2 x3 x4 M k) (hl : lv_has ls 9 (nf_lawL a b i5)) (hw : nf_W D a s s.heap.size H [] M) :
    W p l e room_1 s m args below meth c H [] kc ks Q (F0 m 322 ls []) := by
  have hx := K.1
  have hb := K.2.1
  have hl : lv_has ls 9 [(0, .ref b), (1, .ref (a 0)), (2, .ref (a 19)), (3, .ref (a 27)), (4, .ref (a 28)), (5, .int i5)] := hl
  refine W.widen (k := kc + 0) (n := ks + 0) (Nat.le_refl _) (Nat.le_refl _) ?_
  refine lv_aload_n hx hb d_L_law_322 rfl (lv_at hl 1 rfl) ?_
  refine lv_aload_n hx hb d_L_law_323 rfl (lv_at hl 0 rfl) ?_
  refine lv_iload hx hb d_L_law_324 (lv_at hl 5 rfl) ?_
  refine lv_iconst (v := (1 : Int32)) hx hb d_L_law_326 (by decide) ?_
  refine lv_iadd hx hb d_L_law_327 ?_
  refine nf_sldW K hw hX hbl hi1 hv1 d_L_law_328 ?_
  refine lv_aload_n hx hb d_L_law_329 rfl (lv_at hl 0 rfl) ?_
  refine lv_iload hx hb d_L_law_330 (lv_at hl 5 rfl) ?_
  refine lv_iconst (v := (2 : Int32)) hx hb d_L_law_332 (by decide) ?_
  refine lv_iadd hx hb d_L_law_333 ?_
  refine nf_sldW K hw hX hbl hi2 hv2 d_L_law_334 ?_
  refine lv_aload_n hx hb d_L_law_335 rfl (lv_at hl 0 rfl) ?_
  refine lv_iload hx hb d_L_law_336 (lv_at hl 5 rfl) ?_
  refine lv_iconst (v := (3 : Int32)) hx hb d_L_law_338 (by decide) ?_
  refine lv_iadd hx hb d_L_law_339 ?_
  refine nf_sldW K hw hX hbl hi3 hv3 d_L_law_340 ?_
  refine lv_aload_n hx hb d_L_law_341 rfl (lv_at hl 0 rfl) ?_
  refine lv_iload hx hb d_L_law_342 (lv_at hl 5 rfl) ?_
  refine lv_iconst (v := (4 : Int32)) hx hb d_L_law_344 (by decide) ?_
  refine lv_iadd hx hb d_L_law_345 ?_
  refine nf_sldW K hw hX hbl hi4 hv4 d_L_law_346 ?_
  refine nf_callLWH (As := [.ref (a 0), .int x1, .int x2, .int x3, .int x4]) (st0 := [.int x4, .int x3, .int x2, .int x1, .ref (a 0)]) (rest := []) K hw (nf_invSH hx hb K.2.2.2.1 (nf_KgW K nw_440) (nf_KgW K nw_441) (nf_KgW K nw_0) (nf_KgW K nw_442) ⟨by decide, by decide⟩ rfl nl_L_reckon rfl d_L_law_347) (c_L_reckon l hfl x1 x2 x3 x4) nw_442 nw_0 rfl ⟨by decide, by decide⟩ (Nat.le_of_ble_eq_true rfl) hl.1 ⟨nf_roomle (n := 0) hkc (Nat.le_of_ble_eq_true rfl), nf_roomle (n := 0) hks (Nat.le_of_ble_eq_true rfl)⟩ h (fun r1 M2 H h hw => ?_)
  refine W.eq (g2 := F0 m 350 ls [.int r1]) rfl ?_
  refine W.widen (k := kc + 9) (n := ks + 54) (Nat.add_le_add_left (m := _) (Nat.le_of_ble_eq_true rfl) kc) (Nat.add_le_add_left (Nat.le_of_ble_eq_true rfl) ks) ?_
  refine lv_istore (lv' := [(6, .int r1), (0, .ref b), (1, .ref (a 0)), (2, .ref (a 19)), (3, .ref (a 27)), (4, .ref (a 28)), (5, .int i5)]) hx hb d_L_law_350 hl (by decide) rfl (fun ls hl => ?_)
  refine lv_aload_n hx hb d_L_law_352 rfl (lv_at hl 3 rfl) ?_
  refine lv_aload_n hx hb d_L_law_353 rfl (lv_at hl 1 rfl) ?_
  refine lv_iload hx hb d_L_law_354 (lv_at hl 6 rfl) ?_
  refine lv_iconst (v := (1 : Int32)) hx hb d_L_law_356 (by decide) ?_
  refine lv_iadd hx hb d_L_law_357 ?_
  refine nf_sldW K hw hX hbl hi1 hv1 d_L_law_358 ?_
  refine lv_aload_n hx hb d_L_law_359 rfl (lv_at hl 1 rfl) ?_
  refine lv_iload hx hb d_L_law_360 (lv_at hl 6 rfl) ?_
  refine lv_iconst (v := (2 : Int32)) hx hb d_L_law_362 (by decide) ?_
  refine lv_iadd hx hb d_L_law_363 ?_
  refine nf_sldW K hw hX hbl hi2 hv2 d_L_law_364 ?_
  refine lv_aload_n hx hb d_L_law_365 rfl (lv_at hl 1 rfl) ?_
  refine lv_iload hx hb d_L_law_366 (lv_at hl 6 rfl) ?_
  refine lv_iconst (v := (3 : Int32)) hx hb d_L_law_368 (by decide) ?_
  refine lv_iadd hx hb d_L_law_369 ?_
  refine nf_sldW K hw hX hbl hi3 hv3 d_L_law_370 ?_
  refine lv_aload_n hx hb d_L_law_371 rfl (lv_at hl 1 rfl) ?_
  refine lv_iload hx hb d_L_law_372 (lv_at hl 6 rfl) ?_
  refine lv_iconst (v := (4 : Int32)) hx hb d_L_law_374 (by decide) ?_
  refine lv_iadd hx hb d_L_law_375 ?_
  refine nf_sldW K hw hX hbl hi4 hv4 d_L_law_376 ?_
  refine nf_callLW (As := [.ref (a 19), .int x1, .int x2, .int x3, .int x4]) (st0 := [.int x4, .int x3, .int x2, .int x1, .ref (a 19)]) (rest := []) K hw (nf_invV hx hb K.2.2.2.1 (nf_KgW K nw_1078) (nf_KgW K nw_1079) (nf_KgW K nw_1080) (nf_KgW K nw_1081) ⟨by decide, by decide⟩ (nf_rcvW K hw 19 7 rfl rfl) rfl nl_M_reckon rfl d_L_law_377) (c_M_reckon l hfl x1 x2 x3 x4) nw_1081 nw_9 rfl ⟨by decide, by decide⟩ (Nat.le_of_ble_eq_true rfl) hl.1 ⟨nf_roomle (n := 9) hkc (Nat.le_of_ble_eq_true rfl), nf_roomle (n := 54) hks (Nat.le_of_ble_eq_true rfl)⟩ h (fun r3 M4 H h hw => ?_)
  refine W.eq (g2 := F0 m 380 ls []) rfl ?_
  refine W.widen (k := kc + 9) (n := ks + 54) (Nat.add_le_add_left (m := _) (Nat.le_of_ble_eq_true rfl) kc) (Nat.add_le_add_left (Nat.le_of_ble_eq_true rfl) ks) ?_
  refine lv_aload_n hx hb d_L_law_380 rfl (lv_at hl 3 rfl) ?_
  refine nf_callLW (As := [.ref (a 19)]) (st0 := [.ref (a 19)]) (rest := []) K hw (nf_invV hx hb K.2.2.2.1 (nf_KgW K nw_992) (nf_KgW K nw_993) (nf_KgW K nw_994) (nf_KgW K nw_995) ⟨by decide, by decide⟩ (nf_rcvW K hw 19 7 rfl rfl) rfl nl_M_thrown rfl d_L_law_381) (c_M_thrown l hfl) nw_995 nw_9 rfl ⟨by decide, by decide⟩ (Nat.le_of_ble_eq_true rfl) hl.1 ⟨nf_roomle (n := 9) hkc (Nat.le_of_ble_eq_true rfl), nf_roomle (n := 54) hks (Nat.le_of_ble_eq_true rfl)⟩ h (fun r5 M6 H h hw => ?_)
  refine W.eq (g2 := F0 m 384 ls [.int r5]) rfl ?_
  refine W.widen (k := kc + 9) (n := ks + 54) (Nat.add_le_add_left (m := _) (Nat.le_of_ble_eq_true rfl) kc) (Nat.add_le_add_left (Nat.le_of_ble_eq_true rfl) ks) ?_
  refine lv_iload hx hb d_L_law_384 (lv_at hl 0 rfl) ?_
  refine nf_ic_eq hx hb d_L_law_386 (tgt := 391) (by decide) (fun hc => ?_) (fun hc => ?_)
  · have h := h.1 hc
    refine lv_goto hx hb d_L_law_391 (tgt := 927) (by decide) ?_
    refine W.widen (k := kc + 40) (n := ks + 240) (Nat.add_le_add_left (Nat.le_of_ble_eq_true rfl) _) (Nat.add_le_add_left (Nat.le_of_ble_eq_true rfl) _) ?_
    exact hk M6 _ _ h (lv_sub hl [1, 2, 3, 4, 5, 6] rfl) hw
  · have h := h.2 hc
    refine lv_iconst (v := (0 : Int32)) hx hb d_L_law_389 (by decide) ?_
    exact h.elim
theorem w_arm5 (hfl : l.flags = flags0) (K : nf_KW p s m args meth c nr_L nb_L_law 9 D a) (hX : va_X b L xs s s.heap) (hbl : b < s.heap.size) {x1 : Int32} {x2 : Int32} {x3 : Int32} (hi1 : vp_in (i5 + (1 : Int32)) L) (hv1 : xs (i5 + (1 : Int32)).toNatClampNeg = x1) (hi2 : vp_in (i5 + (2 : Int32)) L) (hv2 : xs (i5 + (2 : Int32)).toNatClampNeg = x2) (hi3 : vp_in (i5 + (3 : Int32)) L) (hv3 : xs (i5 + (3 : Int32)).toNatClampNeg = x3) (hkc : kc + 40 ≤ room_1.cells) (hks : ks + 240 ≤ room_1.slots) (hk : ∀ (M : nf_M) (H : Heap) (ls : Array Slot), k M → lv_has ls 9 (nf_lawL a b i5) → nf_W D a s s.heap.size H [] M → W p l e room_1 s m args below meth c H [] (kc + 40) (ks + 240) Q (F0 m 927 ls [])) (h : P_arm5 x1 x2 x3 M k) (hl : lv_has ls 9 (nf_lawL a b i5)) (hw : nf_W D a s s.heap.size H [] M) :
    W p l e room_1 s m args below meth c H [] kc ks Q (F0 m 394 ls []) := by
  have hx := K.1
  have hb := K.2.1
  have hl : lv_has ls 9 [(0, .ref b), (1, .ref (a 0)), (2, .ref (a 19)), (3, .ref (a 27)), (4, .ref (a 28)), (5, .int i5)] := hl
  refine W.widen (k := kc + 0) (n := ks + 0) (Nat.le_refl _) (Nat.le_refl _) ?_
  refine lv_aload_n hx hb d_L_law_394 rfl (lv_at hl 1 rfl) ?_
  refine lv_aload_n hx hb d_L_law_395 rfl (lv_at hl 0 rfl) ?_
  refine lv_iload hx hb d_L_law_396 (lv_at hl 5 rfl) ?_
  refine lv_iconst (v := (1 : Int32)) hx hb d_L_law_398 (by decide) ?_
  refine lv_iadd hx hb d_L_law_399 ?_
  refine nf_sldW K hw hX hbl hi1 hv1 d_L_law_400 ?_
  refine lv_aload_n hx hb d_L_law_401 rfl (lv_at hl 0 rfl) ?_
  refine lv_iload hx hb d_L_law_402 (lv_at hl 5 rfl) ?_
  refine lv_iconst (v := (2 : Int32)) hx hb d_L_law_404 (by decide) ?_
  refine lv_iadd hx hb d_L_law_405 ?_
  refine nf_sldW K hw hX hbl hi2 hv2 d_L_law_406 ?_
  refine lv_aload_n hx hb d_L_law_407 rfl (lv_at hl 0 rfl) ?_
  refine lv_iload hx hb d_L_law_408 (lv_at hl 5 rfl) ?_
  refine lv_iconst (v := (3 : Int32)) hx hb d_L_law_410 (by decide) ?_
  refine lv_iadd hx hb d_L_law_411 ?_
  refine nf_sldW K hw hX hbl hi3 hv3 d_L_law_412 ?_
  refine nf_callLWH (As := [.ref (a 0), .int x1, .int x2, .int x3]) (st0 := [.int x3, .int x2, .int x1, .ref (a 0)]) (rest := []) K hw (nf_invSH hx hb K.2.2.2.1 (nf_KgW K nw_629) (nf_KgW K nw_630) (nf_KgW K nw_0) (nf_KgW K nw_631) ⟨by decide, by decide⟩ rfl nl_L_one rfl d_L_law_413) (c_L_one l hfl x1 x2 x3) nw_631 nw_0 rfl ⟨by decide, by decide⟩ (Nat.le_of_ble_eq_true rfl) hl.1 ⟨nf_roomle (n := 0) hkc (Nat.le_of_ble_eq_true rfl), nf_roomle (n := 0) hks (Nat.le_of_ble_eq_true rfl)⟩ h (fun r1 M2 H h hw => ?_)
  refine W.eq (g2 := F0 m 416 ls [.int r1]) rfl ?_
  refine W.widen (k := kc + 4) (n := ks + 24) (Nat.add_le_add_left (m := _) (Nat.le_of_ble_eq_true rfl) kc) (Nat.add_le_add_left (Nat.le_of_ble_eq_true rfl) ks) ?_
  refine lv_istore (lv' := [(6, .int r1), (0, .ref b), (1, .ref (a 0)), (2, .ref (a 19)), (3, .ref (a 27)), (4, .ref (a 28)), (5, .int i5)]) hx hb d_L_law_416 hl (by decide) rfl (fun ls hl => ?_)
  refine lv_aload_n hx hb d_L_law_418 rfl (lv_at hl 3 rfl) ?_
  refine lv_aload_n hx hb d_L_law_419 rfl (lv_at hl 1 rfl) ?_
  refine lv_iload hx hb d_L_law_420 (lv_at hl 6 rfl) ?_
  refine lv_iconst (v := (1 : Int32)) hx hb d_L_law_422 (by decide) ?_
  refine lv_iadd hx hb d_L_law_423 ?_
  refine nf_sldW K hw hX hbl hi1 hv1 d_L_law_424 ?_
  refine lv_aload_n hx hb d_L_law_425 rfl (lv_at hl 1 rfl) ?_
  refine lv_iload hx hb d_L_law_426 (lv_at hl 6 rfl) ?_
  refine lv_iconst (v := (2 : Int32)) hx hb d_L_law_428 (by decide) ?_
  refine lv_iadd hx hb d_L_law_429 ?_
  refine nf_sldW K hw hX hbl hi2 hv2 d_L_law_430 ?_
  refine lv_aload_n hx hb d_L_law_431 rfl (lv_at hl 1 rfl) ?_
  refine lv_iload hx hb d_L_law_432 (lv_at hl 6 rfl) ?_
  refine lv_iconst (v := (3 : Int32)) hx hb d_L_law_434 (by decide) ?_
  refine lv_iadd hx hb d_L_law_435 ?_
  refine nf_sldW K hw hX hbl hi3 hv3 d_L_law_436 ?_
  refine nf_callLW (As := [.ref (a 19), .int x1, .int x2, .int x3]) (st0 := [.int x3, .int x2, .int x1, .ref (a 19)]) (rest := []) K hw (nf_invV hx hb K.2.2.2.1 (nf_KgW K nw_1148) (nf_KgW K nw_1149) (nf_KgW K nw_1150) (nf_KgW K nw_1151) ⟨by decide, by decide⟩ (nf_rcvW K hw 19 7 rfl rfl) rfl nl_M_one rfl d_L_law_437) (c_M_one l hfl x1 x2 x3) nw_1151 nw_9 rfl ⟨by decide, by decide⟩ (Nat.le_of_ble_eq_true rfl) hl.1 ⟨nf_roomle (n := 4) hkc (Nat.le_of_ble_eq_true rfl), nf_roomle (n := 24) hks (Nat.le_of_ble_eq_true rfl)⟩ h (fun r3 M4 H h hw => ?_)
  refine W.eq (g2 := F0 m 440 ls []) rfl ?_
  refine W.widen (k := kc + 4) (n := ks + 24) (Nat.add_le_add_left (m := _) (Nat.le_of_ble_eq_true rfl) kc) (Nat.add_le_add_left (Nat.le_of_ble_eq_true rfl) ks) ?_
  refine lv_aload_n hx hb d_L_law_440 rfl (lv_at hl 3 rfl) ?_
  refine nf_callLW (As := [.ref (a 19)]) (st0 := [.ref (a 19)]) (rest := []) K hw (nf_invV hx hb K.2.2.2.1 (nf_KgW K nw_992) (nf_KgW K nw_993) (nf_KgW K nw_994) (nf_KgW K nw_995) ⟨by decide, by decide⟩ (nf_rcvW K hw 19 7 rfl rfl) rfl nl_M_thrown rfl d_L_law_441) (c_M_thrown l hfl) nw_995 nw_9 rfl ⟨by decide, by decide⟩ (Nat.le_of_ble_eq_true rfl) hl.1 ⟨nf_roomle (n := 4) hkc (Nat.le_of_ble_eq_true rfl), nf_roomle (n := 24) hks (Nat.le_of_ble_eq_true rfl)⟩ h (fun r5 M6 H h hw => ?_)
  refine W.eq (g2 := F0 m 444 ls [.int r5]) rfl ?_
  refine W.widen (k := kc + 4) (n := ks + 24) (Nat.add_le_add_left (m := _) (Nat.le_of_ble_eq_true rfl) kc) (Nat.add_le_add_left (Nat.le_of_ble_eq_true rfl) ks) ?_
  refine lv_iload hx hb d_L_law_444 (lv_at hl 0 rfl) ?_
  refine nf_ic_eq hx hb d_L_law_446 (tgt := 451) (by decide) (fun hc => ?_) (fun hc => ?_)
  · have h := h.1 hc
    refine lv_goto hx hb d_L_law_451 (tgt := 927) (by decide) ?_
    refine W.widen (k := kc + 40) (n := ks + 240) (Nat.add_le_add_left (Nat.le_of_ble_eq_true rfl) _) (Nat.add_le_add_left (Nat.le_of_ble_eq_true rfl) _) ?_
    exact hk M6 _ _ h (lv_sub hl [1, 2, 3, 4, 5, 6] rfl) hw
  · have h := h.2 hc
    refine lv_iconst (v := (0 : Int32)) hx hb d_L_law_449 (by decide) ?_
    exact h.elim
theorem w_arm6 (hfl : l.flags = flags0) (K : nf_KW p s m args meth c nr_L nb_L_law 9 D a) (hX : va_X b L xs s s.heap) (hbl : b < s.heap.size) {x1 : Int32} {x2 : Int32} {x3 : Int32} (hi1 : vp_in (i5 + (1 : Int32)) L) (hv1 : xs (i5 + (1 : Int32)).toNatClampNeg = x1) (hi2 : vp_in (i5 + (2 : Int32)) L) (hv2 : xs (i5 + (2 : Int32)).toNatClampNeg = x2) (hi3 : vp_in (i5 + (3 : Int32)) L) (hv3 : xs (i5 + (3 : Int32)).toNatClampNeg = x3) (hkc : kc + 40 ≤ room_1.cells) (hks : ks + 240 ≤ room_1.slots) (hk : ∀ (M : nf_M) (H : Heap) (ls : Array Slot), k M → lv_has ls 9 (nf_lawL a b i5) → nf_W D a s s.heap.size H [] M → W p l e room_1 s m args below meth c H [] (kc + 40) (ks + 240) Q (F0 m 927 ls [])) (h : P_arm6 x1 x2 x3 M k) (hl : lv_has ls 9 (nf_lawL a b i5)) (hw : nf_W D a s s.heap.size H [] M) :
    W p l e room_1 s m args below meth c H [] kc ks Q (F0 m 454 ls []) := by
  have hx := K.1
  have hb := K.2.1
  have hl : lv_has ls 9 [(0, .ref b), (1, .ref (a 0)), (2, .ref (a 19)), (3, .ref (a 27)), (4, .ref (a 28)), (5, .int i5)] := hl
  refine W.widen (k := kc + 0) (n := ks + 0) (Nat.le_refl _) (Nat.le_refl _) ?_
  refine lv_aload_n hx hb d_L_law_454 rfl (lv_at hl 1 rfl) ?_
  refine lv_aload_n hx hb d_L_law_455 rfl (lv_at hl 0 rfl) ?_
  refine lv_iload hx hb d_L_law_456 (lv_at hl 5 rfl) ?_
  refine lv_iconst (v := (1 : Int32)) hx hb d_L_law_458 (by decide) ?_
  refine lv_iadd hx hb d_L_law_459 ?_
  refine nf_sldW K hw hX hbl hi1 hv1 d_L_law_460 ?_
  refine lv_aload_n hx hb d_L_law_461 rfl (lv_at hl 0 rfl) ?_
  refine lv_iload hx hb d_L_law_462 (lv_at hl 5 rfl) ?_
  refine lv_iconst (v := (2 : Int32)) hx hb d_L_law_464 (by decide) ?_
  refine lv_iadd hx hb d_L_law_465 ?_
  refine nf_sldW K hw hX hbl hi2 hv2 d_L_law_466 ?_
  refine lv_aload_n hx hb d_L_law_467 rfl (lv_at hl 0 rfl) ?_
  refine lv_iload hx hb d_L_law_468 (lv_at hl 5 rfl) ?_
  refine lv_iconst (v := (3 : Int32)) hx hb d_L_law_470 (by decide) ?_
  refine lv_iadd hx hb d_L_law_471 ?_
  refine nf_sldW K hw hX hbl hi3 hv3 d_L_law_472 ?_
  refine nf_callLWH (As := [.ref (a 0), .int x1, .int x2, .int x3]) (st0 := [.int x3, .int x2, .int x1, .ref (a 0)]) (rest := []) K hw (nf_invSH hx hb K.2.2.2.1 (nf_KgW K nw_666) (nf_KgW K nw_667) (nf_KgW K nw_0) (nf_KgW K nw_668) ⟨by decide, by decide⟩ rfl nl_L_cast rfl d_L_law_473) (c_L_cast l hfl x1 x2 x3) nw_668 nw_0 rfl ⟨by decide, by decide⟩ (Nat.le_of_ble_eq_true rfl) hl.1 ⟨nf_roomle (n := 0) hkc (Nat.le_of_ble_eq_true rfl), nf_roomle (n := 0) hks (Nat.le_of_ble_eq_true rfl)⟩ h (fun r1 M2 H h hw => ?_)
  refine W.eq (g2 := F0 m 476 ls [.int r1]) rfl ?_
  refine W.widen (k := kc + 7) (n := ks + 42) (Nat.add_le_add_left (m := _) (Nat.le_of_ble_eq_true rfl) kc) (Nat.add_le_add_left (Nat.le_of_ble_eq_true rfl) ks) ?_
  refine lv_istore (lv' := [(6, .int r1), (0, .ref b), (1, .ref (a 0)), (2, .ref (a 19)), (3, .ref (a 27)), (4, .ref (a 28)), (5, .int i5)]) hx hb d_L_law_476 hl (by decide) rfl (fun ls hl => ?_)
  refine lv_aload_n hx hb d_L_law_478 rfl (lv_at hl 3 rfl) ?_
  refine lv_aload_n hx hb d_L_law_479 rfl (lv_at hl 1 rfl) ?_
  refine lv_iload hx hb d_L_law_480 (lv_at hl 6 rfl) ?_
  refine lv_iconst (v := (1 : Int32)) hx hb d_L_law_482 (by decide) ?_
  refine lv_iadd hx hb d_L_law_483 ?_
  refine nf_sldW K hw hX hbl hi1 hv1 d_L_law_484 ?_
  refine lv_aload_n hx hb d_L_law_485 rfl (lv_at hl 1 rfl) ?_
  refine lv_iload hx hb d_L_law_486 (lv_at hl 6 rfl) ?_
  refine lv_iconst (v := (2 : Int32)) hx hb d_L_law_488 (by decide) ?_
  refine lv_iadd hx hb d_L_law_489 ?_
  refine nf_sldW K hw hX hbl hi2 hv2 d_L_law_490 ?_
  refine lv_aload_n hx hb d_L_law_491 rfl (lv_at hl 1 rfl) ?_
  refine lv_iload hx hb d_L_law_492 (lv_at hl 6 rfl) ?_
  refine lv_iconst (v := (3 : Int32)) hx hb d_L_law_494 (by decide) ?_
  refine lv_iadd hx hb d_L_law_495 ?_
  refine nf_sldW K hw hX hbl hi3 hv3 d_L_law_496 ?_
  refine nf_callLW (As := [.ref (a 19), .int x1, .int x2, .int x3]) (st0 := [.int x3, .int x2, .int x1, .ref (a 19)]) (rest := []) K hw (nf_invV hx hb K.2.2.2.1 (nf_KgW K nw_1168) (nf_KgW K nw_1169) (nf_KgW K nw_1170) (nf_KgW K nw_1171) ⟨by decide, by decide⟩ (nf_rcvW K hw 19 7 rfl rfl) rfl nl_M_cast rfl d_L_law_497) (c_M_cast l hfl x1 x2 x3) nw_1171 nw_9 rfl ⟨by decide, by decide⟩ (Nat.le_of_ble_eq_true rfl) hl.1 ⟨nf_roomle (n := 7) hkc (Nat.le_of_ble_eq_true rfl), nf_roomle (n := 42) hks (Nat.le_of_ble_eq_true rfl)⟩ h (fun r3 M4 H h hw => ?_)
  refine W.eq (g2 := F0 m 500 ls []) rfl ?_
  refine W.widen (k := kc + 7) (n := ks + 42) (Nat.add_le_add_left (m := _) (Nat.le_of_ble_eq_true rfl) kc) (Nat.add_le_add_left (Nat.le_of_ble_eq_true rfl) ks) ?_
  refine lv_aload_n hx hb d_L_law_500 rfl (lv_at hl 3 rfl) ?_
  refine nf_callLW (As := [.ref (a 19)]) (st0 := [.ref (a 19)]) (rest := []) K hw (nf_invV hx hb K.2.2.2.1 (nf_KgW K nw_992) (nf_KgW K nw_993) (nf_KgW K nw_994) (nf_KgW K nw_995) ⟨by decide, by decide⟩ (nf_rcvW K hw 19 7 rfl rfl) rfl nl_M_thrown rfl d_L_law_501) (c_M_thrown l hfl) nw_995 nw_9 rfl ⟨by decide, by decide⟩ (Nat.le_of_ble_eq_true rfl) hl.1 ⟨nf_roomle (n := 7) hkc (Nat.le_of_ble_eq_true rfl), nf_roomle (n := 42) hks (Nat.le_of_ble_eq_true rfl)⟩ h (fun r5 M6 H h hw => ?_)
  refine W.eq (g2 := F0 m 504 ls [.int r5]) rfl ?_
  refine W.widen (k := kc + 7) (n := ks + 42) (Nat.add_le_add_left (m := _) (Nat.le_of_ble_eq_true rfl) kc) (Nat.add_le_add_left (Nat.le_of_ble_eq_true rfl) ks) ?_
  refine lv_iload hx hb d_L_law_504 (lv_at hl 0 rfl) ?_
  refine nf_ic_eq hx hb d_L_law_506 (tgt := 511) (by decide) (fun hc => ?_) (fun hc => ?_)
  · have h := h.1 hc
    refine lv_goto hx hb d_L_law_511 (tgt := 927) (by decide) ?_
    refine W.widen (k := kc + 40) (n := ks + 240) (Nat.add_le_add_left (Nat.le_of_ble_eq_true rfl) _) (Nat.add_le_add_left (Nat.le_of_ble_eq_true rfl) _) ?_
    exact hk M6 _ _ h (lv_sub hl [1, 2, 3, 4, 5, 6] rfl) hw
  · have h := h.2 hc
    refine lv_iconst (v := (0 : Int32)) hx hb d_L_law_509 (by decide) ?_
    exact h.elim
theorem w_arm7 (hfl : l.flags = flags0) (K : nf_KW p s m args meth c nr_L nb_L_law 9 D a) (hX : va_X b L xs s s.heap) (hbl : b < s.heap.size) {x1 : Int32} {x2 : Int32} (hi1 : vp_in (i5 + (1 : Int32)) L) (hv1 : xs (i5 + (1 : Int32)).toNatClampNeg = x1) (hi2 : vp_in (i5 + (2 : Int32)) L) (hv2 : xs (i5 + (2 : Int32)).toNatClampNeg = x2) (hkc : kc + 40 ≤ room_1.cells) (hks : ks + 240 ≤ room_1.slots) (hk : ∀ (M : nf_M) (H : Heap) (ls : Array Slot), k M → lv_has ls 9 (nf_lawL a b i5) → nf_W D a s s.heap.size H [] M → W p l e room_1 s m args below meth c H [] (kc + 40) (ks + 240) Q (F0 m 927 ls [])) (h : P_arm7 x1 x2 M k) (hl : lv_has ls 9 (nf_lawL a b i5)) (hw : nf_W D a s s.heap.size H [] M) :
    W p l e room_1 s m args below meth c H [] kc ks Q (F0 m 514 ls []) := by
  have hx := K.1
  have hb := K.2.1
  have hl : lv_has ls 9 [(0, .ref b), (1, .ref (a 0)), (2, .ref (a 19)), (3, .ref (a 27)), (4, .ref (a 28)), (5, .int i5)] := hl
  refine W.widen (k := kc + 0) (n := ks + 0) (Nat.le_refl _) (Nat.le_refl _) ?_
  refine lv_aload_n hx hb d_L_law_514 rfl (lv_at hl 1 rfl) ?_
  refine lv_aload_n hx hb d_L_law_515 rfl (lv_at hl 0 rfl) ?_
  refine lv_iload hx hb d_L_law_516 (lv_at hl 5 rfl) ?_
  refine lv_iconst (v := (1 : Int32)) hx hb d_L_law_518 (by decide) ?_
  refine lv_iadd hx hb d_L_law_519 ?_
  refine nf_sldW K hw hX hbl hi1 hv1 d_L_law_520 ?_
  refine lv_aload_n hx hb d_L_law_521 rfl (lv_at hl 0 rfl) ?_
  refine lv_iload hx hb d_L_law_522 (lv_at hl 5 rfl) ?_
  refine lv_iconst (v := (2 : Int32)) hx hb d_L_law_524 (by decide) ?_
  refine lv_iadd hx hb d_L_law_525 ?_
  refine nf_sldW K hw hX hbl hi2 hv2 d_L_law_526 ?_
  refine lv_aload_n hx hb d_L_law_527 rfl (lv_at hl 3 rfl) ?_
  refine nf_callLWH (As := [.ref (a 0), .int x1, .int x2, .ref (a 27)]) (st0 := [.ref (a 27), .int x2, .int x1, .ref (a 0)]) (rest := []) K hw (nf_invSH hx hb K.2.2.2.1 (nf_KgW K nw_687) (nf_KgW K nw_688) (nf_KgW K nw_0) (nf_KgW K nw_689) ⟨by decide, by decide⟩ rfl nl_L_compare rfl d_L_law_528) (c_L_compare l hfl x1 x2) nw_689 nw_0 rfl ⟨by decide, by decide⟩ (Nat.le_of_ble_eq_true rfl) hl.1 ⟨nf_roomle (n := 0) hkc (Nat.le_of_ble_eq_true rfl), nf_roomle (n := 0) hks (Nat.le_of_ble_eq_true rfl)⟩ h (fun r1 M2 H h hw => ?_)
  refine W.eq (g2 := F0 m 531 ls [.int r1]) rfl ?_
  refine W.widen (k := kc + 4) (n := ks + 24) (Nat.add_le_add_left (m := _) (Nat.le_of_ble_eq_true rfl) kc) (Nat.add_le_add_left (Nat.le_of_ble_eq_true rfl) ks) ?_
  refine lv_istore (lv' := [(6, .int r1), (0, .ref b), (1, .ref (a 0)), (2, .ref (a 19)), (3, .ref (a 27)), (4, .ref (a 28)), (5, .int i5)]) hx hb d_L_law_531 hl (by decide) rfl (fun ls hl => ?_)
  refine lv_aload_n hx hb d_L_law_533 rfl (lv_at hl 3 rfl) ?_
  refine lv_aload_n hx hb d_L_law_534 rfl (lv_at hl 1 rfl) ?_
  refine lv_iload hx hb d_L_law_535 (lv_at hl 6 rfl) ?_
  refine lv_iconst (v := (1 : Int32)) hx hb d_L_law_537 (by decide) ?_
  refine lv_iadd hx hb d_L_law_538 ?_
  refine nf_sldW K hw hX hbl hi1 hv1 d_L_law_539 ?_
  refine lv_aload_n hx hb d_L_law_540 rfl (lv_at hl 1 rfl) ?_
  refine lv_iload hx hb d_L_law_541 (lv_at hl 6 rfl) ?_
  refine lv_iconst (v := (2 : Int32)) hx hb d_L_law_543 (by decide) ?_
  refine lv_iadd hx hb d_L_law_544 ?_
  refine nf_sldW K hw hX hbl hi2 hv2 d_L_law_545 ?_
  refine nf_callLW (As := [.ref (a 19), .int x1, .int x2]) (st0 := [.int x2, .int x1, .ref (a 19)]) (rest := []) K hw (nf_invV hx hb K.2.2.2.1 (nf_KgW K nw_1182) (nf_KgW K nw_1183) (nf_KgW K nw_1184) (nf_KgW K nw_1185) ⟨by decide, by decide⟩ (nf_rcvW K hw 19 7 rfl rfl) rfl nl_M_compare rfl d_L_law_546) (c_M_compare l hfl x1 x2) nw_1185 nw_9 rfl ⟨by decide, by decide⟩ (Nat.le_of_ble_eq_true rfl) hl.1 ⟨nf_roomle (n := 4) hkc (Nat.le_of_ble_eq_true rfl), nf_roomle (n := 24) hks (Nat.le_of_ble_eq_true rfl)⟩ h (fun r3 M4 H h hw => ?_)
  refine W.eq (g2 := F0 m 549 ls [.int r3]) rfl ?_
  refine W.widen (k := kc + 4) (n := ks + 24) (Nat.add_le_add_left (m := _) (Nat.le_of_ble_eq_true rfl) kc) (Nat.add_le_add_left (Nat.le_of_ble_eq_true rfl) ks) ?_
  refine lv_istore (lv' := [(7, .int r3), (6, .int r1), (0, .ref b), (1, .ref (a 0)), (2, .ref (a 19)), (3, .ref (a 27)), (4, .ref (a 28)), (5, .int i5)]) hx hb d_L_law_549 hl (by decide) rfl (fun ls hl => ?_)
  refine lv_aload_n hx hb d_L_law_551 rfl (lv_at hl 4 rfl) ?_
  refine nf_callLW (As := [.ref (a 19)]) (st0 := [.ref (a 19)]) (rest := []) K hw (nf_invV hx hb K.2.2.2.1 (nf_KgW K nw_992) (nf_KgW K nw_993) (nf_KgW K nw_994) (nf_KgW K nw_995) ⟨by decide, by decide⟩ (nf_rcvW K hw 19 7 rfl rfl) rfl nl_M_thrown rfl d_L_law_552) (c_M_thrown l hfl) nw_995 nw_9 rfl ⟨by decide, by decide⟩ (Nat.le_of_ble_eq_true rfl) hl.1 ⟨nf_roomle (n := 4) hkc (Nat.le_of_ble_eq_true rfl), nf_roomle (n := 24) hks (Nat.le_of_ble_eq_true rfl)⟩ h (fun r5 M6 H h hw => ?_)
  refine W.eq (g2 := F0 m 555 ls [.int r5]) rfl ?_
  refine W.widen (k := kc + 4) (n := ks + 24) (Nat.add_le_add_left (m := _) (Nat.le_of_ble_eq_true rfl) kc) (Nat.add_le_add_left (Nat.le_of_ble_eq_true rfl) ks) ?_
  refine lv_iload hx hb d_L_law_555 (lv_at hl 1 rfl) ?_
  refine nf_ic_eq hx hb d_L_law_557 (tgt := 562) (by decide) (fun hc => ?_) (fun hc => ?_)
  · have h := h.1 hc
    refine lv_iload hx hb d_L_law_562 (lv_at hl 1 rfl) ?_
    refine nf_if_ne hx hb d_L_law_564 (tgt := 579) (by decide) (fun hc => ?_) (fun hc => ?_)
    · have h := h.1 hc
      refine lv_aload_n hx hb d_L_law_567 rfl (lv_at hl 5 rfl) ?_
      refine lv_iconst (v := (0 : Int32)) hx hb d_L_law_568 (by decide) ?_
      obtain ⟨g7, h⟩ := h
      refine nf_laldW K hw 27 10 rfl rfl g7 d_L_law_569 ?_
      refine lv_iload hx hb d_L_law_570 (lv_at hl 0 rfl) ?_
      refine lv_i2l hx hb d_L_law_572 rfl ?_
      refine nf_lc_eq hx hb d_L_law_573 d_L_law_574 (tgt := 579) (by decide) (fun hc => ?_) (fun hc => ?_)
      · have h := h.1 hc
        refine lv_goto hx hb d_L_law_579 (tgt := 927) (by decide) ?_
        refine W.widen (k := kc + 40) (n := ks + 240) (Nat.add_le_add_left (Nat.le_of_ble_eq_true rfl) _) (Nat.add_le_add_left (Nat.le_of_ble_eq_true rfl) _) ?_
        exact hk M6 _ _ h (lv_sub hl [2, 3, 4, 5, 6, 7] rfl) hw
      · have h := h.2 hc
        refine lv_iconst (v := (0 : Int32)) hx hb d_L_law_577 (by decide) ?_
        exact h.elim
    · have h := h.2 hc
      refine lv_goto hx hb d_L_law_579 (tgt := 927) (by decide) ?_
      refine W.widen (k := kc + 40) (n := ks + 240) (Nat.add_le_add_left (Nat.le_of_ble_eq_true rfl) _) (Nat.add_le_add_left (Nat.le_of_ble_eq_true rfl) _) ?_
      exact hk M6 _ _ h (lv_sub hl [2, 3, 4, 5, 6, 7] rfl) hw
  · have h := h.2 hc
    refine lv_iconst (v := (0 : Int32)) hx hb d_L_law_560 (by decide) ?_
    exact h.elim
theorem w_arm8 (hfl : l.flags = flags0) (K : nf_KW p s m args meth c nr_L nb_L_law 9 D a) (hX : va_X b L xs s s.heap) (hbl : b < s.heap.size) {x1 : Int32} (hi1 : vp_in (i5 + (1 : Int32)) L) (hv1 : xs (i5 + (1 : Int32)).toNatClampNeg = x1) (hkc : kc + 40 ≤ room_1.cells) (hks : ks + 240 ≤ room_1.slots) (hk : ∀ (M : nf_M) (H : Heap) (ls : Array Slot), k M → lv_has ls 9 (nf_lawL a b i5) → nf_W D a s s.heap.size H [] M → W p l e room_1 s m args below meth c H [] (kc + 40) (ks + 240) Q (F0 m 927 ls [])) (h : P_arm8 x1 M k) (hl : lv_has ls 9 (nf_lawL a b i5)) (hw : nf_W D a s s.heap.size H [] M) :
    W p l e room_1 s m args below meth c H [] kc ks Q (F0 m 582 ls []) := by
  have hx := K.1
  have hb := K.2.1
  have hl : lv_has ls 9 [(0, .ref b), (1, .ref (a 0)), (2, .ref (a 19)), (3, .ref (a 27)), (4, .ref (a 28)), (5, .int i5)] := hl
  refine W.widen (k := kc + 0) (n := ks + 0) (Nat.le_refl _) (Nat.le_refl _) ?_
  refine lv_aload_n hx hb d_L_law_582 rfl (lv_at hl 1 rfl) ?_
  refine lv_aload_n hx hb d_L_law_583 rfl (lv_at hl 0 rfl) ?_
  refine lv_iload hx hb d_L_law_584 (lv_at hl 5 rfl) ?_
  refine lv_iconst (v := (1 : Int32)) hx hb d_L_law_586 (by decide) ?_
  refine lv_iadd hx hb d_L_law_587 ?_
  refine nf_sldW K hw hX hbl hi1 hv1 d_L_law_588 ?_
  refine nf_callLW (As := [.ref (a 0), .int x1]) (st0 := [.int x1, .ref (a 0)]) (rest := []) K hw (nf_invV hx hb K.2.2.2.1 (nf_KgW K nw_209) (nf_KgW K nw_210) (nf_KgW K nw_211) (nf_KgW K nw_212) ⟨by decide, by decide⟩ (nf_rcvW K hw 0 6 rfl rfl) rfl nl_F_kind rfl d_L_law_589) (c_F_kind l hfl x1) nw_212 nw_1 rfl ⟨by decide, by decide⟩ (Nat.le_of_ble_eq_true rfl) hl.1 ⟨nf_roomle (n := 0) hkc (Nat.le_of_ble_eq_true rfl), nf_roomle (n := 0) hks (Nat.le_of_ble_eq_true rfl)⟩ h (fun r1 M2 H h hw => ?_)
  refine W.eq (g2 := F0 m 592 ls [.int r1]) rfl ?_
  refine W.widen (k := kc + 0) (n := ks + 0) (Nat.add_le_add_left (m := _) (Nat.le_of_ble_eq_true rfl) kc) (Nat.add_le_add_left (Nat.le_of_ble_eq_true rfl) ks) ?_
  refine lv_aload_n hx hb d_L_law_592 rfl (lv_at hl 2 rfl) ?_
  refine lv_aload_n hx hb d_L_law_593 rfl (lv_at hl 0 rfl) ?_
  refine lv_iload hx hb d_L_law_594 (lv_at hl 5 rfl) ?_
  refine lv_iconst (v := (1 : Int32)) hx hb d_L_law_596 (by decide) ?_
  refine lv_iadd hx hb d_L_law_597 ?_
  refine nf_sldW K hw hX hbl hi1 hv1 d_L_law_598 ?_
  refine nf_callLW (As := [.ref (a 19), .int x1]) (st0 := [.int x1, .ref (a 19), .int r1]) (rest := [.int r1]) K hw (nf_invV hx hb K.2.2.2.1 (nf_KgW K nw_1186) (nf_KgW K nw_1187) (nf_KgW K nw_1188) (nf_KgW K nw_1189) ⟨by decide, by decide⟩ (nf_rcvW K hw 19 7 rfl rfl) rfl nl_M_kind rfl d_L_law_599) (c_M_kind l hfl x1) nw_1189 nw_9 rfl ⟨by decide, by decide⟩ (Nat.le_of_ble_eq_true rfl) hl.1 ⟨nf_roomle (n := 0) hkc (Nat.le_of_ble_eq_true rfl), nf_roomle (n := 0) hks (Nat.le_of_ble_eq_true rfl)⟩ h (fun r3 M4 H h hw => ?_)
  refine W.eq (g2 := F0 m 602 ls [.int r3, .int r1]) rfl ?_
  refine W.widen (k := kc + 0) (n := ks + 0) (Nat.add_le_add_left (m := _) (Nat.le_of_ble_eq_true rfl) kc) (Nat.add_le_add_left (Nat.le_of_ble_eq_true rfl) ks) ?_
  refine nf_ic_eq hx hb d_L_law_602 (tgt := 927) (by decide) (fun hc => ?_) (fun hc => ?_)
  · have h := h.1 hc
    refine W.widen (k := kc + 40) (n := ks + 240) (Nat.add_le_add_left (Nat.le_of_ble_eq_true rfl) _) (Nat.add_le_add_left (Nat.le_of_ble_eq_true rfl) _) ?_
    exact hk M4 _ _ h (lv_sub hl [0, 1, 2, 3, 4, 5] rfl) hw
  · have h := h.2 hc
    refine lv_iconst (v := (0 : Int32)) hx hb d_L_law_605 (by decide) ?_
    exact h.elim
theorem w_arm9 (hfl : l.flags = flags0) (K : nf_KW p s m args meth c nr_L nb_L_law 9 D a) (hX : va_X b L xs s s.heap) (hbl : b < s.heap.size) {x1 : Int32} (hi1 : vp_in (i5 + (1 : Int32)) L) (hv1 : xs (i5 + (1 : Int32)).toNatClampNeg = x1) (hkc : kc + 40 ≤ room_1.cells) (hks : ks + 240 ≤ room_1.slots) (hk : ∀ (M : nf_M) (H : Heap) (ls : Array Slot), k M → lv_has ls 9 (nf_lawL a b i5) → nf_W D a s s.heap.size H [] M → W p l e room_1 s m args below meth c H [] (kc + 40) (ks + 240) Q (F0 m 927 ls [])) (h : P_arm9 x1 M k) (hl : lv_has ls 9 (nf_lawL a b i5)) (hw : nf_W D a s s.heap.size H [] M) :
    W p l e room_1 s m args below meth c H [] kc ks Q (F0 m 607 ls []) := by
  have hx := K.1
  have hb := K.2.1
  have hl : lv_has ls 9 [(0, .ref b), (1, .ref (a 0)), (2, .ref (a 19)), (3, .ref (a 27)), (4, .ref (a 28)), (5, .int i5)] := hl
  refine W.widen (k := kc + 0) (n := ks + 0) (Nat.le_refl _) (Nat.le_refl _) ?_
  refine lv_aload_n hx hb d_L_law_607 rfl (lv_at hl 1 rfl) ?_
  refine lv_aload_n hx hb d_L_law_608 rfl (lv_at hl 0 rfl) ?_
  refine lv_iload hx hb d_L_law_609 (lv_at hl 5 rfl) ?_
  refine lv_iconst (v := (1 : Int32)) hx hb d_L_law_611 (by decide) ?_
  refine lv_iadd hx hb d_L_law_612 ?_
  refine nf_sldW K hw hX hbl hi1 hv1 d_L_law_613 ?_
  refine lv_aload hx hb d_L_law_614 (lv_at hl 4 rfl) ?_
  refine nf_callLWH (As := [.ref (a 0), .int x1, .ref (a 28)]) (st0 := [.ref (a 28), .int x1, .ref (a 0)]) (rest := []) K hw (nf_invSH hx hb K.2.2.2.1 (nf_KgW K nw_706) (nf_KgW K nw_707) (nf_KgW K nw_0) (nf_KgW K nw_708) ⟨by decide, by decide⟩ rfl nl_L_real rfl d_L_law_616) (c_L_real l hfl x1) nw_708 nw_0 rfl ⟨by decide, by decide⟩ (Nat.le_of_ble_eq_true rfl) hl.1 ⟨nf_roomle (n := 0) hkc (Nat.le_of_ble_eq_true rfl), nf_roomle (n := 0) hks (Nat.le_of_ble_eq_true rfl)⟩ h (fun r1 M2 H h hw => ?_)
  refine W.eq (g2 := F0 m 619 ls [.int r1]) rfl ?_
  refine W.widen (k := kc + 2) (n := ks + 12) (Nat.add_le_add_left (m := _) (Nat.le_of_ble_eq_true rfl) kc) (Nat.add_le_add_left (Nat.le_of_ble_eq_true rfl) ks) ?_
  refine lv_istore (lv' := [(6, .int r1), (0, .ref b), (1, .ref (a 0)), (2, .ref (a 19)), (3, .ref (a 27)), (4, .ref (a 28)), (5, .int i5)]) hx hb d_L_law_619 hl (by decide) rfl (fun ls hl => ?_)
  refine lv_aload_n hx hb d_L_law_621 rfl (lv_at hl 3 rfl) ?_
  refine lv_aload_n hx hb d_L_law_622 rfl (lv_at hl 1 rfl) ?_
  refine lv_iload hx hb d_L_law_623 (lv_at hl 6 rfl) ?_
  refine lv_iconst (v := (1 : Int32)) hx hb d_L_law_625 (by decide) ?_
  refine lv_iadd hx hb d_L_law_626 ?_
  refine nf_sldW K hw hX hbl hi1 hv1 d_L_law_627 ?_
  refine nf_callLW (As := [.ref (a 19), .int x1]) (st0 := [.int x1, .ref (a 19)]) (rest := []) K hw (nf_invV hx hb K.2.2.2.1 (nf_KgW K nw_1190) (nf_KgW K nw_1191) (nf_KgW K nw_1192) (nf_KgW K nw_1193) ⟨by decide, by decide⟩ (nf_rcvW K hw 19 7 rfl rfl) rfl nl_M_real rfl d_L_law_628) (c_M_real l hfl x1) nw_1193 nw_9 rfl ⟨by decide, by decide⟩ (Nat.le_of_ble_eq_true rfl) hl.1 ⟨nf_roomle (n := 2) hkc (Nat.le_of_ble_eq_true rfl), nf_roomle (n := 12) hks (Nat.le_of_ble_eq_true rfl)⟩ h (fun r3 M4 H h hw => ?_)
  refine W.eq (g2 := F0 m 631 ls [.double r3]) rfl ?_
  refine W.widen (k := kc + 2) (n := ks + 12) (Nat.add_le_add_left (m := _) (Nat.le_of_ble_eq_true rfl) kc) (Nat.add_le_add_left (Nat.le_of_ble_eq_true rfl) ks) ?_
  refine lv_dstore (lv' := [(7, .double r3), (6, .int r1), (0, .ref b), (1, .ref (a 0)), (2, .ref (a 19)), (3, .ref (a 27)), (4, .ref (a 28)), (5, .int i5)]) hx hb d_L_law_631 hl (by decide) rfl (fun ls hl => ?_)
  refine lv_aload_n hx hb d_L_law_633 rfl (lv_at hl 4 rfl) ?_
  refine nf_callLW (As := [.ref (a 19)]) (st0 := [.ref (a 19)]) (rest := []) K hw (nf_invV hx hb K.2.2.2.1 (nf_KgW K nw_992) (nf_KgW K nw_993) (nf_KgW K nw_994) (nf_KgW K nw_995) ⟨by decide, by decide⟩ (nf_rcvW K hw 19 7 rfl rfl) rfl nl_M_thrown rfl d_L_law_634) (c_M_thrown l hfl) nw_995 nw_9 rfl ⟨by decide, by decide⟩ (Nat.le_of_ble_eq_true rfl) hl.1 ⟨nf_roomle (n := 2) hkc (Nat.le_of_ble_eq_true rfl), nf_roomle (n := 12) hks (Nat.le_of_ble_eq_true rfl)⟩ h (fun r5 M6 H h hw => ?_)
  refine W.eq (g2 := F0 m 637 ls [.int r5]) rfl ?_
  refine W.widen (k := kc + 2) (n := ks + 12) (Nat.add_le_add_left (m := _) (Nat.le_of_ble_eq_true rfl) kc) (Nat.add_le_add_left (Nat.le_of_ble_eq_true rfl) ks) ?_
  refine lv_iload hx hb d_L_law_637 (lv_at hl 1 rfl) ?_
  refine nf_ic_eq hx hb d_L_law_639 (tgt := 644) (by decide) (fun hc => ?_) (fun hc => ?_)
  · have h := h.1 hc
    refine lv_iload hx hb d_L_law_644 (lv_at hl 1 rfl) ?_
    refine nf_if_ne hx hb d_L_law_646 (tgt := 681) (by decide) (fun hc => ?_) (fun hc => ?_)
    · have h := h.1 hc
      refine lv_aload hx hb d_L_law_649 (lv_at hl 6 rfl) ?_
      refine lv_iconst (v := (0 : Int32)) hx hb d_L_law_651 (by decide) ?_
      obtain ⟨g7, h⟩ := h
      refine nf_daldW K hw 28 11 rfl rfl g7 d_L_law_652 ?_
      refine lv_dload hx hb d_L_law_653 (lv_at hl 0 rfl) ?_
      refine nf_dl_eq hx hb d_L_law_655 d_L_law_656 (tgt := 681) (by decide) (fun hc => ?_) (fun hc => ?_)
      · have h := h.1 hc
        refine lv_goto hx hb d_L_law_681 (tgt := 927) (by decide) ?_
        refine W.widen (k := kc + 40) (n := ks + 240) (Nat.add_le_add_left (Nat.le_of_ble_eq_true rfl) _) (Nat.add_le_add_left (Nat.le_of_ble_eq_true rfl) _) ?_
        exact hk M6 _ _ h (lv_sub hl [2, 3, 4, 5, 6, 7] rfl) hw
      · have h := h.2 hc
        refine lv_aload hx hb d_L_law_659 (lv_at hl 6 rfl) ?_
        refine lv_iconst (v := (0 : Int32)) hx hb d_L_law_661 (by decide) ?_
        obtain ⟨g8, h⟩ := h
        refine nf_daldW K hw 28 11 rfl rfl g8 d_L_law_662 ?_
        refine lv_aload hx hb d_L_law_663 (lv_at hl 6 rfl) ?_
        refine lv_iconst (v := (0 : Int32)) hx hb d_L_law_665 (by decide) ?_
        obtain ⟨g9, h⟩ := h
        refine nf_daldW K hw 28 11 rfl rfl g9 d_L_law_666 ?_
        refine nf_dl_eq hx hb d_L_law_667 d_L_law_668 (tgt := 679) (by decide) (fun hc => ?_) (fun hc => ?_)
        · have h := h.1 hc
          refine lv_iconst (v := (0 : Int32)) hx hb d_L_law_679 (by decide) ?_
          exact h.elim
        · have h := h.2 hc
          refine lv_dload hx hb d_L_law_671 (lv_at hl 0 rfl) ?_
          refine lv_dload hx hb d_L_law_673 (lv_at hl 0 rfl) ?_
          refine nf_dl_ne hx hb d_L_law_675 d_L_law_676 (tgt := 681) (by decide) (fun hc => ?_) (fun hc => ?_)
          · have h := h.1 hc
            refine lv_iconst (v := (0 : Int32)) hx hb d_L_law_679 (by decide) ?_
            exact h.elim
          · have h := h.2 hc
            refine lv_goto hx hb d_L_law_681 (tgt := 927) (by decide) ?_
            refine W.widen (k := kc + 40) (n := ks + 240) (Nat.add_le_add_left (Nat.le_of_ble_eq_true rfl) _) (Nat.add_le_add_left (Nat.le_of_ble_eq_true rfl) _) ?_
            exact hk M6 _ _ h (lv_sub hl [2, 3, 4, 5, 6, 7] rfl) hw
    · have h := h.2 hc
      refine lv_goto hx hb d_L_law_681 (tgt := 927) (by decide) ?_
      refine W.widen (k := kc + 40) (n := ks + 240) (Nat.add_le_add_left (Nat.le_of_ble_eq_true rfl) _) (Nat.add_le_add_left (Nat.le_of_ble_eq_true rfl) _) ?_
      exact hk M6 _ _ h (lv_sub hl [2, 3, 4, 5, 6, 7] rfl) hw
  · have h := h.2 hc
    refine lv_iconst (v := (0 : Int32)) hx hb d_L_law_642 (by decide) ?_
    exact h.elim
theorem w_arm10 (hfl : l.flags = flags0) (K : nf_KW p s m args meth c nr_L nb_L_law 9 D a) (hX : va_X b L xs s s.heap) (hbl : b < s.heap.size) {x1 : Int32} {x2 : Int32} (hi1 : vp_in (i5 + (1 : Int32)) L) (hv1 : xs (i5 + (1 : Int32)).toNatClampNeg = x1) (hi2 : vp_in (i5 + (2 : Int32)) L) (hv2 : xs (i5 + (2 : Int32)).toNatClampNeg = x2) (hkc : kc + 40 ≤ room_1.cells) (hks : ks + 240 ≤ room_1.slots) (hk : ∀ (M : nf_M) (H : Heap) (ls : Array Slot), k M → lv_has ls 9 (nf_lawL a b i5) → nf_W D a s s.heap.size H [] M → W p l e room_1 s m args below meth c H [] (kc + 40) (ks + 240) Q (F0 m 927 ls [])) (h : P_arm10 x1 x2 M k) (hl : lv_has ls 9 (nf_lawL a b i5)) (hw : nf_W D a s s.heap.size H [] M) :
    W p l e room_1 s m args below meth c H [] kc ks Q (F0 m 684 ls []) := by
  have hx := K.1
  have hb := K.2.1
  have hl : lv_has ls 9 [(0, .ref b), (1, .ref (a 0)), (2, .ref (a 19)), (3, .ref (a 27)), (4, .ref (a 28)), (5, .int i5)] := hl
  refine W.widen (k := kc + 0) (n := ks + 0) (Nat.le_refl _) (Nat.le_refl _) ?_
  refine lv_aload_n hx hb d_L_law_684 rfl (lv_at hl 1 rfl) ?_
  refine lv_aload_n hx hb d_L_law_685 rfl (lv_at hl 0 rfl) ?_
  refine lv_iload hx hb d_L_law_686 (lv_at hl 5 rfl) ?_
  refine lv_iconst (v := (1 : Int32)) hx hb d_L_law_688 (by decide) ?_
  refine lv_iadd hx hb d_L_law_689 ?_
  refine nf_sldW K hw hX hbl hi1 hv1 d_L_law_690 ?_
  refine lv_aload_n hx hb d_L_law_691 rfl (lv_at hl 0 rfl) ?_
  refine lv_iload hx hb d_L_law_692 (lv_at hl 5 rfl) ?_
  refine lv_iconst (v := (2 : Int32)) hx hb d_L_law_694 (by decide) ?_
  refine lv_iadd hx hb d_L_law_695 ?_
  refine nf_sldW K hw hX hbl hi2 hv2 d_L_law_696 ?_
  refine nf_callLW (As := [.ref (a 0), .int x1, .int x2]) (st0 := [.int x2, .int x1, .ref (a 0)]) (rest := []) K hw (nf_invV hx hb K.2.2.2.1 (nf_KgW K nw_217) (nf_KgW K nw_218) (nf_KgW K nw_219) (nf_KgW K nw_220) ⟨by decide, by decide⟩ (nf_rcvW K hw 0 6 rfl rfl) rfl nl_F_exact rfl d_L_law_697) (c_F_exact l hfl x1 x2) nw_220 nw_1 rfl ⟨by decide, by decide⟩ (Nat.le_of_ble_eq_true rfl) hl.1 ⟨nf_roomle (n := 0) hkc (Nat.le_of_ble_eq_true rfl), nf_roomle (n := 0) hks (Nat.le_of_ble_eq_true rfl)⟩ h (fun r1 M2 H h hw => ?_)
  refine W.eq (g2 := F0 m 700 ls [.long r1]) rfl ?_
  refine W.widen (k := kc + 0) (n := ks + 0) (Nat.add_le_add_left (m := _) (Nat.le_of_ble_eq_true rfl) kc) (Nat.add_le_add_left (Nat.le_of_ble_eq_true rfl) ks) ?_
  refine lv_aload_n hx hb d_L_law_700 rfl (lv_at hl 2 rfl) ?_
  refine lv_aload_n hx hb d_L_law_701 rfl (lv_at hl 0 rfl) ?_
  refine lv_iload hx hb d_L_law_702 (lv_at hl 5 rfl) ?_
  refine lv_iconst (v := (1 : Int32)) hx hb d_L_law_704 (by decide) ?_
  refine lv_iadd hx hb d_L_law_705 ?_
  refine nf_sldW K hw hX hbl hi1 hv1 d_L_law_706 ?_
  refine lv_aload_n hx hb d_L_law_707 rfl (lv_at hl 0 rfl) ?_
  refine lv_iload hx hb d_L_law_708 (lv_at hl 5 rfl) ?_
  refine lv_iconst (v := (2 : Int32)) hx hb d_L_law_710 (by decide) ?_
  refine lv_iadd hx hb d_L_law_711 ?_
  refine nf_sldW K hw hX hbl hi2 hv2 d_L_law_712 ?_
  refine nf_callLW (As := [.ref (a 19), .int x1, .int x2]) (st0 := [.int x2, .int x1, .ref (a 19), .long r1]) (rest := [.long r1]) K hw (nf_invV hx hb K.2.2.2.1 (nf_KgW K nw_1194) (nf_KgW K nw_1195) (nf_KgW K nw_1196) (nf_KgW K nw_1197) ⟨by decide, by decide⟩ (nf_rcvW K hw 19 7 rfl rfl) rfl nl_M_exact rfl d_L_law_713) (c_M_exact l hfl x1 x2) nw_1197 nw_9 rfl ⟨by decide, by decide⟩ (Nat.le_of_ble_eq_true rfl) hl.1 ⟨nf_roomle (n := 0) hkc (Nat.le_of_ble_eq_true rfl), nf_roomle (n := 0) hks (Nat.le_of_ble_eq_true rfl)⟩ h (fun r3 M4 H h hw => ?_)
  refine W.eq (g2 := F0 m 716 ls [.long r3, .long r1]) rfl ?_
  refine W.widen (k := kc + 0) (n := ks + 0) (Nat.add_le_add_left (m := _) (Nat.le_of_ble_eq_true rfl) kc) (Nat.add_le_add_left (Nat.le_of_ble_eq_true rfl) ks) ?_
  refine nf_lc_eq hx hb d_L_law_716 d_L_law_717 (tgt := 927) (by decide) (fun hc => ?_) (fun hc => ?_)
  · have h := h.1 hc
    refine W.widen (k := kc + 40) (n := ks + 240) (Nat.add_le_add_left (Nat.le_of_ble_eq_true rfl) _) (Nat.add_le_add_left (Nat.le_of_ble_eq_true rfl) _) ?_
    exact hk M4 _ _ h (lv_sub hl [0, 1, 2, 3, 4, 5] rfl) hw
  · have h := h.2 hc
    refine lv_iconst (v := (0 : Int32)) hx hb d_L_law_720 (by decide) ?_
    exact h.elim
theorem w_arm11 (hfl : l.flags = flags0) (K : nf_KW p s m args meth c nr_L nb_L_law 9 D a) (hX : va_X b L xs s s.heap) (hbl : b < s.heap.size) {x1 : Int32} (hi1 : vp_in (i5 + (1 : Int32)) L) (hv1 : xs (i5 + (1 : Int32)).toNatClampNeg = x1) (hkc : kc + 40 ≤ room_1.cells) (hks : ks + 240 ≤ room_1.slots) (hk : ∀ (M : nf_M) (H : Heap) (ls : Array Slot), k M → lv_has ls 9 (nf_lawL a b i5) → nf_W D a s s.heap.size H [] M → W p l e room_1 s m args below meth c H [] (kc + 40) (ks + 240) Q (F0 m 927 ls [])) (h : P_arm11 x1 M k) (hl : lv_has ls 9 (nf_lawL a b i5)) (hw : nf_W D a s s.heap.size H [] M) :
    W p l e room_1 s m args below meth c H [] kc ks Q (F0 m 722 ls []) := by
  have hx := K.1
  have hb := K.2.1
  have hl : lv_has ls 9 [(0, .ref b), (1, .ref (a 0)), (2, .ref (a 19)), (3, .ref (a 27)), (4, .ref (a 28)), (5, .int i5)] := hl
  refine W.widen (k := kc + 0) (n := ks + 0) (Nat.le_refl _) (Nat.le_refl _) ?_
  refine lv_aload_n hx hb d_L_law_722 rfl (lv_at hl 1 rfl) ?_
  refine lv_aload_n hx hb d_L_law_723 rfl (lv_at hl 0 rfl) ?_
  refine lv_iload hx hb d_L_law_724 (lv_at hl 5 rfl) ?_
  refine lv_iconst (v := (1 : Int32)) hx hb d_L_law_726 (by decide) ?_
  refine lv_iadd hx hb d_L_law_727 ?_
  refine nf_sldW K hw hX hbl hi1 hv1 d_L_law_728 ?_
  refine lv_aload_n hx hb d_L_law_729 rfl (lv_at hl 3 rfl) ?_
  refine nf_callLWH (As := [.ref (a 0), .int x1, .ref (a 27)]) (st0 := [.ref (a 27), .int x1, .ref (a 0)]) (rest := []) K hw (nf_invSH hx hb K.2.2.2.1 (nf_KgW K nw_713) (nf_KgW K nw_714) (nf_KgW K nw_0) (nf_KgW K nw_715) ⟨by decide, by decide⟩ rfl nl_L_write rfl d_L_law_730) (c_L_write l hfl x1) nw_715 nw_0 rfl ⟨by decide, by decide⟩ (Nat.le_of_ble_eq_true rfl) hl.1 ⟨nf_roomle (n := 0) hkc (Nat.le_of_ble_eq_true rfl), nf_roomle (n := 0) hks (Nat.le_of_ble_eq_true rfl)⟩ h (fun r1 M2 H h hw => ?_)
  refine W.eq (g2 := F0 m 733 ls [.int r1]) rfl ?_
  refine W.widen (k := kc + 3) (n := ks + 18) (Nat.add_le_add_left (m := _) (Nat.le_of_ble_eq_true rfl) kc) (Nat.add_le_add_left (Nat.le_of_ble_eq_true rfl) ks) ?_
  refine lv_istore (lv' := [(6, .int r1), (0, .ref b), (1, .ref (a 0)), (2, .ref (a 19)), (3, .ref (a 27)), (4, .ref (a 28)), (5, .int i5)]) hx hb d_L_law_733 hl (by decide) rfl (fun ls hl => ?_)
  refine lv_aload_n hx hb d_L_law_735 rfl (lv_at hl 3 rfl) ?_
  refine lv_aload_n hx hb d_L_law_736 rfl (lv_at hl 1 rfl) ?_
  refine lv_iload hx hb d_L_law_737 (lv_at hl 6 rfl) ?_
  refine lv_iconst (v := (1 : Int32)) hx hb d_L_law_739 (by decide) ?_
  refine lv_iadd hx hb d_L_law_740 ?_
  refine nf_sldW K hw hX hbl hi1 hv1 d_L_law_741 ?_
  refine nf_callLW (As := [.ref (a 19), .int x1]) (st0 := [.int x1, .ref (a 19)]) (rest := []) K hw (nf_invV hx hb K.2.2.2.1 (nf_KgW K nw_1198) (nf_KgW K nw_1199) (nf_KgW K nw_1200) (nf_KgW K nw_1201) ⟨by decide, by decide⟩ (nf_rcvW K hw 19 7 rfl rfl) rfl nl_M_write rfl d_L_law_742) (c_M_write l hfl x1) nw_1201 nw_9 rfl ⟨by decide, by decide⟩ (Nat.le_of_ble_eq_true rfl) hl.1 ⟨nf_roomle (n := 3) hkc (Nat.le_of_ble_eq_true rfl), nf_roomle (n := 18) hks (Nat.le_of_ble_eq_true rfl)⟩ h (fun r3 M4 H h hw => ?_)
  refine W.eq (g2 := F0 m 745 ls [.int r3]) rfl ?_
  refine W.widen (k := kc + 3) (n := ks + 18) (Nat.add_le_add_left (m := _) (Nat.le_of_ble_eq_true rfl) kc) (Nat.add_le_add_left (Nat.le_of_ble_eq_true rfl) ks) ?_
  refine lv_istore (lv' := [(7, .int r3), (6, .int r1), (0, .ref b), (1, .ref (a 0)), (2, .ref (a 19)), (3, .ref (a 27)), (4, .ref (a 28)), (5, .int i5)]) hx hb d_L_law_745 hl (by decide) rfl (fun ls hl => ?_)
  refine lv_aload_n hx hb d_L_law_747 rfl (lv_at hl 4 rfl) ?_
  refine nf_callLW (As := [.ref (a 19)]) (st0 := [.ref (a 19)]) (rest := []) K hw (nf_invV hx hb K.2.2.2.1 (nf_KgW K nw_992) (nf_KgW K nw_993) (nf_KgW K nw_994) (nf_KgW K nw_995) ⟨by decide, by decide⟩ (nf_rcvW K hw 19 7 rfl rfl) rfl nl_M_thrown rfl d_L_law_748) (c_M_thrown l hfl) nw_995 nw_9 rfl ⟨by decide, by decide⟩ (Nat.le_of_ble_eq_true rfl) hl.1 ⟨nf_roomle (n := 3) hkc (Nat.le_of_ble_eq_true rfl), nf_roomle (n := 18) hks (Nat.le_of_ble_eq_true rfl)⟩ h (fun r5 M6 H h hw => ?_)
  refine W.eq (g2 := F0 m 751 ls [.int r5]) rfl ?_
  refine W.widen (k := kc + 3) (n := ks + 18) (Nat.add_le_add_left (m := _) (Nat.le_of_ble_eq_true rfl) kc) (Nat.add_le_add_left (Nat.le_of_ble_eq_true rfl) ks) ?_
  refine lv_iload hx hb d_L_law_751 (lv_at hl 1 rfl) ?_
  refine nf_ic_eq hx hb d_L_law_753 (tgt := 758) (by decide) (fun hc => ?_) (fun hc => ?_)
  · have h := h.1 hc
    refine lv_iload hx hb d_L_law_758 (lv_at hl 1 rfl) ?_
    refine nf_if_ne hx hb d_L_law_760 (tgt := 775) (by decide) (fun hc => ?_) (fun hc => ?_)
    · have h := h.1 hc
      refine lv_aload_n hx hb d_L_law_763 rfl (lv_at hl 5 rfl) ?_
      refine lv_iconst (v := (0 : Int32)) hx hb d_L_law_764 (by decide) ?_
      obtain ⟨g7, h⟩ := h
      refine nf_laldW K hw 27 10 rfl rfl g7 d_L_law_765 ?_
      refine lv_iload hx hb d_L_law_766 (lv_at hl 0 rfl) ?_
      refine lv_i2l hx hb d_L_law_768 rfl ?_
      refine nf_lc_eq hx hb d_L_law_769 d_L_law_770 (tgt := 775) (by decide) (fun hc => ?_) (fun hc => ?_)
      · have h := h.1 hc
        refine lv_goto hx hb d_L_law_775 (tgt := 927) (by decide) ?_
        refine W.widen (k := kc + 40) (n := ks + 240) (Nat.add_le_add_left (Nat.le_of_ble_eq_true rfl) _) (Nat.add_le_add_left (Nat.le_of_ble_eq_true rfl) _) ?_
        exact hk M6 _ _ h (lv_sub hl [2, 3, 4, 5, 6, 7] rfl) hw
      · have h := h.2 hc
        refine lv_iconst (v := (0 : Int32)) hx hb d_L_law_773 (by decide) ?_
        exact h.elim
    · have h := h.2 hc
      refine lv_goto hx hb d_L_law_775 (tgt := 927) (by decide) ?_
      refine W.widen (k := kc + 40) (n := ks + 240) (Nat.add_le_add_left (Nat.le_of_ble_eq_true rfl) _) (Nat.add_le_add_left (Nat.le_of_ble_eq_true rfl) _) ?_
      exact hk M6 _ _ h (lv_sub hl [2, 3, 4, 5, 6, 7] rfl) hw
  · have h := h.2 hc
    refine lv_iconst (v := (0 : Int32)) hx hb d_L_law_756 (by decide) ?_
    exact h.elim
theorem w_arm12 (hfl : l.flags = flags0) (K : nf_KW p s m args meth c nr_L nb_L_law 9 D a) (hX : va_X b L xs s s.heap) (hbl : b < s.heap.size) {x1 : Int32} (hi1 : vp_in (i5 + (1 : Int32)) L) (hv1 : xs (i5 + (1 : Int32)).toNatClampNeg = x1) (hkc : kc + 40 ≤ room_1.cells) (hks : ks + 240 ≤ room_1.slots) (hk : ∀ (M : nf_M) (H : Heap) (ls : Array Slot), k M → lv_has ls 9 (nf_lawL a b i5) → nf_W D a s s.heap.size H [] M → W p l e room_1 s m args below meth c H [] (kc + 40) (ks + 240) Q (F0 m 927 ls [])) (h : P_arm12 x1 M k) (hl : lv_has ls 9 (nf_lawL a b i5)) (hw : nf_W D a s s.heap.size H [] M) :
    W p l e room_1 s m args below meth c H [] kc ks Q (F0 m 778 ls []) := by
  have hx := K.1
  have hb := K.2.1
  have hl : lv_has ls 9 [(0, .ref b), (1, .ref (a 0)), (2, .ref (a 19)), (3, .ref (a 27)), (4, .ref (a 28)), (5, .int i5)] := hl
  refine W.widen (k := kc + 0) (n := ks + 0) (Nat.le_refl _) (Nat.le_refl _) ?_
  refine lv_aload_n hx hb d_L_law_778 rfl (lv_at hl 1 rfl) ?_
  refine lv_aload_n hx hb d_L_law_779 rfl (lv_at hl 0 rfl) ?_
  refine lv_iload hx hb d_L_law_780 (lv_at hl 5 rfl) ?_
  refine lv_iconst (v := (1 : Int32)) hx hb d_L_law_782 (by decide) ?_
  refine lv_iadd hx hb d_L_law_783 ?_
  refine nf_sldW K hw hX hbl hi1 hv1 d_L_law_784 ?_
  refine lv_aload_n hx hb d_L_law_785 rfl (lv_at hl 3 rfl) ?_
  refine nf_callLWH (As := [.ref (a 0), .int x1, .ref (a 27)]) (st0 := [.ref (a 27), .int x1, .ref (a 0)]) (rest := []) K hw (nf_invSH hx hb K.2.2.2.1 (nf_KgW K nw_828) (nf_KgW K nw_829) (nf_KgW K nw_0) (nf_KgW K nw_830) ⟨by decide, by decide⟩ rfl nl_L_picture rfl d_L_law_786) (c_L_picture l hfl x1) nw_830 nw_0 rfl ⟨by decide, by decide⟩ (Nat.le_of_ble_eq_true rfl) hl.1 ⟨nf_roomle (n := 0) hkc (Nat.le_of_ble_eq_true rfl), nf_roomle (n := 0) hks (Nat.le_of_ble_eq_true rfl)⟩ h (fun r1 M2 H h hw => ?_)
  refine W.eq (g2 := F0 m 789 ls [.int r1]) rfl ?_
  refine W.widen (k := kc + 7) (n := ks + 42) (Nat.add_le_add_left (m := _) (Nat.le_of_ble_eq_true rfl) kc) (Nat.add_le_add_left (Nat.le_of_ble_eq_true rfl) ks) ?_
  refine lv_istore (lv' := [(6, .int r1), (0, .ref b), (1, .ref (a 0)), (2, .ref (a 19)), (3, .ref (a 27)), (4, .ref (a 28)), (5, .int i5)]) hx hb d_L_law_789 hl (by decide) rfl (fun ls hl => ?_)
  refine lv_aload_n hx hb d_L_law_791 rfl (lv_at hl 3 rfl) ?_
  refine lv_aload_n hx hb d_L_law_792 rfl (lv_at hl 1 rfl) ?_
  refine lv_iload hx hb d_L_law_793 (lv_at hl 6 rfl) ?_
  refine lv_iconst (v := (1 : Int32)) hx hb d_L_law_795 (by decide) ?_
  refine lv_iadd hx hb d_L_law_796 ?_
  refine nf_sldW K hw hX hbl hi1 hv1 d_L_law_797 ?_
  refine nf_callLW (As := [.ref (a 19), .int x1]) (st0 := [.int x1, .ref (a 19)]) (rest := []) K hw (nf_invV hx hb K.2.2.2.1 (nf_KgW K nw_1226) (nf_KgW K nw_1227) (nf_KgW K nw_1228) (nf_KgW K nw_1229) ⟨by decide, by decide⟩ (nf_rcvW K hw 19 7 rfl rfl) rfl nl_M_picture rfl d_L_law_798) (c_M_picture l hfl x1) nw_1229 nw_9 rfl ⟨by decide, by decide⟩ (Nat.le_of_ble_eq_true rfl) hl.1 ⟨nf_roomle (n := 7) hkc (Nat.le_of_ble_eq_true rfl), nf_roomle (n := 42) hks (Nat.le_of_ble_eq_true rfl)⟩ h (fun r3 M4 H h hw => ?_)
  refine W.eq (g2 := F0 m 801 ls [.int r3]) rfl ?_
  refine W.widen (k := kc + 7) (n := ks + 42) (Nat.add_le_add_left (m := _) (Nat.le_of_ble_eq_true rfl) kc) (Nat.add_le_add_left (Nat.le_of_ble_eq_true rfl) ks) ?_
  refine lv_istore (lv' := [(7, .int r3), (6, .int r1), (0, .ref b), (1, .ref (a 0)), (2, .ref (a 19)), (3, .ref (a 27)), (4, .ref (a 28)), (5, .int i5)]) hx hb d_L_law_801 hl (by decide) rfl (fun ls hl => ?_)
  refine lv_aload_n hx hb d_L_law_803 rfl (lv_at hl 4 rfl) ?_
  refine nf_callLW (As := [.ref (a 19)]) (st0 := [.ref (a 19)]) (rest := []) K hw (nf_invV hx hb K.2.2.2.1 (nf_KgW K nw_992) (nf_KgW K nw_993) (nf_KgW K nw_994) (nf_KgW K nw_995) ⟨by decide, by decide⟩ (nf_rcvW K hw 19 7 rfl rfl) rfl nl_M_thrown rfl d_L_law_804) (c_M_thrown l hfl) nw_995 nw_9 rfl ⟨by decide, by decide⟩ (Nat.le_of_ble_eq_true rfl) hl.1 ⟨nf_roomle (n := 7) hkc (Nat.le_of_ble_eq_true rfl), nf_roomle (n := 42) hks (Nat.le_of_ble_eq_true rfl)⟩ h (fun r5 M6 H h hw => ?_)
  refine W.eq (g2 := F0 m 807 ls [.int r5]) rfl ?_
  refine W.widen (k := kc + 7) (n := ks + 42) (Nat.add_le_add_left (m := _) (Nat.le_of_ble_eq_true rfl) kc) (Nat.add_le_add_left (Nat.le_of_ble_eq_true rfl) ks) ?_
  refine lv_iload hx hb d_L_law_807 (lv_at hl 1 rfl) ?_
  refine nf_ic_eq hx hb d_L_law_809 (tgt := 814) (by decide) (fun hc => ?_) (fun hc => ?_)
  · have h := h.1 hc
    refine lv_iload hx hb d_L_law_814 (lv_at hl 1 rfl) ?_
    refine nf_if_ne hx hb d_L_law_816 (tgt := 831) (by decide) (fun hc => ?_) (fun hc => ?_)
    · have h := h.1 hc
      refine lv_aload_n hx hb d_L_law_819 rfl (lv_at hl 5 rfl) ?_
      refine lv_iconst (v := (0 : Int32)) hx hb d_L_law_820 (by decide) ?_
      obtain ⟨g7, h⟩ := h
      refine nf_laldW K hw 27 10 rfl rfl g7 d_L_law_821 ?_
      refine lv_iload hx hb d_L_law_822 (lv_at hl 0 rfl) ?_
      refine lv_i2l hx hb d_L_law_824 rfl ?_
      refine nf_lc_eq hx hb d_L_law_825 d_L_law_826 (tgt := 831) (by decide) (fun hc => ?_) (fun hc => ?_)
      · have h := h.1 hc
        refine lv_goto hx hb d_L_law_831 (tgt := 927) (by decide) ?_
        refine W.widen (k := kc + 40) (n := ks + 240) (Nat.add_le_add_left (Nat.le_of_ble_eq_true rfl) _) (Nat.add_le_add_left (Nat.le_of_ble_eq_true rfl) _) ?_
        exact hk M6 _ _ h (lv_sub hl [2, 3, 4, 5, 6, 7] rfl) hw
      · have h := h.2 hc
        refine lv_iconst (v := (0 : Int32)) hx hb d_L_law_829 (by decide) ?_
        exact h.elim
    · have h := h.2 hc
      refine lv_goto hx hb d_L_law_831 (tgt := 927) (by decide) ?_
      refine W.widen (k := kc + 40) (n := ks + 240) (Nat.add_le_add_left (Nat.le_of_ble_eq_true rfl) _) (Nat.add_le_add_left (Nat.le_of_ble_eq_true rfl) _) ?_
      exact hk M6 _ _ h (lv_sub hl [2, 3, 4, 5, 6, 7] rfl) hw
  · have h := h.2 hc
    refine lv_iconst (v := (0 : Int32)) hx hb d_L_law_812 (by decide) ?_
    exact h.elim
theorem w_arm13 (hfl : l.flags = flags0) (K : nf_KW p s m args meth c nr_L nb_L_law 9 D a) (hX : va_X b L xs s s.heap) (hbl : b < s.heap.size) {x1 : Int32} {x2 : Int32} (hi1 : vp_in (i5 + (1 : Int32)) L) (hv1 : xs (i5 + (1 : Int32)).toNatClampNeg = x1) (hi2 : vp_in (i5 + (2 : Int32)) L) (hv2 : xs (i5 + (2 : Int32)).toNatClampNeg = x2) (hkc : kc + 40 ≤ room_1.cells) (hks : ks + 240 ≤ room_1.slots) (hk : ∀ (M : nf_M) (H : Heap) (ls : Array Slot), k M → lv_has ls 9 (nf_lawL a b i5) → nf_W D a s s.heap.size H [] M → W p l e room_1 s m args below meth c H [] (kc + 40) (ks + 240) Q (F0 m 927 ls [])) (h : P_arm13 x1 x2 M k) (hl : lv_has ls 9 (nf_lawL a b i5)) (hw : nf_W D a s s.heap.size H [] M) :
    W p l e room_1 s m args below meth c H [] kc ks Q (F0 m 834 ls []) := by
  have hx := K.1
  have hb := K.2.1
  have hl : lv_has ls 9 [(0, .ref b), (1, .ref (a 0)), (2, .ref (a 19)), (3, .ref (a 27)), (4, .ref (a 28)), (5, .int i5)] := hl
  refine W.widen (k := kc + 0) (n := ks + 0) (Nat.le_refl _) (Nat.le_refl _) ?_
  refine lv_aload_n hx hb d_L_law_834 rfl (lv_at hl 1 rfl) ?_
  refine lv_aload_n hx hb d_L_law_835 rfl (lv_at hl 0 rfl) ?_
  refine lv_iload hx hb d_L_law_836 (lv_at hl 5 rfl) ?_
  refine lv_iconst (v := (1 : Int32)) hx hb d_L_law_838 (by decide) ?_
  refine lv_iadd hx hb d_L_law_839 ?_
  refine nf_sldW K hw hX hbl hi1 hv1 d_L_law_840 ?_
  refine lv_aload_n hx hb d_L_law_841 rfl (lv_at hl 0 rfl) ?_
  refine lv_iload hx hb d_L_law_842 (lv_at hl 5 rfl) ?_
  refine lv_iconst (v := (2 : Int32)) hx hb d_L_law_844 (by decide) ?_
  refine lv_iadd hx hb d_L_law_845 ?_
  refine nf_sldW K hw hX hbl hi2 hv2 d_L_law_846 ?_
  refine lv_aload_n hx hb d_L_law_847 rfl (lv_at hl 3 rfl) ?_
  refine nf_callLWH (As := [.ref (a 0), .int x1, .int x2, .ref (a 27)]) (st0 := [.ref (a 27), .int x2, .int x1, .ref (a 0)]) (rest := []) K hw (nf_invSH hx hb K.2.2.2.1 (nf_KgW K nw_894) (nf_KgW K nw_895) (nf_KgW K nw_0) (nf_KgW K nw_896) ⟨by decide, by decide⟩ rfl nl_L_letters rfl d_L_law_848) (c_L_letters l hfl x1 x2) nw_896 nw_0 rfl ⟨by decide, by decide⟩ (Nat.le_of_ble_eq_true rfl) hl.1 ⟨nf_roomle (n := 0) hkc (Nat.le_of_ble_eq_true rfl), nf_roomle (n := 0) hks (Nat.le_of_ble_eq_true rfl)⟩ h (fun r1 M2 H h hw => ?_)
  refine W.eq (g2 := F0 m 851 ls [.int r1]) rfl ?_
  refine W.widen (k := kc + 3) (n := ks + 18) (Nat.add_le_add_left (m := _) (Nat.le_of_ble_eq_true rfl) kc) (Nat.add_le_add_left (Nat.le_of_ble_eq_true rfl) ks) ?_
  refine lv_istore (lv' := [(6, .int r1), (0, .ref b), (1, .ref (a 0)), (2, .ref (a 19)), (3, .ref (a 27)), (4, .ref (a 28)), (5, .int i5)]) hx hb d_L_law_851 hl (by decide) rfl (fun ls hl => ?_)
  refine lv_aload_n hx hb d_L_law_853 rfl (lv_at hl 3 rfl) ?_
  refine lv_aload_n hx hb d_L_law_854 rfl (lv_at hl 1 rfl) ?_
  refine lv_iload hx hb d_L_law_855 (lv_at hl 6 rfl) ?_
  refine lv_iconst (v := (1 : Int32)) hx hb d_L_law_857 (by decide) ?_
  refine lv_iadd hx hb d_L_law_858 ?_
  refine nf_sldW K hw hX hbl hi1 hv1 d_L_law_859 ?_
  refine lv_aload_n hx hb d_L_law_860 rfl (lv_at hl 1 rfl) ?_
  refine lv_iload hx hb d_L_law_861 (lv_at hl 6 rfl) ?_
  refine lv_iconst (v := (2 : Int32)) hx hb d_L_law_863 (by decide) ?_
  refine lv_iadd hx hb d_L_law_864 ?_
  refine nf_sldW K hw hX hbl hi2 hv2 d_L_law_865 ?_
  refine nf_callLW (As := [.ref (a 19), .int x1, .int x2]) (st0 := [.int x2, .int x1, .ref (a 19)]) (rest := []) K hw (nf_invV hx hb K.2.2.2.1 (nf_KgW K nw_1258) (nf_KgW K nw_1259) (nf_KgW K nw_1260) (nf_KgW K nw_1261) ⟨by decide, by decide⟩ (nf_rcvW K hw 19 7 rfl rfl) rfl nl_M_letters rfl d_L_law_866) (c_M_letters l hfl x1 x2) nw_1261 nw_9 rfl ⟨by decide, by decide⟩ (Nat.le_of_ble_eq_true rfl) hl.1 ⟨nf_roomle (n := 3) hkc (Nat.le_of_ble_eq_true rfl), nf_roomle (n := 18) hks (Nat.le_of_ble_eq_true rfl)⟩ h (fun r3 M4 H h hw => ?_)
  refine W.eq (g2 := F0 m 869 ls [.int r3]) rfl ?_
  refine W.widen (k := kc + 3) (n := ks + 18) (Nat.add_le_add_left (m := _) (Nat.le_of_ble_eq_true rfl) kc) (Nat.add_le_add_left (Nat.le_of_ble_eq_true rfl) ks) ?_
  refine lv_istore (lv' := [(7, .int r3), (6, .int r1), (0, .ref b), (1, .ref (a 0)), (2, .ref (a 19)), (3, .ref (a 27)), (4, .ref (a 28)), (5, .int i5)]) hx hb d_L_law_869 hl (by decide) rfl (fun ls hl => ?_)
  refine lv_aload_n hx hb d_L_law_871 rfl (lv_at hl 4 rfl) ?_
  refine nf_callLW (As := [.ref (a 19)]) (st0 := [.ref (a 19)]) (rest := []) K hw (nf_invV hx hb K.2.2.2.1 (nf_KgW K nw_992) (nf_KgW K nw_993) (nf_KgW K nw_994) (nf_KgW K nw_995) ⟨by decide, by decide⟩ (nf_rcvW K hw 19 7 rfl rfl) rfl nl_M_thrown rfl d_L_law_872) (c_M_thrown l hfl) nw_995 nw_9 rfl ⟨by decide, by decide⟩ (Nat.le_of_ble_eq_true rfl) hl.1 ⟨nf_roomle (n := 3) hkc (Nat.le_of_ble_eq_true rfl), nf_roomle (n := 18) hks (Nat.le_of_ble_eq_true rfl)⟩ h (fun r5 M6 H h hw => ?_)
  refine W.eq (g2 := F0 m 875 ls [.int r5]) rfl ?_
  refine W.widen (k := kc + 3) (n := ks + 18) (Nat.add_le_add_left (m := _) (Nat.le_of_ble_eq_true rfl) kc) (Nat.add_le_add_left (Nat.le_of_ble_eq_true rfl) ks) ?_
  refine lv_iload hx hb d_L_law_875 (lv_at hl 1 rfl) ?_
  refine nf_ic_eq hx hb d_L_law_877 (tgt := 882) (by decide) (fun hc => ?_) (fun hc => ?_)
  · have h := h.1 hc
    refine lv_iload hx hb d_L_law_882 (lv_at hl 1 rfl) ?_
    refine nf_if_ne hx hb d_L_law_884 (tgt := 899) (by decide) (fun hc => ?_) (fun hc => ?_)
    · have h := h.1 hc
      refine lv_aload_n hx hb d_L_law_887 rfl (lv_at hl 5 rfl) ?_
      refine lv_iconst (v := (0 : Int32)) hx hb d_L_law_888 (by decide) ?_
      obtain ⟨g7, h⟩ := h
      refine nf_laldW K hw 27 10 rfl rfl g7 d_L_law_889 ?_
      refine lv_iload hx hb d_L_law_890 (lv_at hl 0 rfl) ?_
      refine lv_i2l hx hb d_L_law_892 rfl ?_
      refine nf_lc_eq hx hb d_L_law_893 d_L_law_894 (tgt := 899) (by decide) (fun hc => ?_) (fun hc => ?_)
      · have h := h.1 hc
        refine lv_goto hx hb d_L_law_899 (tgt := 927) (by decide) ?_
        refine W.widen (k := kc + 40) (n := ks + 240) (Nat.add_le_add_left (Nat.le_of_ble_eq_true rfl) _) (Nat.add_le_add_left (Nat.le_of_ble_eq_true rfl) _) ?_
        exact hk M6 _ _ h (lv_sub hl [2, 3, 4, 5, 6, 7] rfl) hw
      · have h := h.2 hc
        refine lv_iconst (v := (0 : Int32)) hx hb d_L_law_897 (by decide) ?_
        exact h.elim
    · have h := h.2 hc
      refine lv_goto hx hb d_L_law_899 (tgt := 927) (by decide) ?_
      refine W.widen (k := kc + 40) (n := ks + 240) (Nat.add_le_add_left (Nat.le_of_ble_eq_true rfl) _) (Nat.add_le_add_left (Nat.le_of_ble_eq_true rfl) _) ?_
      exact hk M6 _ _ h (lv_sub hl [2, 3, 4, 5, 6, 7] rfl) hw
  · have h := h.2 hc
    refine lv_iconst (v := (0 : Int32)) hx hb d_L_law_880 (by decide) ?_
    exact h.elim
theorem w_arm14 (hfl : l.flags = flags0) (K : nf_KW p s m args meth c nr_L nb_L_law 9 D a) (hX : va_X b L xs s s.heap) (hbl : b < s.heap.size) {x1 : Int32} (hi1 : vp_in (i5 + (1 : Int32)) L) (hv1 : xs (i5 + (1 : Int32)).toNatClampNeg = x1) (hkc : kc + 40 ≤ room_1.cells) (hks : ks + 240 ≤ room_1.slots) (hk : ∀ (M : nf_M) (H : Heap) (ls : Array Slot), k M → lv_has ls 9 (nf_lawL a b i5) → nf_W D a s s.heap.size H [] M → W p l e room_1 s m args below meth c H [] (kc + 40) (ks + 240) Q (F0 m 927 ls [])) (h : P_arm14 x1 M k) (hl : lv_has ls 9 (nf_lawL a b i5)) (hw : nf_W D a s s.heap.size H [] M) :
    W p l e room_1 s m args below meth c H [] kc ks Q (F0 m 902 ls []) := by
  have hx := K.1
  have hb := K.2.1
  have hl : lv_has ls 9 [(0, .ref b), (1, .ref (a 0)), (2, .ref (a 19)), (3, .ref (a 27)), (4, .ref (a 28)), (5, .int i5)] := hl
  refine W.widen (k := kc + 0) (n := ks + 0) (Nat.le_refl _) (Nat.le_refl _) ?_
  refine lv_aload_n hx hb d_L_law_902 rfl (lv_at hl 1 rfl) ?_
  refine lv_aload_n hx hb d_L_law_903 rfl (lv_at hl 0 rfl) ?_
  refine lv_iload hx hb d_L_law_904 (lv_at hl 5 rfl) ?_
  refine lv_iconst (v := (1 : Int32)) hx hb d_L_law_906 (by decide) ?_
  refine lv_iadd hx hb d_L_law_907 ?_
  refine nf_sldW K hw hX hbl hi1 hv1 d_L_law_908 ?_
  refine nf_callLW (As := [.ref (a 0), .int x1]) (st0 := [.int x1, .ref (a 0)]) (rest := []) K hw (nf_invV hx hb K.2.2.2.1 (nf_KgW K nw_225) (nf_KgW K nw_226) (nf_KgW K nw_227) (nf_KgW K nw_228) ⟨by decide, by decide⟩ (nf_rcvW K hw 0 6 rfl rfl) rfl nl_F_output rfl d_L_law_909) (c_F_output l hfl x1) nw_228 nw_1 rfl ⟨by decide, by decide⟩ (Nat.le_of_ble_eq_true rfl) hl.1 ⟨nf_roomle (n := 0) hkc (Nat.le_of_ble_eq_true rfl), nf_roomle (n := 0) hks (Nat.le_of_ble_eq_true rfl)⟩ h (fun r1 M2 H h hw => ?_)
  refine W.eq (g2 := F0 m 912 ls [.int r1]) rfl ?_
  refine W.widen (k := kc + 0) (n := ks + 0) (Nat.add_le_add_left (m := _) (Nat.le_of_ble_eq_true rfl) kc) (Nat.add_le_add_left (Nat.le_of_ble_eq_true rfl) ks) ?_
  refine lv_aload_n hx hb d_L_law_912 rfl (lv_at hl 2 rfl) ?_
  refine lv_aload_n hx hb d_L_law_913 rfl (lv_at hl 0 rfl) ?_
  refine lv_iload hx hb d_L_law_914 (lv_at hl 5 rfl) ?_
  refine lv_iconst (v := (1 : Int32)) hx hb d_L_law_916 (by decide) ?_
  refine lv_iadd hx hb d_L_law_917 ?_
  refine nf_sldW K hw hX hbl hi1 hv1 d_L_law_918 ?_
  refine nf_callLW (As := [.ref (a 19), .int x1]) (st0 := [.int x1, .ref (a 19), .int r1]) (rest := [.int r1]) K hw (nf_invV hx hb K.2.2.2.1 (nf_KgW K nw_1276) (nf_KgW K nw_1277) (nf_KgW K nw_1278) (nf_KgW K nw_1279) ⟨by decide, by decide⟩ (nf_rcvW K hw 19 7 rfl rfl) rfl nl_M_output rfl d_L_law_919) (c_M_output l hfl x1) nw_1279 nw_9 rfl ⟨by decide, by decide⟩ (Nat.le_of_ble_eq_true rfl) hl.1 ⟨nf_roomle (n := 0) hkc (Nat.le_of_ble_eq_true rfl), nf_roomle (n := 0) hks (Nat.le_of_ble_eq_true rfl)⟩ h (fun r3 M4 H h hw => ?_)
  refine W.eq (g2 := F0 m 922 ls [.int r3, .int r1]) rfl ?_
  refine W.widen (k := kc + 0) (n := ks + 0) (Nat.add_le_add_left (m := _) (Nat.le_of_ble_eq_true rfl) kc) (Nat.add_le_add_left (Nat.le_of_ble_eq_true rfl) ks) ?_
  refine nf_ic_eq hx hb d_L_law_922 (tgt := 927) (by decide) (fun hc => ?_) (fun hc => ?_)
  · have h := h.1 hc
    refine W.widen (k := kc + 40) (n := ks + 240) (Nat.add_le_add_left (Nat.le_of_ble_eq_true rfl) _) (Nat.add_le_add_left (Nat.le_of_ble_eq_true rfl) _) ?_
    exact hk M4 _ _ h (lv_sub hl [0, 1, 2, 3, 4, 5] rfl) hw
  · have h := h.2 hc
    refine lv_iconst (v := (0 : Int32)) hx hb d_L_law_925 (by decide) ?_
    exact h.elim
end NFA
