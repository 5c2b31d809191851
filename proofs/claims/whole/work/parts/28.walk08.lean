/-! walks (printed by wip/whole/gen/drive.py) -/
section NW8
variable {p : Program} {l : Launch} {e : Env} {s : State} {m : MethodId} {args : Array Value} {below : List Frame} {meth : Method} {c : Code} {D : va_G} {a : Nat → Nat} {sz : Nat} {ex : Nat → nf_M → Prop}
theorem d_M_floor_0 : decode nb_M_floor 0 = .ok (.dload_n 0, 1) := by decide +kernel
theorem d_M_floor_1 : decode nb_M_floor 1 = .ok (.d2l, 1) := by decide +kernel
theorem d_M_floor_2 : decode nb_M_floor 2 = .ok (.l2d, 1) := by decide +kernel
theorem d_M_floor_3 : decode nb_M_floor 3 = .ok (.dstore_n 2, 1) := by decide +kernel
theorem d_M_floor_4 : decode nb_M_floor 4 = .ok (.dload_n 2, 1) := by decide +kernel
theorem d_M_floor_5 : decode nb_M_floor 5 = .ok (.dload_n 0, 1) := by decide +kernel
theorem d_M_floor_6 : decode nb_M_floor 6 = .ok (.dcmp .l, 1) := by decide +kernel
theorem d_M_floor_7 : decode nb_M_floor 7 = .ok (.ifCond .le 9, 3) := by decide +kernel
theorem d_M_floor_10 : decode nb_M_floor 10 = .ok (.dload_n 2, 1) := by decide +kernel
theorem d_M_floor_11 : decode nb_M_floor 11 = .ok (.dconst 1, 1) := by decide +kernel
theorem d_M_floor_12 : decode nb_M_floor 12 = .ok (.dsub, 1) := by decide +kernel
theorem d_M_floor_13 : decode nb_M_floor 13 = .ok (.goto 4, 3) := by decide +kernel
theorem d_M_floor_16 : decode nb_M_floor 16 = .ok (.dload_n 2, 1) := by decide +kernel
theorem d_M_floor_17 : decode nb_M_floor 17 = .ok (.dreturn, 1) := by decide +kernel
abbrev rm_M_floor : Room := ({ frames := 0, cells := 0, slots := 0, locals := 0 })
theorem w_M_floor_17 {post : UInt64 → nf_M → Prop} (hfl : l.flags = flags0) (K : nf_K p s m args meth c "NumberForgeModel" nb_M_floor 4 (some FieldType.double) D a sz) : ∀ (xy0 : UInt64) (M : nf_M) (H : Heap) (locs : List Loc) (ls : Array Slot), B_M_floor_17 post xy0 M → lv_has ls 4 [] → nf_W D a s sz H locs M → W p l e rm_M_floor s m args below meth c H locs 0 0 (nf_MQ below (nf_Q nf_jD D a post ex (nf_A a sz)) args s rm_M_floor.cells rm_M_floor.slots (nf_A a sz)) (F0 m 17 ls [.double xy0]) := by
  have hx := K.1
  have hb := K.2.1
  intro xy0 M H locs ls h hl hw
  exact nf_dret K hw d_M_floor_17 (Nat.le_of_ble_eq_true rfl) (Nat.le_of_ble_eq_true rfl) (r := xy0) rfl h
theorem c_M_floor (l : Launch) (hfl : l.flags = flags0) (x0 : UInt64) : nf_C nf_jD l nm_M_floor nb_M_floor 4 (some FieldType.double) rm_M_floor (fun a => [.double x0]) (fun M post ex => P_M_floor x0 M post) := by
  refine nf_start (plainFor_of_name (by decide +kernel)) (fun a => Nat.le_of_ble_eq_true rfl) ?_
  intro D a sz M post ex p e s m below meth c ls h K hl hw
  have hx := K.1
  have hb := K.2.1
  have hl : lv_has ls 4 [(0, .double x0)] := hl
  refine lv_dload_n hx hb d_M_floor_0 rfl (lv_at hl 0 rfl) ?_
  refine lv_d2l hx hb d_M_floor_1 ?_
  refine lv_l2d hx hb d_M_floor_2 ?_
  refine lv_topd (fun t1 et1 => ?_)
  have h := h t1 et1
  refine lv_dstore_n (lv' := [(2, .double t1), (0, .double x0)]) hx hb d_M_floor_3 rfl hl (by decide) rfl (fun ls hl => ?_)
  refine lv_dload_n hx hb d_M_floor_4 rfl (lv_at hl 0 rfl) ?_
  refine lv_dload_n hx hb d_M_floor_5 rfl (lv_at hl 1 rfl) ?_
  refine nf_dl_le hx hb d_M_floor_6 d_M_floor_7 (tgt := 16) (by decide) (fun hc => ?_) (fun hc => ?_)
  · have h := h.1 hc
    refine lv_dload_n hx hb d_M_floor_10 rfl (lv_at hl 0 rfl) ?_
    refine lv_dconst1 hx hb d_M_floor_11 ?_
    obtain ⟨g2, h⟩ := h
    refine lv_dsub hx hb d_M_floor_12 g2 ?_
    refine lv_goto hx hb d_M_floor_13 (tgt := 17) (by decide) ?_
    exact w_M_floor_17 hfl K (FP.dsub t1 (FP.dconst1)) M _ _ _ h (lv_sub hl [] rfl) hw
  · have h := h.2 hc
    refine lv_dload_n hx hb d_M_floor_16 rfl (lv_at hl 0 rfl) ?_
    exact w_M_floor_17 hfl K t1 M _ _ _ h (lv_sub hl [] rfl) hw
theorem d_M_oneReal_0 : decode nb_M_oneReal 0 = .ok (.dload_n 2, 1) := by decide +kernel
theorem d_M_oneReal_1 : decode nb_M_oneReal 1 = .ok (.dconst 0, 1) := by decide +kernel
theorem d_M_oneReal_2 : decode nb_M_oneReal 2 = .ok (.dcmp .g, 1) := by decide +kernel
theorem d_M_oneReal_3 : decode nb_M_oneReal 3 = .ok (.ifCond .ge 8, 3) := by decide +kernel
theorem d_M_oneReal_6 : decode nb_M_oneReal 6 = .ok (.dload_n 2, 1) := by decide +kernel
theorem d_M_oneReal_7 : decode nb_M_oneReal 7 = .ok (.dneg, 1) := by decide +kernel
theorem d_M_oneReal_8 : decode nb_M_oneReal 8 = .ok (.goto 4, 3) := by decide +kernel
theorem d_M_oneReal_11 : decode nb_M_oneReal 11 = .ok (.dload_n 2, 1) := by decide +kernel
theorem d_M_oneReal_12 : decode nb_M_oneReal 12 = .ok (.dstore 6, 2) := by decide +kernel
theorem d_M_oneReal_14 : decode nb_M_oneReal 14 = .ok (.iload_n 1, 1) := by decide +kernel
theorem d_M_oneReal_15 : decode nb_M_oneReal 15 = .ok (.iconst 2, 1) := by decide +kernel
theorem d_M_oneReal_16 : decode nb_M_oneReal 16 = .ok (.if_icmp .ge 30, 3) := by decide +kernel
theorem d_M_oneReal_19 : decode nb_M_oneReal 19 = .ok (.aload_n 0, 1) := by decide +kernel
theorem d_M_oneReal_20 : decode nb_M_oneReal 20 = .ok (.iload_n 1, 1) := by decide +kernel
theorem d_M_oneReal_21 : decode nb_M_oneReal 21 = .ok (.ifCond .ne 8, 3) := by decide +kernel
theorem d_M_oneReal_24 : decode nb_M_oneReal 24 = .ok (.dload_n 2, 1) := by decide +kernel
theorem d_M_oneReal_25 : decode nb_M_oneReal 25 = .ok (.dneg, 1) := by decide +kernel
theorem d_M_oneReal_26 : decode nb_M_oneReal 26 = .ok (.goto 16, 3) := by decide +kernel
theorem d_M_oneReal_29 : decode nb_M_oneReal 29 = .ok (.dload_n 2, 1) := by decide +kernel
theorem d_M_oneReal_30 : decode nb_M_oneReal 30 = .ok (.dconst 0, 1) := by decide +kernel
theorem d_M_oneReal_31 : decode nb_M_oneReal 31 = .ok (.dcmp .g, 1) := by decide +kernel
theorem d_M_oneReal_32 : decode nb_M_oneReal 32 = .ok (.ifCond .gt 9, 3) := by decide +kernel
theorem d_M_oneReal_35 : decode nb_M_oneReal 35 = .ok (.dconst 0, 1) := by decide +kernel
theorem d_M_oneReal_36 : decode nb_M_oneReal 36 = .ok (.dload_n 2, 1) := by decide +kernel
theorem d_M_oneReal_37 : decode nb_M_oneReal 37 = .ok (.dsub, 1) := by decide +kernel
theorem d_M_oneReal_38 : decode nb_M_oneReal 38 = .ok (.goto 4, 3) := by decide +kernel
theorem d_M_oneReal_41 : decode nb_M_oneReal 41 = .ok (.dload_n 2, 1) := by decide +kernel
theorem d_M_oneReal_42 : decode nb_M_oneReal 42 = .ok (.putfield 134, 3) := by decide +kernel
theorem d_M_oneReal_45 : decode nb_M_oneReal 45 = .ok (.return_, 1) := by decide +kernel
theorem d_M_oneReal_46 : decode nb_M_oneReal 46 = .ok (.dload 6, 2) := by decide +kernel
theorem d_M_oneReal_48 : decode nb_M_oneReal 48 = .ok (.dload 4, 2) := by decide +kernel
theorem d_M_oneReal_50 : decode nb_M_oneReal 50 = .ok (.dcmp .l, 1) := by decide +kernel
theorem d_M_oneReal_51 : decode nb_M_oneReal 51 = .ok (.ifCond .lt 9, 3) := by decide +kernel
theorem d_M_oneReal_54 : decode nb_M_oneReal 54 = .ok (.aload_n 0, 1) := by decide +kernel
theorem d_M_oneReal_55 : decode nb_M_oneReal 55 = .ok (.dload_n 2, 1) := by decide +kernel
theorem d_M_oneReal_56 : decode nb_M_oneReal 56 = .ok (.putfield 134, 3) := by decide +kernel
theorem d_M_oneReal_59 : decode nb_M_oneReal 59 = .ok (.return_, 1) := by decide +kernel
theorem d_M_oneReal_60 : decode nb_M_oneReal 60 = .ok (.dload_n 2, 1) := by decide +kernel
theorem d_M_oneReal_61 : decode nb_M_oneReal 61 = .ok (.invokestatic 215, 3) := by decide +kernel
theorem d_M_oneReal_64 : decode nb_M_oneReal 64 = .ok (.dstore 8, 2) := by decide +kernel
theorem d_M_oneReal_66 : decode nb_M_oneReal 66 = .ok (.dload_n 2, 1) := by decide +kernel
theorem d_M_oneReal_67 : decode nb_M_oneReal 67 = .ok (.dload 8, 2) := by decide +kernel
theorem d_M_oneReal_69 : decode nb_M_oneReal 69 = .ok (.dsub, 1) := by decide +kernel
theorem d_M_oneReal_70 : decode nb_M_oneReal 70 = .ok (.dstore 10, 2) := by decide +kernel
theorem d_M_oneReal_72 : decode nb_M_oneReal 72 = .ok (.dload 8, 2) := by decide +kernel
theorem d_M_oneReal_74 : decode nb_M_oneReal 74 = .ok (.d2l, 1) := by decide +kernel
theorem d_M_oneReal_75 : decode nb_M_oneReal 75 = .ok (.ldc2_w 219, 3) := by decide +kernel
theorem d_M_oneReal_78 : decode nb_M_oneReal 78 = .ok (.lrem, 1) := by decide +kernel
theorem d_M_oneReal_79 : decode nb_M_oneReal 79 = .ok (.lconst 0, 1) := by decide +kernel
theorem d_M_oneReal_80 : decode nb_M_oneReal 80 = .ok (.lcmp, 1) := by decide +kernel
theorem d_M_oneReal_81 : decode nb_M_oneReal 81 = .ok (.ifCond .eq 7, 3) := by decide +kernel
theorem d_M_oneReal_84 : decode nb_M_oneReal 84 = .ok (.iconst 1, 1) := by decide +kernel
theorem d_M_oneReal_85 : decode nb_M_oneReal 85 = .ok (.goto 4, 3) := by decide +kernel
theorem d_M_oneReal_88 : decode nb_M_oneReal 88 = .ok (.iconst 0, 1) := by decide +kernel
theorem d_M_oneReal_89 : decode nb_M_oneReal 89 = .ok (.istore 12, 2) := by decide +kernel
theorem d_M_oneReal_91 : decode nb_M_oneReal 91 = .ok (.iload_n 1, 1) := by decide +kernel
theorem d_M_oneReal_92 : decode nb_M_oneReal 92 = .ok (.iconst 3, 1) := by decide +kernel
theorem d_M_oneReal_93 : decode nb_M_oneReal 93 = .ok (.if_icmp .ne 18, 3) := by decide +kernel
theorem d_M_oneReal_96 : decode nb_M_oneReal 96 = .ok (.dload 10, 2) := by decide +kernel
theorem d_M_oneReal_98 : decode nb_M_oneReal 98 = .ok (.dconst 0, 1) := by decide +kernel
theorem d_M_oneReal_99 : decode nb_M_oneReal 99 = .ok (.dcmp .l, 1) := by decide +kernel
theorem d_M_oneReal_100 : decode nb_M_oneReal 100 = .ok (.ifCond .le 7, 3) := by decide +kernel
theorem d_M_oneReal_103 : decode nb_M_oneReal 103 = .ok (.iconst 1, 1) := by decide +kernel
theorem d_M_oneReal_104 : decode nb_M_oneReal 104 = .ok (.goto 62, 3) := by decide +kernel
theorem d_M_oneReal_107 : decode nb_M_oneReal 107 = .ok (.iconst 0, 1) := by decide +kernel
theorem d_M_oneReal_108 : decode nb_M_oneReal 108 = .ok (.goto 58, 3) := by decide +kernel
theorem d_M_oneReal_111 : decode nb_M_oneReal 111 = .ok (.iload_n 1, 1) := by decide +kernel
theorem d_M_oneReal_112 : decode nb_M_oneReal 112 = .ok (.iconst 4, 1) := by decide +kernel
theorem d_M_oneReal_113 : decode nb_M_oneReal 113 = .ok (.if_icmp .ne 20, 3) := by decide +kernel
theorem d_M_oneReal_116 : decode nb_M_oneReal 116 = .ok (.dload 10, 2) := by decide +kernel
theorem d_M_oneReal_118 : decode nb_M_oneReal 118 = .ok (.ldc2_w 221, 3) := by decide +kernel
theorem d_M_oneReal_121 : decode nb_M_oneReal 121 = .ok (.dcmp .l, 1) := by decide +kernel
theorem d_M_oneReal_122 : decode nb_M_oneReal 122 = .ok (.ifCond .lt 7, 3) := by decide +kernel
theorem d_M_oneReal_125 : decode nb_M_oneReal 125 = .ok (.iconst 1, 1) := by decide +kernel
theorem d_M_oneReal_126 : decode nb_M_oneReal 126 = .ok (.goto 40, 3) := by decide +kernel
theorem d_M_oneReal_129 : decode nb_M_oneReal 129 = .ok (.iconst 0, 1) := by decide +kernel
theorem d_M_oneReal_130 : decode nb_M_oneReal 130 = .ok (.goto 36, 3) := by decide +kernel
theorem d_M_oneReal_133 : decode nb_M_oneReal 133 = .ok (.iload_n 1, 1) := by decide +kernel
theorem d_M_oneReal_134 : decode nb_M_oneReal 134 = .ok (.iconst 5, 1) := by decide +kernel
theorem d_M_oneReal_135 : decode nb_M_oneReal 135 = .ok (.if_icmp .ne 30, 3) := by decide +kernel
theorem d_M_oneReal_138 : decode nb_M_oneReal 138 = .ok (.dload 10, 2) := by decide +kernel
theorem d_M_oneReal_140 : decode nb_M_oneReal 140 = .ok (.ldc2_w 221, 3) := by decide +kernel
theorem d_M_oneReal_143 : decode nb_M_oneReal 143 = .ok (.dcmp .l, 1) := by decide +kernel
theorem d_M_oneReal_144 : decode nb_M_oneReal 144 = .ok (.ifCond .gt 17, 3) := by decide +kernel
theorem d_M_oneReal_147 : decode nb_M_oneReal 147 = .ok (.dload 10, 2) := by decide +kernel
theorem d_M_oneReal_149 : decode nb_M_oneReal 149 = .ok (.ldc2_w 221, 3) := by decide +kernel
theorem d_M_oneReal_152 : decode nb_M_oneReal 152 = .ok (.dcmp .l, 1) := by decide +kernel
theorem d_M_oneReal_153 : decode nb_M_oneReal 153 = .ok (.ifCond .ne 12, 3) := by decide +kernel
theorem d_M_oneReal_156 : decode nb_M_oneReal 156 = .ok (.iload 12, 2) := by decide +kernel
theorem d_M_oneReal_158 : decode nb_M_oneReal 158 = .ok (.ifCond .eq 7, 3) := by decide +kernel
theorem d_M_oneReal_161 : decode nb_M_oneReal 161 = .ok (.iconst 1, 1) := by decide +kernel
theorem d_M_oneReal_162 : decode nb_M_oneReal 162 = .ok (.goto 4, 3) := by decide +kernel
theorem d_M_oneReal_165 : decode nb_M_oneReal 165 = .ok (.iconst 0, 1) := by decide +kernel
theorem d_M_oneReal_166 : decode nb_M_oneReal 166 = .ok (.istore 13, 2) := by decide +kernel
theorem d_M_oneReal_168 : decode nb_M_oneReal 168 = .ok (.iload 13, 2) := by decide +kernel
theorem d_M_oneReal_170 : decode nb_M_oneReal 170 = .ok (.ifCond .eq 10, 3) := by decide +kernel
theorem d_M_oneReal_173 : decode nb_M_oneReal 173 = .ok (.dload 8, 2) := by decide +kernel
theorem d_M_oneReal_175 : decode nb_M_oneReal 175 = .ok (.dconst 1, 1) := by decide +kernel
theorem d_M_oneReal_176 : decode nb_M_oneReal 176 = .ok (.dadd, 1) := by decide +kernel
theorem d_M_oneReal_177 : decode nb_M_oneReal 177 = .ok (.goto 5, 3) := by decide +kernel
theorem d_M_oneReal_180 : decode nb_M_oneReal 180 = .ok (.dload 8, 2) := by decide +kernel
theorem d_M_oneReal_182 : decode nb_M_oneReal 182 = .ok (.dstore 14, 2) := by decide +kernel
theorem d_M_oneReal_184 : decode nb_M_oneReal 184 = .ok (.dload_n 2, 1) := by decide +kernel
theorem d_M_oneReal_185 : decode nb_M_oneReal 185 = .ok (.dconst 0, 1) := by decide +kernel
theorem d_M_oneReal_186 : decode nb_M_oneReal 186 = .ok (.dcmp .g, 1) := by decide +kernel
theorem d_M_oneReal_187 : decode nb_M_oneReal 187 = .ok (.ifCond .lt 17, 3) := by decide +kernel
theorem d_M_oneReal_190 : decode nb_M_oneReal 190 = .ok (.dload_n 2, 1) := by decide +kernel
theorem d_M_oneReal_191 : decode nb_M_oneReal 191 = .ok (.dconst 0, 1) := by decide +kernel
theorem d_M_oneReal_192 : decode nb_M_oneReal 192 = .ok (.dcmp .l, 1) := by decide +kernel
theorem d_M_oneReal_193 : decode nb_M_oneReal 193 = .ok (.ifCond .ne 15, 3) := by decide +kernel
theorem d_M_oneReal_196 : decode nb_M_oneReal 196 = .ok (.dconst 1, 1) := by decide +kernel
theorem d_M_oneReal_197 : decode nb_M_oneReal 197 = .ok (.dload_n 2, 1) := by decide +kernel
theorem d_M_oneReal_198 : decode nb_M_oneReal 198 = .ok (.ddiv, 1) := by decide +kernel
theorem d_M_oneReal_199 : decode nb_M_oneReal 199 = .ok (.dconst 0, 1) := by decide +kernel
theorem d_M_oneReal_200 : decode nb_M_oneReal 200 = .ok (.dcmp .g, 1) := by decide +kernel
theorem d_M_oneReal_201 : decode nb_M_oneReal 201 = .ok (.ifCond .ge 7, 3) := by decide +kernel
theorem d_M_oneReal_204 : decode nb_M_oneReal 204 = .ok (.iconst 1, 1) := by decide +kernel
theorem d_M_oneReal_205 : decode nb_M_oneReal 205 = .ok (.goto 4, 3) := by decide +kernel
theorem d_M_oneReal_208 : decode nb_M_oneReal 208 = .ok (.iconst 0, 1) := by decide +kernel
theorem d_M_oneReal_209 : decode nb_M_oneReal 209 = .ok (.istore 16, 2) := by decide +kernel
theorem d_M_oneReal_211 : decode nb_M_oneReal 211 = .ok (.aload_n 0, 1) := by decide +kernel
theorem d_M_oneReal_212 : decode nb_M_oneReal 212 = .ok (.dload 14, 2) := by decide +kernel
theorem d_M_oneReal_214 : decode nb_M_oneReal 214 = .ok (.dconst 0, 1) := by decide +kernel
theorem d_M_oneReal_215 : decode nb_M_oneReal 215 = .ok (.dcmp .l, 1) := by decide +kernel
theorem d_M_oneReal_216 : decode nb_M_oneReal 216 = .ok (.ifCond .ne 18, 3) := by decide +kernel
theorem d_M_oneReal_219 : decode nb_M_oneReal 219 = .ok (.iload 16, 2) := by decide +kernel
theorem d_M_oneReal_221 : decode nb_M_oneReal 221 = .ok (.ifCond .eq 9, 3) := by decide +kernel
theorem d_M_oneReal_224 : decode nb_M_oneReal 224 = .ok (.ldc2_w 223, 3) := by decide +kernel
theorem d_M_oneReal_227 : decode nb_M_oneReal 227 = .ok (.goto 9, 3) := by decide +kernel
theorem d_M_oneReal_230 : decode nb_M_oneReal 230 = .ok (.dconst 0, 1) := by decide +kernel
theorem d_M_oneReal_231 : decode nb_M_oneReal 231 = .ok (.goto 5, 3) := by decide +kernel
theorem d_M_oneReal_234 : decode nb_M_oneReal 234 = .ok (.dload 14, 2) := by decide +kernel
theorem d_M_oneReal_236 : decode nb_M_oneReal 236 = .ok (.putfield 134, 3) := by decide +kernel
theorem d_M_oneReal_239 : decode nb_M_oneReal 239 = .ok (.return_, 1) := by decide +kernel
abbrev rm_M_oneReal : Room := ({ frames := 1, cells := 0, slots := 0, locals := 23 })
theorem w_M_oneReal_42 {post : Unit → nf_M → Prop} (hfl : l.flags = flags0) (K : nf_K p s m args meth c "NumberForgeModel" nb_M_oneReal 17 none D a sz) : ∀ (xy0 : UInt64) (M : nf_M) (H : Heap) (locs : List Loc) (ls : Array Slot), B_M_oneReal_42 post xy0 M → lv_has ls 17 [] → nf_W D a s sz H locs M → W p l e rm_M_oneReal s m args below meth c H locs 0 0 (nf_MQ below (nf_Q nf_jN D a post ex (nf_A a sz)) args s rm_M_oneReal.cells rm_M_oneReal.slots (nf_A a sz)) (F0 m 42 ls [.double xy0, .ref (a 19)]) := by
  have hx := K.1
  have hb := K.2.1
  intro xy0 M H locs ls h hl hw
  refine nf_put (M' := ms_D M 19 12 xy0) K hw 19 7 12 nw_943 rfl rfl rfl ni_M ny_M nq_M nn_M (by decide) rfl rfl rfl rfl (Nat.le_of_ble_eq_true rfl) d_M_oneReal_42 (fun H locs hw => ?_)
  obtain ⟨M1, eM1⟩ : ∃ z, z = ms_D M 19 12 xy0 := ⟨_, rfl⟩
  rw [← eM1] at hw
  have h := h M1 eM1
  exact nf_vret K hw d_M_oneReal_45 (Nat.le_of_ble_eq_true rfl) (Nat.le_of_ble_eq_true rfl) (r := ()) rfl h
theorem w_M_oneReal_236 {post : Unit → nf_M → Prop} (hfl : l.flags = flags0) (K : nf_K p s m args meth c "NumberForgeModel" nb_M_oneReal 17 none D a sz) : ∀ (xy0 : UInt64) (M : nf_M) (H : Heap) (locs : List Loc) (ls : Array Slot), B_M_oneReal_236 post xy0 M → lv_has ls 17 [] → nf_W D a s sz H locs M → W p l e rm_M_oneReal s m args below meth c H locs 0 0 (nf_MQ below (nf_Q nf_jN D a post ex (nf_A a sz)) args s rm_M_oneReal.cells rm_M_oneReal.slots (nf_A a sz)) (F0 m 236 ls [.double xy0, .ref (a 19)]) := by
  have hx := K.1
  have hb := K.2.1
  intro xy0 M H locs ls h hl hw
  refine nf_put (M' := ms_D M 19 12 xy0) K hw 19 7 12 nw_943 rfl rfl rfl ni_M ny_M nq_M nn_M (by decide) rfl rfl rfl rfl (Nat.le_of_ble_eq_true rfl) d_M_oneReal_236 (fun H locs hw => ?_)
  obtain ⟨M1, eM1⟩ : ∃ z, z = ms_D M 19 12 xy0 := ⟨_, rfl⟩
  rw [← eM1] at hw
  have h := h M1 eM1
  exact nf_vret K hw d_M_oneReal_239 (Nat.le_of_ble_eq_true rfl) (Nat.le_of_ble_eq_true rfl) (r := ()) rfl h
theorem w_M_oneReal_209 {post : Unit → nf_M → Prop} (hfl : l.flags = flags0) (K : nf_K p s m args meth c "NumberForgeModel" nb_M_oneReal 17 none D a sz) : ∀ (x14 : UInt64) (xy0 : Int32) (M : nf_M) (H : Heap) (locs : List Loc) (ls : Array Slot), B_M_oneReal_209 post x14 xy0 M → lv_has ls 17 [(0, .ref (a 19)), (14, .double x14)] → nf_W D a s sz H locs M → W p l e rm_M_oneReal s m args below meth c H locs 0 0 (nf_MQ below (nf_Q nf_jN D a post ex (nf_A a sz)) args s rm_M_oneReal.cells rm_M_oneReal.slots (nf_A a sz)) (F0 m 209 ls [.int xy0]) := by
  have hx := K.1
  have hb := K.2.1
  intro x14 xy0 M H locs ls h hl hw
  refine lv_istore (lv' := [(16, .int xy0), (0, .ref (a 19)), (14, .double x14)]) hx hb d_M_oneReal_209 hl (by decide) rfl (fun ls hl => ?_)
  refine lv_aload_n hx hb d_M_oneReal_211 rfl (lv_at hl 1 rfl) ?_
  refine lv_dload hx hb d_M_oneReal_212 (lv_at hl 2 rfl) ?_
  refine lv_dconst0 hx hb d_M_oneReal_214 ?_
  refine nf_dl_ne hx hb d_M_oneReal_215 d_M_oneReal_216 (tgt := 234) (by decide) (fun hc => ?_) (fun hc => ?_)
  · have h := h.1 hc
    refine lv_iload hx hb d_M_oneReal_219 (lv_at hl 0 rfl) ?_
    refine nf_if_eq hx hb d_M_oneReal_221 (tgt := 230) (by decide) (fun hc => ?_) (fun hc => ?_)
    · have h := h.1 hc
      refine lv_dconst0 hx hb d_M_oneReal_230 ?_
      refine lv_goto hx hb d_M_oneReal_231 (tgt := 236) (by decide) ?_
      exact w_M_oneReal_236 hfl K (FP.dconst0) M _ _ _ h (lv_sub hl [] rfl) hw
    · have h := h.2 hc
      refine lv_ldc2d (v := (9223372036854775808 : UInt64)) hx hb K.2.2.2.1 (nf_Kg K nw_1167) d_M_oneReal_224 ?_
      refine lv_goto hx hb d_M_oneReal_227 (tgt := 236) (by decide) ?_
      exact w_M_oneReal_236 hfl K (9223372036854775808 : UInt64) M _ _ _ h (lv_sub hl [] rfl) hw
  · have h := h.2 hc
    refine lv_dload hx hb d_M_oneReal_234 (lv_at hl 2 rfl) ?_
    exact w_M_oneReal_236 hfl K x14 M _ _ _ h (lv_sub hl [] rfl) hw
theorem w_M_oneReal_204 {post : Unit → nf_M → Prop} (hfl : l.flags = flags0) (K : nf_K p s m args meth c "NumberForgeModel" nb_M_oneReal 17 none D a sz) : ∀ (x14 : UInt64) (M : nf_M) (H : Heap) (locs : List Loc) (ls : Array Slot), B_M_oneReal_204 post x14 M → lv_has ls 17 [(0, .ref (a 19)), (14, .double x14)] → nf_W D a s sz H locs M → W p l e rm_M_oneReal s m args below meth c H locs 0 0 (nf_MQ below (nf_Q nf_jN D a post ex (nf_A a sz)) args s rm_M_oneReal.cells rm_M_oneReal.slots (nf_A a sz)) (F0 m 204 ls []) := by
  have hx := K.1
  have hb := K.2.1
  intro x14 M H locs ls h hl hw
  refine lv_iconst (v := (1 : Int32)) hx hb d_M_oneReal_204 (by decide) ?_
  refine lv_goto hx hb d_M_oneReal_205 (tgt := 209) (by decide) ?_
  exact w_M_oneReal_209 hfl K x14 (1 : Int32) M _ _ _ h (lv_sub hl [0, 1] rfl) hw
theorem w_M_oneReal_208 {post : Unit → nf_M → Prop} (hfl : l.flags = flags0) (K : nf_K p s m args meth c "NumberForgeModel" nb_M_oneReal 17 none D a sz) : ∀ (x14 : UInt64) (M : nf_M) (H : Heap) (locs : List Loc) (ls : Array Slot), B_M_oneReal_208 post x14 M → lv_has ls 17 [(0, .ref (a 19)), (14, .double x14)] → nf_W D a s sz H locs M → W p l e rm_M_oneReal s m args below meth c H locs 0 0 (nf_MQ below (nf_Q nf_jN D a post ex (nf_A a sz)) args s rm_M_oneReal.cells rm_M_oneReal.slots (nf_A a sz)) (F0 m 208 ls []) := by
  have hx := K.1
  have hb := K.2.1
  intro x14 M H locs ls h hl hw
  refine lv_iconst (v := (0 : Int32)) hx hb d_M_oneReal_208 (by decide) ?_
  exact w_M_oneReal_209 hfl K x14 (0 : Int32) M _ _ _ h (lv_sub hl [0, 1] rfl) hw
theorem w_M_oneReal_182 {post : Unit → nf_M → Prop} (hfl : l.flags = flags0) (K : nf_K p s m args meth c "NumberForgeModel" nb_M_oneReal 17 none D a sz) : ∀ (x2 : UInt64) (xy0 : UInt64) (M : nf_M) (H : Heap) (locs : List Loc) (ls : Array Slot), B_M_oneReal_182 post x2 xy0 M → lv_has ls 17 [(0, .ref (a 19)), (2, .double x2)] → nf_W D a s sz H locs M → W p l e rm_M_oneReal s m args below meth c H locs 0 0 (nf_MQ below (nf_Q nf_jN D a post ex (nf_A a sz)) args s rm_M_oneReal.cells rm_M_oneReal.slots (nf_A a sz)) (F0 m 182 ls [.double xy0]) := by
  have hx := K.1
  have hb := K.2.1
  intro x2 xy0 M H locs ls h hl hw
  refine lv_dstore (lv' := [(14, .double xy0), (0, .ref (a 19)), (2, .double x2)]) hx hb d_M_oneReal_182 hl (by decide) rfl (fun ls hl => ?_)
  refine lv_dload_n hx hb d_M_oneReal_184 rfl (lv_at hl 2 rfl) ?_
  refine lv_dconst0 hx hb d_M_oneReal_185 ?_
  refine nf_dg_lt hx hb d_M_oneReal_186 d_M_oneReal_187 (tgt := 204) (by decide) (fun hc => ?_) (fun hc => ?_)
  · have h := h.1 hc
    exact w_M_oneReal_204 hfl K xy0 M _ _ _ h (lv_sub hl [1, 0] rfl) hw
  · have h := h.2 hc
    refine lv_dload_n hx hb d_M_oneReal_190 rfl (lv_at hl 2 rfl) ?_
    refine lv_dconst0 hx hb d_M_oneReal_191 ?_
    refine nf_dl_ne hx hb d_M_oneReal_192 d_M_oneReal_193 (tgt := 208) (by decide) (fun hc => ?_) (fun hc => ?_)
    · have h := h.1 hc
      refine lv_dconst1 hx hb d_M_oneReal_196 ?_
      refine lv_dload_n hx hb d_M_oneReal_197 rfl (lv_at hl 2 rfl) ?_
      obtain ⟨g1, h⟩ := h
      refine lv_ddiv hx hb d_M_oneReal_198 g1 ?_
      refine lv_dconst0 hx hb d_M_oneReal_199 ?_
      refine nf_dg_ge hx hb d_M_oneReal_200 d_M_oneReal_201 (tgt := 208) (by decide) (fun hc => ?_) (fun hc => ?_)
      · have h := h.1 hc
        exact w_M_oneReal_204 hfl K xy0 M _ _ _ h (lv_sub hl [1, 0] rfl) hw
      · have h := h.2 hc
        exact w_M_oneReal_208 hfl K xy0 M _ _ _ h (lv_sub hl [1, 0] rfl) hw
    · have h := h.2 hc
      exact w_M_oneReal_208 hfl K xy0 M _ _ _ h (lv_sub hl [1, 0] rfl) hw
theorem w_M_oneReal_166 {post : Unit → nf_M → Prop} (hfl : l.flags = flags0) (K : nf_K p s m args meth c "NumberForgeModel" nb_M_oneReal 17 none D a sz) : ∀ (x2 : UInt64) (x8 : UInt64) (xy0 : Int32) (M : nf_M) (H : Heap) (locs : List Loc) (ls : Array Slot), B_M_oneReal_166 post x2 x8 xy0 M → lv_has ls 17 [(0, .ref (a 19)), (2, .double x2), (8, .double x8)] → nf_W D a s sz H locs M → W p l e rm_M_oneReal s m args below meth c H locs 0 0 (nf_MQ below (nf_Q nf_jN D a post ex (nf_A a sz)) args s rm_M_oneReal.cells rm_M_oneReal.slots (nf_A a sz)) (F0 m 166 ls [.int xy0]) := by
  have hx := K.1
  have hb := K.2.1
  intro x2 x8 xy0 M H locs ls h hl hw
  refine lv_istore (lv' := [(13, .int xy0), (0, .ref (a 19)), (2, .double x2), (8, .double x8)]) hx hb d_M_oneReal_166 hl (by decide) rfl (fun ls hl => ?_)
  refine lv_iload hx hb d_M_oneReal_168 (lv_at hl 0 rfl) ?_
  refine nf_if_eq hx hb d_M_oneReal_170 (tgt := 180) (by decide) (fun hc => ?_) (fun hc => ?_)
  · have h := h.1 hc
    refine lv_dload hx hb d_M_oneReal_180 (lv_at hl 3 rfl) ?_
    exact w_M_oneReal_182 hfl K x2 x8 M _ _ _ h (lv_sub hl [1, 2] rfl) hw
  · have h := h.2 hc
    refine lv_dload hx hb d_M_oneReal_173 (lv_at hl 3 rfl) ?_
    refine lv_dconst1 hx hb d_M_oneReal_175 ?_
    obtain ⟨g1, h⟩ := h
    refine lv_dadd hx hb d_M_oneReal_176 g1 ?_
    refine lv_goto hx hb d_M_oneReal_177 (tgt := 182) (by decide) ?_
    exact w_M_oneReal_182 hfl K x2 (FP.dadd x8 (FP.dconst1)) M _ _ _ h (lv_sub hl [1, 2] rfl) hw
theorem w_M_oneReal_161 {post : Unit → nf_M → Prop} (hfl : l.flags = flags0) (K : nf_K p s m args meth c "NumberForgeModel" nb_M_oneReal 17 none D a sz) : ∀ (x2 : UInt64) (x8 : UInt64) (M : nf_M) (H : Heap) (locs : List Loc) (ls : Array Slot), B_M_oneReal_161 post x2 x8 M → lv_has ls 17 [(0, .ref (a 19)), (2, .double x2), (8, .double x8)] → nf_W D a s sz H locs M → W p l e rm_M_oneReal s m args below meth c H locs 0 0 (nf_MQ below (nf_Q nf_jN D a post ex (nf_A a sz)) args s rm_M_oneReal.cells rm_M_oneReal.slots (nf_A a sz)) (F0 m 161 ls []) := by
  have hx := K.1
  have hb := K.2.1
  intro x2 x8 M H locs ls h hl hw
  refine lv_iconst (v := (1 : Int32)) hx hb d_M_oneReal_161 (by decide) ?_
  refine lv_goto hx hb d_M_oneReal_162 (tgt := 166) (by decide) ?_
  exact w_M_oneReal_166 hfl K x2 x8 (1 : Int32) M _ _ _ h (lv_sub hl [0, 1, 2] rfl) hw
theorem w_M_oneReal_165 {post : Unit → nf_M → Prop} (hfl : l.flags = flags0) (K : nf_K p s m args meth c "NumberForgeModel" nb_M_oneReal 17 none D a sz) : ∀ (x2 : UInt64) (x8 : UInt64) (M : nf_M) (H : Heap) (locs : List Loc) (ls : Array Slot), B_M_oneReal_165 post x2 x8 M → lv_has ls 17 [(0, .ref (a 19)), (2, .double x2), (8, .double x8)] → nf_W D a s sz H locs M → W p l e rm_M_oneReal s m args below meth c H locs 0 0 (nf_MQ below (nf_Q nf_jN D a post ex (nf_A a sz)) args s rm_M_oneReal.cells rm_M_oneReal.slots (nf_A a sz)) (F0 m 165 ls []) := by
  have hx := K.1
  have hb := K.2.1
  intro x2 x8 M H locs ls h hl hw
  refine lv_iconst (v := (0 : Int32)) hx hb d_M_oneReal_165 (by decide) ?_
  exact w_M_oneReal_166 hfl K x2 x8 (0 : Int32) M _ _ _ h (lv_sub hl [0, 1, 2] rfl) hw
theorem w_M_oneReal_89 {post : Unit → nf_M → Prop} (hfl : l.flags = flags0) (K : nf_K p s m args meth c "NumberForgeModel" nb_M_oneReal 17 none D a sz) : ∀ (x1 : Int32) (x2 : UInt64) (x8 : UInt64) (x10 : UInt64) (xy0 : Int32) (M : nf_M) (H : Heap) (locs : List Loc) (ls : Array Slot), B_M_oneReal_89 post x1 x2 x8 x10 xy0 M → lv_has ls 17 [(0, .ref (a 19)), (1, .int x1), (2, .double x2), (8, .double x8), (10, .double x10)] → nf_W D a s sz H locs M → W p l e rm_M_oneReal s m args below meth c H locs 0 0 (nf_MQ below (nf_Q nf_jN D a post ex (nf_A a sz)) args s rm_M_oneReal.cells rm_M_oneReal.slots (nf_A a sz)) (F0 m 89 ls [.int xy0]) := by
  have hx := K.1
  have hb := K.2.1
  intro x1 x2 x8 x10 xy0 M H locs ls h hl hw
  refine lv_istore (lv' := [(12, .int xy0), (0, .ref (a 19)), (1, .int x1), (2, .double x2), (8, .double x8), (10, .double x10)]) hx hb d_M_oneReal_89 hl (by decide) rfl (fun ls hl => ?_)
  refine lv_iload_n hx hb d_M_oneReal_91 rfl (lv_at hl 2 rfl) ?_
  refine lv_iconst (v := (3 : Int32)) hx hb d_M_oneReal_92 (by decide) ?_
  refine nf_ic_ne hx hb d_M_oneReal_93 (tgt := 111) (by decide) (fun hc => ?_) (fun hc => ?_)
  · have h := h.1 hc
    refine lv_dload hx hb d_M_oneReal_96 (lv_at hl 5 rfl) ?_
    refine lv_dconst0 hx hb d_M_oneReal_98 ?_
    refine nf_dl_le hx hb d_M_oneReal_99 d_M_oneReal_100 (tgt := 107) (by decide) (fun hc => ?_) (fun hc => ?_)
    · have h := h.1 hc
      refine lv_iconst (v := (1 : Int32)) hx hb d_M_oneReal_103 (by decide) ?_
      refine lv_goto hx hb d_M_oneReal_104 (tgt := 166) (by decide) ?_
      exact w_M_oneReal_166 hfl K x2 x8 (1 : Int32) M _ _ _ h (lv_sub hl [1, 3, 4] rfl) hw
    · have h := h.2 hc
      refine lv_iconst (v := (0 : Int32)) hx hb d_M_oneReal_107 (by decide) ?_
      refine lv_goto hx hb d_M_oneReal_108 (tgt := 166) (by decide) ?_
      exact w_M_oneReal_166 hfl K x2 x8 (0 : Int32) M _ _ _ h (lv_sub hl [1, 3, 4] rfl) hw
  · have h := h.2 hc
    refine lv_iload_n hx hb d_M_oneReal_111 rfl (lv_at hl 2 rfl) ?_
    refine lv_iconst (v := (4 : Int32)) hx hb d_M_oneReal_112 (by decide) ?_
    refine nf_ic_ne hx hb d_M_oneReal_113 (tgt := 133) (by decide) (fun hc => ?_) (fun hc => ?_)
    · have h := h.1 hc
      refine lv_dload hx hb d_M_oneReal_116 (lv_at hl 5 rfl) ?_
      refine lv_ldc2d (v := (4602678819172646912 : UInt64)) hx hb K.2.2.2.1 (nf_Kg K nw_1166) d_M_oneReal_118 ?_
      refine nf_dl_lt hx hb d_M_oneReal_121 d_M_oneReal_122 (tgt := 129) (by decide) (fun hc => ?_) (fun hc => ?_)
      · have h := h.1 hc
        refine lv_iconst (v := (1 : Int32)) hx hb d_M_oneReal_125 (by decide) ?_
        refine lv_goto hx hb d_M_oneReal_126 (tgt := 166) (by decide) ?_
        exact w_M_oneReal_166 hfl K x2 x8 (1 : Int32) M _ _ _ h (lv_sub hl [1, 3, 4] rfl) hw
      · have h := h.2 hc
        refine lv_iconst (v := (0 : Int32)) hx hb d_M_oneReal_129 (by decide) ?_
        refine lv_goto hx hb d_M_oneReal_130 (tgt := 166) (by decide) ?_
        exact w_M_oneReal_166 hfl K x2 x8 (0 : Int32) M _ _ _ h (lv_sub hl [1, 3, 4] rfl) hw
    · have h := h.2 hc
      refine lv_iload_n hx hb d_M_oneReal_133 rfl (lv_at hl 2 rfl) ?_
      refine lv_iconst (v := (5 : Int32)) hx hb d_M_oneReal_134 (by decide) ?_
      refine nf_ic_ne hx hb d_M_oneReal_135 (tgt := 165) (by decide) (fun hc => ?_) (fun hc => ?_)
      · have h := h.1 hc
        refine lv_dload hx hb d_M_oneReal_138 (lv_at hl 5 rfl) ?_
        refine lv_ldc2d (v := (4602678819172646912 : UInt64)) hx hb K.2.2.2.1 (nf_Kg K nw_1166) d_M_oneReal_140 ?_
        refine nf_dl_gt hx hb d_M_oneReal_143 d_M_oneReal_144 (tgt := 161) (by decide) (fun hc => ?_) (fun hc => ?_)
        · have h := h.1 hc
          exact w_M_oneReal_161 hfl K x2 x8 M _ _ _ h (lv_sub hl [1, 3, 4] rfl) hw
        · have h := h.2 hc
          refine lv_dload hx hb d_M_oneReal_147 (lv_at hl 5 rfl) ?_
          refine lv_ldc2d (v := (4602678819172646912 : UInt64)) hx hb K.2.2.2.1 (nf_Kg K nw_1166) d_M_oneReal_149 ?_
          refine nf_dl_ne hx hb d_M_oneReal_152 d_M_oneReal_153 (tgt := 165) (by decide) (fun hc => ?_) (fun hc => ?_)
          · have h := h.1 hc
            refine lv_iload hx hb d_M_oneReal_156 (lv_at hl 0 rfl) ?_
            refine nf_if_eq hx hb d_M_oneReal_158 (tgt := 165) (by decide) (fun hc => ?_) (fun hc => ?_)
            · have h := h.1 hc
              exact w_M_oneReal_165 hfl K x2 x8 M _ _ _ h (lv_sub hl [1, 3, 4] rfl) hw
            · have h := h.2 hc
              exact w_M_oneReal_161 hfl K x2 x8 M _ _ _ h (lv_sub hl [1, 3, 4] rfl) hw
          · have h := h.2 hc
            exact w_M_oneReal_165 hfl K x2 x8 M _ _ _ h (lv_sub hl [1, 3, 4] rfl) hw
      · have h := h.2 hc
        exact w_M_oneReal_165 hfl K x2 x8 M _ _ _ h (lv_sub hl [1, 3, 4] rfl) hw
theorem w_M_oneReal_12 {post : Unit → nf_M → Prop} (hfl : l.flags = flags0) (K : nf_K p s m args meth c "NumberForgeModel" nb_M_oneReal 17 none D a sz) : ∀ (x1 : Int32) (x2 : UInt64) (x4 : UInt64) (xy0 : UInt64) (M : nf_M) (H : Heap) (locs : List Loc) (ls : Array Slot), B_M_oneReal_12 post x1 x2 x4 xy0 M → lv_has ls 17 [(0, .ref (a 19)), (1, .int x1), (2, .double x2), (4, .double x4)] → nf_W D a s sz H locs M → W p l e rm_M_oneReal s m args below meth c H locs 0 0 (nf_MQ below (nf_Q nf_jN D a post ex (nf_A a sz)) args s rm_M_oneReal.cells rm_M_oneReal.slots (nf_A a sz)) (F0 m 12 ls [.double xy0]) := by
  have hx := K.1
  have hb := K.2.1
  intro x1 x2 x4 xy0 M H locs ls h hl hw
  refine lv_dstore (lv' := [(6, .double xy0), (0, .ref (a 19)), (1, .int x1), (2, .double x2), (4, .double x4)]) hx hb d_M_oneReal_12 hl (by decide) rfl (fun ls hl => ?_)
  refine lv_iload_n hx hb d_M_oneReal_14 rfl (lv_at hl 2 rfl) ?_
  refine lv_iconst (v := (2 : Int32)) hx hb d_M_oneReal_15 (by decide) ?_
  refine nf_ic_ge hx hb d_M_oneReal_16 (tgt := 46) (by decide) (fun hc => ?_) (fun hc => ?_)
  · have h := h.1 hc
    refine lv_aload_n hx hb d_M_oneReal_19 rfl (lv_at hl 1 rfl) ?_
    refine lv_iload_n hx hb d_M_oneReal_20 rfl (lv_at hl 2 rfl) ?_
    refine nf_if_ne hx hb d_M_oneReal_21 (tgt := 29) (by decide) (fun hc => ?_) (fun hc => ?_)
    · have h := h.1 hc
      refine lv_dload_n hx hb d_M_oneReal_24 rfl (lv_at hl 3 rfl) ?_
      refine lv_dneg hx hb d_M_oneReal_25 ?_
      refine lv_goto hx hb d_M_oneReal_26 (tgt := 42) (by decide) ?_
      exact w_M_oneReal_42 hfl K (FP.dneg x2) M _ _ _ h (lv_sub hl [] rfl) hw
    · have h := h.2 hc
      refine lv_dload_n hx hb d_M_oneReal_29 rfl (lv_at hl 3 rfl) ?_
      refine lv_dconst0 hx hb d_M_oneReal_30 ?_
      refine nf_dg_gt hx hb d_M_oneReal_31 d_M_oneReal_32 (tgt := 41) (by decide) (fun hc => ?_) (fun hc => ?_)
      · have h := h.1 hc
        refine lv_dconst0 hx hb d_M_oneReal_35 ?_
        refine lv_dload_n hx hb d_M_oneReal_36 rfl (lv_at hl 3 rfl) ?_
        obtain ⟨g1, h⟩ := h
        refine lv_dsub hx hb d_M_oneReal_37 g1 ?_
        refine lv_goto hx hb d_M_oneReal_38 (tgt := 42) (by decide) ?_
        exact w_M_oneReal_42 hfl K (FP.dsub (FP.dconst0) x2) M _ _ _ h (lv_sub hl [] rfl) hw
      · have h := h.2 hc
        refine lv_dload_n hx hb d_M_oneReal_41 rfl (lv_at hl 3 rfl) ?_
        exact w_M_oneReal_42 hfl K x2 M _ _ _ h (lv_sub hl [] rfl) hw
  · have h := h.2 hc
    refine lv_dload hx hb d_M_oneReal_46 (lv_at hl 0 rfl) ?_
    refine lv_dload hx hb d_M_oneReal_48 (lv_at hl 4 rfl) ?_
    refine nf_dl_lt hx hb d_M_oneReal_50 d_M_oneReal_51 (tgt := 60) (by decide) (fun hc => ?_) (fun hc => ?_)
    · have h := h.1 hc
      refine lv_aload_n hx hb d_M_oneReal_54 rfl (lv_at hl 1 rfl) ?_
      refine lv_dload_n hx hb d_M_oneReal_55 rfl (lv_at hl 3 rfl) ?_
      refine nf_put (M' := ms_D M 19 12 x2) K hw 19 7 12 nw_943 rfl rfl rfl ni_M ny_M nq_M nn_M (by decide) rfl rfl rfl rfl (Nat.le_of_ble_eq_true rfl) d_M_oneReal_56 (fun H locs hw => ?_)
      obtain ⟨M2, eM2⟩ : ∃ z, z = ms_D M 19 12 x2 := ⟨_, rfl⟩
      rw [← eM2] at hw
      have h := h M2 eM2
      exact nf_vret K hw d_M_oneReal_59 (Nat.le_of_ble_eq_true rfl) (Nat.le_of_ble_eq_true rfl) (r := ()) rfl h
    · have h := h.2 hc
      refine lv_dload_n hx hb d_M_oneReal_60 rfl (lv_at hl 3 rfl) ?_
      refine nf_callW (ex := (fun _ _ => False)) (As := [.double x2]) (st0 := [.double x2]) (rest := []) K hw (nf_invS hx hb K.2.2.2.1 (nf_Kg K nw_1163) (nf_Kg K nw_1164) (nf_Kg K nw_9) (nf_Kg K nw_1165) ⟨by decide, by decide⟩ rfl nl_M_floor rfl d_M_oneReal_61) (c_M_floor l hfl x2) nw_1165 nw_9 rfl ⟨by decide, by decide⟩ (Nat.le_of_ble_eq_true rfl) hl.1 ⟨Nat.le_of_ble_eq_true rfl, Nat.le_of_ble_eq_true rfl⟩ h (fun _ _ h => h.elim) (fun r3 M4 H locs h hw => ?_)
      refine W.eq (g2 := F0 m 64 ls [.double r3]) rfl ?_
      refine lv_dstore (lv' := [(8, .double r3), (6, .double xy0), (0, .ref (a 19)), (1, .int x1), (2, .double x2), (4, .double x4)]) hx hb d_M_oneReal_64 hl (by decide) rfl (fun ls hl => ?_)
      refine lv_dload_n hx hb d_M_oneReal_66 rfl (lv_at hl 4 rfl) ?_
      refine lv_dload hx hb d_M_oneReal_67 (lv_at hl 0 rfl) ?_
      obtain ⟨g5, h⟩ := h
      refine lv_dsub hx hb d_M_oneReal_69 g5 ?_
      refine lv_topd (fun t6 et6 => ?_)
      have h := h t6 et6
      refine lv_dstore (lv' := [(10, .double t6), (8, .double r3), (6, .double xy0), (0, .ref (a 19)), (1, .int x1), (2, .double x2), (4, .double x4)]) hx hb d_M_oneReal_70 hl (by decide) rfl (fun ls hl => ?_)
      refine lv_dload hx hb d_M_oneReal_72 (lv_at hl 1 rfl) ?_
      refine lv_d2l hx hb d_M_oneReal_74 ?_
      refine lv_ldc2 (v := (2 : Int64)) hx hb K.2.2.2.1 (nf_Kg K nw_1156) d_M_oneReal_75 ?_
      refine lv_lrem hx hb d_M_oneReal_78 (by decide) ?_
      refine lv_lconst (v := (0 : Int64)) hx hb d_M_oneReal_79 (by decide) ?_
      refine nf_lc_eq hx hb d_M_oneReal_80 d_M_oneReal_81 (tgt := 88) (by decide) (fun hc => ?_) (fun hc => ?_)
      · have h := h.1 hc
        refine lv_iconst (v := (0 : Int32)) hx hb d_M_oneReal_88 (by decide) ?_
        exact w_M_oneReal_89 hfl K x1 x2 r3 t6 (0 : Int32) M4 _ _ _ h (lv_sub hl [3, 4, 5, 1, 0] rfl) hw
      · have h := h.2 hc
        refine lv_iconst (v := (1 : Int32)) hx hb d_M_oneReal_84 (by decide) ?_
        refine lv_goto hx hb d_M_oneReal_85 (tgt := 89) (by decide) ?_
        exact w_M_oneReal_89 hfl K x1 x2 r3 t6 (1 : Int32) M4 _ _ _ h (lv_sub hl [3, 4, 5, 1, 0] rfl) hw
theorem c_M_oneReal (l : Launch) (hfl : l.flags = flags0) (x1 : Int32) (x2 : UInt64) (x4 : UInt64) : nf_C nf_jN l nm_M_oneReal nb_M_oneReal 17 none rm_M_oneReal (fun a => [.ref (a 19), .int x1, .double x2, .double x4]) (fun M post ex => P_M_oneReal x1 x2 x4 M post) := by
  refine nf_start (plainFor_of_name (by decide +kernel)) (fun a => Nat.le_of_ble_eq_true rfl) ?_
  intro D a sz M post ex p e s m below meth c ls h K hl hw
  have hx := K.1
  have hb := K.2.1
  have hl : lv_has ls 17 [(0, .ref (a 19)), (1, .int x1), (2, .double x2), (4, .double x4)] := hl
  refine lv_dload_n hx hb d_M_oneReal_0 rfl (lv_at hl 2 rfl) ?_
  refine lv_dconst0 hx hb d_M_oneReal_1 ?_
  refine nf_dg_ge hx hb d_M_oneReal_2 d_M_oneReal_3 (tgt := 11) (by decide) (fun hc => ?_) (fun hc => ?_)
  · have h := h.1 hc
    refine lv_dload_n hx hb d_M_oneReal_6 rfl (lv_at hl 2 rfl) ?_
    refine lv_dneg hx hb d_M_oneReal_7 ?_
    refine lv_goto hx hb d_M_oneReal_8 (tgt := 12) (by decide) ?_
    exact w_M_oneReal_12 hfl K x1 x2 x4 (FP.dneg x2) M _ _ _ h (lv_sub hl [0, 1, 2, 3] rfl) hw
  · have h := h.2 hc
    refine lv_dload_n hx hb d_M_oneReal_11 rfl (lv_at hl 2 rfl) ?_
    exact w_M_oneReal_12 hfl K x1 x2 x4 x2 M _ _ _ h (lv_sub hl [0, 1, 2, 3] rfl) hw
theorem d_M_one_0 : decode nb_M_one 0 = .ok (.aload_n 0, 1) := by decide +kernel
theorem d_M_one_1 : decode nb_M_one 1 = .ok (.iload_n 2, 1) := by decide +kernel
theorem d_M_one_2 : decode nb_M_one 2 = .ok (.invokestatic 148, 3) := by decide +kernel
theorem d_M_one_5 : decode nb_M_one 5 = .ok (.ifCond .eq 19, 3) := by decide +kernel
theorem d_M_one_8 : decode nb_M_one 8 = .ok (.iload_n 3, 1) := by decide +kernel
theorem d_M_one_9 : decode nb_M_one 9 = .ok (.invokestatic 148, 3) := by decide +kernel
theorem d_M_one_12 : decode nb_M_one 12 = .ok (.ifCond .eq 12, 3) := by decide +kernel
theorem d_M_one_15 : decode nb_M_one 15 = .ok (.iload_n 1, 1) := by decide +kernel
theorem d_M_one_16 : decode nb_M_one 16 = .ok (.ifCond .lt 8, 3) := by decide +kernel
theorem d_M_one_19 : decode nb_M_one 19 = .ok (.iload_n 1, 1) := by decide +kernel
theorem d_M_one_20 : decode nb_M_one 20 = .ok (.iconst 5, 1) := by decide +kernel
theorem d_M_one_21 : decode nb_M_one 21 = .ok (.if_icmp .le 7, 3) := by decide +kernel
theorem d_M_one_24 : decode nb_M_one 24 = .ok (.iconst 1, 1) := by decide +kernel
theorem d_M_one_25 : decode nb_M_one 25 = .ok (.goto 17, 3) := by decide +kernel
theorem d_M_one_28 : decode nb_M_one 28 = .ok (.aload_n 0, 1) := by decide +kernel
theorem d_M_one_29 : decode nb_M_one 29 = .ok (.getfield 16, 3) := by decide +kernel
theorem d_M_one_32 : decode nb_M_one 32 = .ok (.iload_n 2, 1) := by decide +kernel
theorem d_M_one_33 : decode nb_M_one 33 = .ok (.iaload, 1) := by decide +kernel
theorem d_M_one_34 : decode nb_M_one 34 = .ok (.ifCond .ge 7, 3) := by decide +kernel
theorem d_M_one_37 : decode nb_M_one 37 = .ok (.iconst 2, 1) := by decide +kernel
theorem d_M_one_38 : decode nb_M_one 38 = .ok (.goto 4, 3) := by decide +kernel
theorem d_M_one_41 : decode nb_M_one 41 = .ok (.iconst 0, 1) := by decide +kernel
theorem d_M_one_42 : decode nb_M_one 42 = .ok (.putfield 33, 3) := by decide +kernel
theorem d_M_one_45 : decode nb_M_one 45 = .ok (.aload_n 0, 1) := by decide +kernel
theorem d_M_one_46 : decode nb_M_one 46 = .ok (.getfield 33, 3) := by decide +kernel
theorem d_M_one_49 : decode nb_M_one 49 = .ok (.ifCond .le 4, 3) := by decide +kernel
theorem d_M_one_52 : decode nb_M_one 52 = .ok (.return_, 1) := by decide +kernel
theorem d_M_one_53 : decode nb_M_one 53 = .ok (.aload_n 0, 1) := by decide +kernel
theorem d_M_one_54 : decode nb_M_one 54 = .ok (.getfield 16, 3) := by decide +kernel
theorem d_M_one_57 : decode nb_M_one 57 = .ok (.iload_n 2, 1) := by decide +kernel
theorem d_M_one_58 : decode nb_M_one 58 = .ok (.iaload, 1) := by decide +kernel
theorem d_M_one_59 : decode nb_M_one 59 = .ok (.istore 4, 2) := by decide +kernel
theorem d_M_one_61 : decode nb_M_one 61 = .ok (.iload 4, 2) := by decide +kernel
theorem d_M_one_63 : decode nb_M_one 63 = .ok (.invokestatic 145, 3) := by decide +kernel
theorem d_M_one_66 : decode nb_M_one 66 = .ok (.ifCond .eq 23, 3) := by decide +kernel
theorem d_M_one_69 : decode nb_M_one 69 = .ok (.aload_n 0, 1) := by decide +kernel
theorem d_M_one_70 : decode nb_M_one 70 = .ok (.iload_n 1, 1) := by decide +kernel
theorem d_M_one_71 : decode nb_M_one 71 = .ok (.aload_n 0, 1) := by decide +kernel
theorem d_M_one_72 : decode nb_M_one 72 = .ok (.getfield 19, 3) := by decide +kernel
theorem d_M_one_75 : decode nb_M_one 75 = .ok (.iload_n 2, 1) := by decide +kernel
theorem d_M_one_76 : decode nb_M_one 76 = .ok (.laload, 1) := by decide +kernel
theorem d_M_one_77 : decode nb_M_one 77 = .ok (.aload_n 0, 1) := by decide +kernel
theorem d_M_one_78 : decode nb_M_one 78 = .ok (.getfield 23, 3) := by decide +kernel
theorem d_M_one_81 : decode nb_M_one 81 = .ok (.iload_n 2, 1) := by decide +kernel
theorem d_M_one_82 : decode nb_M_one 82 = .ok (.iaload, 1) := by decide +kernel
theorem d_M_one_83 : decode nb_M_one 83 = .ok (.invokevirtual 225, 3) := by decide +kernel
theorem d_M_one_86 : decode nb_M_one 86 = .ok (.goto 30, 3) := by decide +kernel
theorem d_M_one_89 : decode nb_M_one 89 = .ok (.aload_n 0, 1) := by decide +kernel
theorem d_M_one_90 : decode nb_M_one 90 = .ok (.iload_n 1, 1) := by decide +kernel
theorem d_M_one_91 : decode nb_M_one 91 = .ok (.aload_n 0, 1) := by decide +kernel
theorem d_M_one_92 : decode nb_M_one 92 = .ok (.getfield 26, 3) := by decide +kernel
theorem d_M_one_95 : decode nb_M_one 95 = .ok (.iload_n 2, 1) := by decide +kernel
theorem d_M_one_96 : decode nb_M_one 96 = .ok (.daload, 1) := by decide +kernel
theorem d_M_one_97 : decode nb_M_one 97 = .ok (.iload 4, 2) := by decide +kernel
theorem d_M_one_99 : decode nb_M_one 99 = .ok (.bipush 8, 2) := by decide +kernel
theorem d_M_one_101 : decode nb_M_one 101 = .ok (.if_icmp .ne 9, 3) := by decide +kernel
theorem d_M_one_104 : decode nb_M_one 104 = .ok (.ldc2_w 229, 3) := by decide +kernel
theorem d_M_one_107 : decode nb_M_one 107 = .ok (.goto 6, 3) := by decide +kernel
theorem d_M_one_110 : decode nb_M_one 110 = .ok (.ldc2_w 231, 3) := by decide +kernel
theorem d_M_one_113 : decode nb_M_one 113 = .ok (.invokevirtual 233, 3) := by decide +kernel
theorem d_M_one_116 : decode nb_M_one 116 = .ok (.aload_n 0, 1) := by decide +kernel
theorem d_M_one_117 : decode nb_M_one 117 = .ok (.iload_n 3, 1) := by decide +kernel
theorem d_M_one_118 : decode nb_M_one 118 = .ok (.iload 4, 2) := by decide +kernel
theorem d_M_one_120 : decode nb_M_one 120 = .ok (.invokestatic 145, 3) := by decide +kernel
theorem d_M_one_123 : decode nb_M_one 123 = .ok (.ifCond .eq 13, 3) := by decide +kernel
theorem d_M_one_126 : decode nb_M_one 126 = .ok (.iload 4, 2) := by decide +kernel
theorem d_M_one_128 : decode nb_M_one 128 = .ok (.iconst 1, 1) := by decide +kernel
theorem d_M_one_129 : decode nb_M_one 129 = .ok (.if_icmp .le 7, 3) := by decide +kernel
theorem d_M_one_132 : decode nb_M_one 132 = .ok (.iconst 1, 1) := by decide +kernel
theorem d_M_one_133 : decode nb_M_one 133 = .ok (.goto 5, 3) := by decide +kernel
theorem d_M_one_136 : decode nb_M_one 136 = .ok (.iload 4, 2) := by decide +kernel
theorem d_M_one_138 : decode nb_M_one 138 = .ok (.invokevirtual 158, 3) := by decide +kernel
theorem d_M_one_141 : decode nb_M_one 141 = .ok (.return_, 1) := by decide +kernel
abbrev rm_M_one : Room := ({ frames := 2, cells := 0, slots := 0, locals := 59 })
theorem w_M_one_138 {post : Unit → nf_M → Prop} (hfl : l.flags = flags0) (K : nf_K p s m args meth c "NumberForgeModel" nb_M_one 5 none D a sz) : ∀ (xy0 : Int32) (xy1 : Int32) (M : nf_M) (H : Heap) (locs : List Loc) (ls : Array Slot), B_M_one_138 post xy0 xy1 M → lv_has ls 5 [] → nf_W D a s sz H locs M → W p l e rm_M_one s m args below meth c H locs 0 0 (nf_MQ below (nf_Q nf_jN D a post ex (nf_A a sz)) args s rm_M_one.cells rm_M_one.slots (nf_A a sz)) (F0 m 138 ls [.int xy0, .int xy1, .ref (a 19)]) := by
  have hx := K.1
  have hb := K.2.1
  intro xy0 xy1 M H locs ls h hl hw
  refine nf_callW (ex := (fun _ _ => False)) (As := [.ref (a 19), .int xy1, .int xy0]) (st0 := [.int xy0, .int xy1, .ref (a 19)]) (rest := []) K hw (nf_invV hx hb K.2.2.2.1 (nf_Kg K nw_1070) (nf_Kg K nw_1072) (nf_Kg K nx_M_store) (nf_Kg K nw_1073) ⟨by decide, by decide⟩ (nf_rcv K hw 19 7 rfl rfl) rfl nl_M_store rfl d_M_one_138) (c_M_store l hfl xy1 xy0) nw_1073 nw_9 rfl ⟨by decide, by decide⟩ (Nat.le_of_ble_eq_true rfl) hl.1 ⟨Nat.le_of_ble_eq_true rfl, Nat.le_of_ble_eq_true rfl⟩ h (fun _ _ h => h.elim) (fun r1 M2 H locs h hw => ?_)
  refine W.eq (g2 := F0 m 141 ls []) rfl ?_
  exact nf_vret K hw d_M_one_141 (Nat.le_of_ble_eq_true rfl) (Nat.le_of_ble_eq_true rfl) (r := ()) rfl h
theorem w_M_one_136 {post : Unit → nf_M → Prop} (hfl : l.flags = flags0) (K : nf_K p s m args meth c "NumberForgeModel" nb_M_one 5 none D a sz) : ∀ (x4 : Int32) (xy0 : Int32) (M : nf_M) (H : Heap) (locs : List Loc) (ls : Array Slot), B_M_one_136 post x4 xy0 M → lv_has ls 5 [(4, .int x4)] → nf_W D a s sz H locs M → W p l e rm_M_one s m args below meth c H locs 0 0 (nf_MQ below (nf_Q nf_jN D a post ex (nf_A a sz)) args s rm_M_one.cells rm_M_one.slots (nf_A a sz)) (F0 m 136 ls [.int xy0, .ref (a 19)]) := by
  have hx := K.1
  have hb := K.2.1
  intro x4 xy0 M H locs ls h hl hw
  refine lv_iload hx hb d_M_one_136 (lv_at hl 0 rfl) ?_
  exact w_M_one_138 hfl K x4 xy0 M _ _ _ h (lv_sub hl [] rfl) hw
theorem w_M_one_116 {post : Unit → nf_M → Prop} (hfl : l.flags = flags0) (K : nf_K p s m args meth c "NumberForgeModel" nb_M_one 5 none D a sz) : ∀ (x3 : Int32) (x4 : Int32) (M : nf_M) (H : Heap) (locs : List Loc) (ls : Array Slot), B_M_one_116 post x3 x4 M → lv_has ls 5 [(0, .ref (a 19)), (3, .int x3), (4, .int x4)] → nf_W D a s sz H locs M → W p l e rm_M_one s m args below meth c H locs 0 0 (nf_MQ below (nf_Q nf_jN D a post ex (nf_A a sz)) args s rm_M_one.cells rm_M_one.slots (nf_A a sz)) (F0 m 116 ls []) := by
  have hx := K.1
  have hb := K.2.1
  intro x3 x4 M H locs ls h hl hw
  refine lv_aload_n hx hb d_M_one_116 rfl (lv_at hl 0 rfl) ?_
  refine lv_iload_n hx hb d_M_one_117 rfl (lv_at hl 1 rfl) ?_
  refine lv_iload hx hb d_M_one_118 (lv_at hl 2 rfl) ?_
  refine nf_callW (ex := (fun _ _ => False)) (As := [.int x4]) (st0 := [.int x4, .int x3, .ref (a 19)]) (rest := [.int x3, .ref (a 19)]) K hw (nf_invS hx hb K.2.2.2.1 (nf_Kg K nw_1011) (nf_Kg K nw_1012) (nf_Kg K nw_9) (nf_Kg K nw_1013) ⟨by decide, by decide⟩ rfl nl_M_isExact rfl d_M_one_120) (c_M_isExact l hfl x4) nw_1013 nw_9 rfl ⟨by decide, by decide⟩ (Nat.le_of_ble_eq_true rfl) hl.1 ⟨Nat.le_of_ble_eq_true rfl, Nat.le_of_ble_eq_true rfl⟩ h (fun _ _ h => h.elim) (fun r1 M2 H locs h hw => ?_)
  refine W.eq (g2 := F0 m 123 ls [.int r1, .int x3, .ref (a 19)]) rfl ?_
  refine nf_if_eq hx hb d_M_one_123 (tgt := 136) (by decide) (fun hc => ?_) (fun hc => ?_)
  · have h := h.1 hc
    exact w_M_one_136 hfl K x4 x3 M2 _ _ _ h (lv_sub hl [2] rfl) hw
  · have h := h.2 hc
    refine lv_iload hx hb d_M_one_126 (lv_at hl 2 rfl) ?_
    refine lv_iconst (v := (1 : Int32)) hx hb d_M_one_128 (by decide) ?_
    refine nf_ic_le hx hb d_M_one_129 (tgt := 136) (by decide) (fun hc => ?_) (fun hc => ?_)
    · have h := h.1 hc
      refine lv_iconst (v := (1 : Int32)) hx hb d_M_one_132 (by decide) ?_
      refine lv_goto hx hb d_M_one_133 (tgt := 138) (by decide) ?_
      exact w_M_one_138 hfl K (1 : Int32) x3 M2 _ _ _ h (lv_sub hl [] rfl) hw
    · have h := h.2 hc
      exact w_M_one_136 hfl K x4 x3 M2 _ _ _ h (lv_sub hl [2] rfl) hw
theorem w_M_one_113 {post : Unit → nf_M → Prop} (hfl : l.flags = flags0) (K : nf_K p s m args meth c "NumberForgeModel" nb_M_one 5 none D a sz) : ∀ (x3 : Int32) (x4 : Int32) (xy0 : UInt64) (xy1 : UInt64) (xy2 : Int32) (M : nf_M) (H : Heap) (locs : List Loc) (ls : Array Slot), B_M_one_113 post x3 x4 xy0 xy1 xy2 M → lv_has ls 5 [(0, .ref (a 19)), (3, .int x3), (4, .int x4)] → nf_W D a s sz H locs M → W p l e rm_M_one s m args below meth c H locs 0 0 (nf_MQ below (nf_Q nf_jN D a post ex (nf_A a sz)) args s rm_M_one.cells rm_M_one.slots (nf_A a sz)) (F0 m 113 ls [.double xy0, .double xy1, .int xy2, .ref (a 19)]) := by
  have hx := K.1
  have hb := K.2.1
  intro x3 x4 xy0 xy1 xy2 M H locs ls h hl hw
  refine nf_callW (ex := (fun _ _ => False)) (As := [.ref (a 19), .int xy2, .double xy1, .double xy0]) (st0 := [.double xy0, .double xy1, .int xy2, .ref (a 19)]) (rest := []) K hw (nf_invV hx hb K.2.2.2.1 (nf_Kg K nw_1159) (nf_Kg K nw_1161) (nf_Kg K nx_M_oneReal) (nf_Kg K nw_1162) ⟨by decide, by decide⟩ (nf_rcv K hw 19 7 rfl rfl) rfl nl_M_oneReal rfl d_M_one_113) (c_M_oneReal l hfl xy2 xy1 xy0) nw_1162 nw_9 rfl ⟨by decide, by decide⟩ (Nat.le_of_ble_eq_true rfl) hl.1 ⟨Nat.le_of_ble_eq_true rfl, Nat.le_of_ble_eq_true rfl⟩ h (fun _ _ h => h.elim) (fun r1 M2 H locs h hw => ?_)
  refine W.eq (g2 := F0 m 116 ls []) rfl ?_
  exact w_M_one_116 hfl K x3 x4 M2 _ _ _ h (lv_sub hl [0, 1, 2] rfl) hw
theorem w_M_one_42 {post : Unit → nf_M → Prop} (hfl : l.flags = flags0) (K : nf_K p s m args meth c "NumberForgeModel" nb_M_one 5 none D a sz) : ∀ (x1 : Int32) (x2 : Int32) (x3 : Int32) (xy0 : Int32) (M : nf_M) (H : Heap) (locs : List Loc) (ls : Array Slot), B_M_one_42 post x1 x2 x3 xy0 M → lv_has ls 5 [(0, .ref (a 19)), (1, .int x1), (2, .int x2), (3, .int x3)] → nf_W D a s sz H locs M → W p l e rm_M_one s m args below meth c H locs 0 0 (nf_MQ below (nf_Q nf_jN D a post ex (nf_A a sz)) args s rm_M_one.cells rm_M_one.slots (nf_A a sz)) (F0 m 42 ls [.int xy0, .ref (a 19)]) := by
  have hx := K.1
  have hb := K.2.1
  intro x1 x2 x3 xy0 M H locs ls h hl hw
  refine nf_put (M' := ms_I M 19 0 xy0) K hw 19 7 0 nw_931 rfl rfl rfl ni_M ny_M nq_M nn_M (by decide) rfl rfl rfl rfl (Nat.le_of_ble_eq_true rfl) d_M_one_42 (fun H locs hw => ?_)
  obtain ⟨M1, eM1⟩ : ∃ z, z = ms_I M 19 0 xy0 := ⟨_, rfl⟩
  rw [← eM1] at hw
  have h := h M1 eM1
  refine lv_aload_n hx hb d_M_one_45 rfl (lv_at hl 0 rfl) ?_
  refine nf_get (v := .int (mg_I M1 19 0)) K hw 19 7 0 nw_931 rfl rfl ni_M (by decide) rfl rfl d_M_one_46 ?_
  refine nf_if_le hx hb d_M_one_49 (tgt := 53) (by decide) (fun hc => ?_) (fun hc => ?_)
  · have h := h.1 hc
    exact nf_vret K hw d_M_one_52 (Nat.le_of_ble_eq_true rfl) (Nat.le_of_ble_eq_true rfl) (r := ()) rfl h
  · have h := h.2 hc
    refine lv_aload_n hx hb d_M_one_53 rfl (lv_at hl 0 rfl) ?_
    refine nf_get (v := .ref (a 22)) K hw 19 7 5 nw_936 rfl rfl ni_M (by decide) rfl rfl d_M_one_54 ?_
    refine lv_iload_n hx hb d_M_one_57 rfl (lv_at hl 2 rfl) ?_
    obtain ⟨g2, h⟩ := h
    refine nf_iald K hw 22 5 rfl rfl g2 d_M_one_58 ?_
    refine lv_topi (fun t3 et3 => ?_)
    have h := h t3 et3
    refine lv_istore (lv' := [(4, .int t3), (0, .ref (a 19)), (1, .int x1), (2, .int x2), (3, .int x3)]) hx hb d_M_one_59 hl (by decide) rfl (fun ls hl => ?_)
    refine lv_iload hx hb d_M_one_61 (lv_at hl 0 rfl) ?_
    refine nf_callW (ex := (fun _ _ => False)) (As := [.int t3]) (st0 := [.int t3]) (rest := []) K hw (nf_invS hx hb K.2.2.2.1 (nf_Kg K nw_1011) (nf_Kg K nw_1012) (nf_Kg K nw_9) (nf_Kg K nw_1013) ⟨by decide, by decide⟩ rfl nl_M_isExact rfl d_M_one_63) (c_M_isExact l hfl t3) nw_1013 nw_9 rfl ⟨by decide, by decide⟩ (Nat.le_of_ble_eq_true rfl) hl.1 ⟨Nat.le_of_ble_eq_true rfl, Nat.le_of_ble_eq_true rfl⟩ h (fun _ _ h => h.elim) (fun r4 M5 H locs h hw => ?_)
    refine W.eq (g2 := F0 m 66 ls [.int r4]) rfl ?_
    refine nf_if_eq hx hb d_M_one_66 (tgt := 89) (by decide) (fun hc => ?_) (fun hc => ?_)
    · have h := h.1 hc
      refine lv_aload_n hx hb d_M_one_89 rfl (lv_at hl 1 rfl) ?_
      refine lv_iload_n hx hb d_M_one_90 rfl (lv_at hl 2 rfl) ?_
      refine lv_aload_n hx hb d_M_one_91 rfl (lv_at hl 1 rfl) ?_
      refine nf_get (v := .ref (a 25)) K hw 19 7 8 nw_939 rfl rfl ni_M (by decide) rfl rfl d_M_one_92 ?_
      refine lv_iload_n hx hb d_M_one_95 rfl (lv_at hl 3 rfl) ?_
      obtain ⟨g6, h⟩ := h
      refine nf_dald K hw 25 8 rfl rfl g6 d_M_one_96 ?_
      refine lv_iload hx hb d_M_one_97 (lv_at hl 0 rfl) ?_
      refine lv_bipush (v := (8 : Int32)) hx hb d_M_one_99 (by decide) ?_
      refine nf_ic_ne hx hb d_M_one_101 (tgt := 110) (by decide) (fun hc => ?_) (fun hc => ?_)
      · have h := h.1 hc
        refine lv_ldc2d (v := (4710765210229538816 : UInt64)) hx hb K.2.2.2.1 (nf_Kg K nw_1157) d_M_one_104 ?_
        refine lv_goto hx hb d_M_one_107 (tgt := 113) (by decide) ?_
        exact w_M_one_113 hfl K x3 t3 (4710765210229538816 : UInt64) (mg_D M5 25 x2.toNatClampNeg) x1 M5 _ _ _ h (lv_sub hl [1, 4, 0] rfl) hw
      · have h := h.2 hc
        refine lv_ldc2d (v := (4841369599423283200 : UInt64)) hx hb K.2.2.2.1 (nf_Kg K nw_1158) d_M_one_110 ?_
        exact w_M_one_113 hfl K x3 t3 (4841369599423283200 : UInt64) (mg_D M5 25 x2.toNatClampNeg) x1 M5 _ _ _ h (lv_sub hl [1, 4, 0] rfl) hw
    · have h := h.2 hc
      refine lv_aload_n hx hb d_M_one_69 rfl (lv_at hl 1 rfl) ?_
      refine lv_iload_n hx hb d_M_one_70 rfl (lv_at hl 2 rfl) ?_
      refine lv_aload_n hx hb d_M_one_71 rfl (lv_at hl 1 rfl) ?_
      refine nf_get (v := .ref (a 23)) K hw 19 7 6 nw_937 rfl rfl ni_M (by decide) rfl rfl d_M_one_72 ?_
      refine lv_iload_n hx hb d_M_one_75 rfl (lv_at hl 3 rfl) ?_
      obtain ⟨g7, h⟩ := h
      refine nf_lald K hw 23 6 rfl rfl g7 d_M_one_76 ?_
      refine lv_aload_n hx hb d_M_one_77 rfl (lv_at hl 1 rfl) ?_
      refine nf_get (v := .ref (a 24)) K hw 19 7 7 nw_938 rfl rfl ni_M (by decide) rfl rfl d_M_one_78 ?_
      refine lv_iload_n hx hb d_M_one_81 rfl (lv_at hl 3 rfl) ?_
      obtain ⟨g8, h⟩ := h
      refine nf_iald K hw 24 7 rfl rfl g8 d_M_one_82 ?_
      refine nf_callW (ex := (fun _ _ => False)) (As := [.ref (a 19), .int x1, .long (mg_L M5 23 x2.toNatClampNeg), .int (mg_I M5 24 x2.toNatClampNeg)]) (st0 := [.int (mg_I M5 24 x2.toNatClampNeg), .long (mg_L M5 23 x2.toNatClampNeg), .int x1, .ref (a 19)]) (rest := []) K hw (nf_invV hx hb K.2.2.2.1 (nf_Kg K nw_1152) (nf_Kg K nw_1154) (nf_Kg K nx_M_oneExact) (nf_Kg K nw_1155) ⟨by decide, by decide⟩ (nf_rcv K hw 19 7 rfl rfl) rfl nl_M_oneExact rfl d_M_one_83) (c_M_oneExact l hfl x1 (mg_L M5 23 x2.toNatClampNeg) (mg_I M5 24 x2.toNatClampNeg)) nw_1155 nw_9 rfl ⟨by decide, by decide⟩ (Nat.le_of_ble_eq_true rfl) hl.1 ⟨Nat.le_of_ble_eq_true rfl, Nat.le_of_ble_eq_true rfl⟩ h (fun _ _ h => h.elim) (fun r9 M10 H locs h hw => ?_)
      refine W.eq (g2 := F0 m 86 ls []) rfl ?_
      refine lv_goto hx hb d_M_one_86 (tgt := 116) (by decide) ?_
      exact w_M_one_116 hfl K x3 t3 M10 _ _ _ h (lv_sub hl [1, 4, 0] rfl) hw
theorem w_M_one_24 {post : Unit → nf_M → Prop} (hfl : l.flags = flags0) (K : nf_K p s m args meth c "NumberForgeModel" nb_M_one 5 none D a sz) : ∀ (x1 : Int32) (x2 : Int32) (x3 : Int32) (M : nf_M) (H : Heap) (locs : List Loc) (ls : Array Slot), B_M_one_24 post x1 x2 x3 M → lv_has ls 5 [(0, .ref (a 19)), (1, .int x1), (2, .int x2), (3, .int x3)] → nf_W D a s sz H locs M → W p l e rm_M_one s m args below meth c H locs 0 0 (nf_MQ below (nf_Q nf_jN D a post ex (nf_A a sz)) args s rm_M_one.cells rm_M_one.slots (nf_A a sz)) (F0 m 24 ls [.ref (a 19)]) := by
  have hx := K.1
  have hb := K.2.1
  intro x1 x2 x3 M H locs ls h hl hw
  refine lv_iconst (v := (1 : Int32)) hx hb d_M_one_24 (by decide) ?_
  refine lv_goto hx hb d_M_one_25 (tgt := 42) (by decide) ?_
  exact w_M_one_42 hfl K x1 x2 x3 (1 : Int32) M _ _ _ h (lv_sub hl [0, 1, 2, 3] rfl) hw
theorem c_M_one (l : Launch) (hfl : l.flags = flags0) (x1 : Int32) (x2 : Int32) (x3 : Int32) : nf_C nf_jN l nm_M_one nb_M_one 5 none rm_M_one (fun a => [.ref (a 19), .int x1, .int x2, .int x3]) (fun M post ex => P_M_one x1 x2 x3 M post) := by
  refine nf_start (plainFor_of_name (by decide +kernel)) (fun a => Nat.le_of_ble_eq_true rfl) ?_
  intro D a sz M post ex p e s m below meth c ls h K hl hw
  have hx := K.1
  have hb := K.2.1
  have hl : lv_has ls 5 [(0, .ref (a 19)), (1, .int x1), (2, .int x2), (3, .int x3)] := hl
  refine lv_aload_n hx hb d_M_one_0 rfl (lv_at hl 0 rfl) ?_
  refine lv_iload_n hx hb d_M_one_1 rfl (lv_at hl 2 rfl) ?_
  refine nf_callW (ex := (fun _ _ => False)) (As := [.int x2]) (st0 := [.int x2, .ref (a 19)]) (rest := [.ref (a 19)]) K hw (nf_invS hx hb K.2.2.2.1 (nf_Kg K nw_1008) (nf_Kg K nw_1009) (nf_Kg K nw_9) (nf_Kg K nw_1010) ⟨by decide, by decide⟩ rfl nl_M_isRegister rfl d_M_one_2) (c_M_isRegister l hfl x2) nw_1010 nw_9 rfl ⟨by decide, by decide⟩ (Nat.le_of_ble_eq_true rfl) hl.1 ⟨Nat.le_of_ble_eq_true rfl, Nat.le_of_ble_eq_true rfl⟩ h (fun _ _ h => h.elim) (fun r1 M2 H locs h hw => ?_)
  refine W.eq (g2 := F0 m 5 ls [.int r1, .ref (a 19)]) rfl ?_
  refine nf_if_eq hx hb d_M_one_5 (tgt := 24) (by decide) (fun hc => ?_) (fun hc => ?_)
  · have h := h.1 hc
    exact w_M_one_24 hfl K x1 x2 x3 M2 _ _ _ h (lv_sub hl [0, 1, 2, 3] rfl) hw
  · have h := h.2 hc
    refine lv_iload_n hx hb d_M_one_8 rfl (lv_at hl 3 rfl) ?_
    refine nf_callW (ex := (fun _ _ => False)) (As := [.int x3]) (st0 := [.int x3, .ref (a 19)]) (rest := [.ref (a 19)]) K hw (nf_invS hx hb K.2.2.2.1 (nf_Kg K nw_1008) (nf_Kg K nw_1009) (nf_Kg K nw_9) (nf_Kg K nw_1010) ⟨by decide, by decide⟩ rfl nl_M_isRegister rfl d_M_one_9) (c_M_isRegister l hfl x3) nw_1010 nw_9 rfl ⟨by decide, by decide⟩ (Nat.le_of_ble_eq_true rfl) hl.1 ⟨Nat.le_of_ble_eq_true rfl, Nat.le_of_ble_eq_true rfl⟩ h (fun _ _ h => h.elim) (fun r3 M4 H locs h hw => ?_)
    refine W.eq (g2 := F0 m 12 ls [.int r3, .ref (a 19)]) rfl ?_
    refine nf_if_eq hx hb d_M_one_12 (tgt := 24) (by decide) (fun hc => ?_) (fun hc => ?_)
    · have h := h.1 hc
      exact w_M_one_24 hfl K x1 x2 x3 M4 _ _ _ h (lv_sub hl [0, 1, 2, 3] rfl) hw
    · have h := h.2 hc
      refine lv_iload_n hx hb d_M_one_15 rfl (lv_at hl 1 rfl) ?_
      refine nf_if_lt hx hb d_M_one_16 (tgt := 24) (by decide) (fun hc => ?_) (fun hc => ?_)
      · have h := h.1 hc
        exact w_M_one_24 hfl K x1 x2 x3 M4 _ _ _ h (lv_sub hl [0, 1, 2, 3] rfl) hw
      · have h := h.2 hc
        refine lv_iload_n hx hb d_M_one_19 rfl (lv_at hl 1 rfl) ?_
        refine lv_iconst (v := (5 : Int32)) hx hb d_M_one_20 (by decide) ?_
        refine nf_ic_le hx hb d_M_one_21 (tgt := 28) (by decide) (fun hc => ?_) (fun hc => ?_)
        · have h := h.1 hc
          exact w_M_one_24 hfl K x1 x2 x3 M4 _ _ _ h (lv_sub hl [0, 1, 2, 3] rfl) hw
        · have h := h.2 hc
          refine lv_aload_n hx hb d_M_one_28 rfl (lv_at hl 0 rfl) ?_
          refine nf_get (v := .ref (a 22)) K hw 19 7 5 nw_936 rfl rfl ni_M (by decide) rfl rfl d_M_one_29 ?_
          refine lv_iload_n hx hb d_M_one_32 rfl (lv_at hl 2 rfl) ?_
          obtain ⟨g5, h⟩ := h
          refine nf_iald K hw 22 5 rfl rfl g5 d_M_one_33 ?_
          refine nf_if_ge hx hb d_M_one_34 (tgt := 41) (by decide) (fun hc => ?_) (fun hc => ?_)
          · have h := h.1 hc
            refine lv_iconst (v := (2 : Int32)) hx hb d_M_one_37 (by decide) ?_
            refine lv_goto hx hb d_M_one_38 (tgt := 42) (by decide) ?_
            exact w_M_one_42 hfl K x1 x2 x3 (2 : Int32) M4 _ _ _ h (lv_sub hl [0, 1, 2, 3] rfl) hw
          · have h := h.2 hc
            refine lv_iconst (v := (0 : Int32)) hx hb d_M_one_41 (by decide) ?_
            exact w_M_one_42 hfl K x1 x2 x3 (0 : Int32) M4 _ _ _ h (lv_sub hl [0, 1, 2, 3] rfl) hw
theorem d_M_even_0 : decode nb_M_even 0 = .ok (.dload_n 0, 1) := by decide +kernel
theorem d_M_even_1 : decode nb_M_even 1 = .ok (.invokestatic 215, 3) := by decide +kernel
theorem d_M_even_4 : decode nb_M_even 4 = .ok (.dstore_n 2, 1) := by decide +kernel
theorem d_M_even_5 : decode nb_M_even 5 = .ok (.dload_n 0, 1) := by decide +kernel
theorem d_M_even_6 : decode nb_M_even 6 = .ok (.dload_n 2, 1) := by decide +kernel
theorem d_M_even_7 : decode nb_M_even 7 = .ok (.dsub, 1) := by decide +kernel
theorem d_M_even_8 : decode nb_M_even 8 = .ok (.dstore 4, 2) := by decide +kernel
theorem d_M_even_10 : decode nb_M_even 10 = .ok (.dload_n 2, 1) := by decide +kernel
theorem d_M_even_11 : decode nb_M_even 11 = .ok (.d2l, 1) := by decide +kernel
theorem d_M_even_12 : decode nb_M_even 12 = .ok (.lstore 6, 2) := by decide +kernel
theorem d_M_even_14 : decode nb_M_even 14 = .ok (.dload 4, 2) := by decide +kernel
theorem d_M_even_16 : decode nb_M_even 16 = .ok (.ldc2_w 221, 3) := by decide +kernel
theorem d_M_even_19 : decode nb_M_even 19 = .ok (.dcmp .l, 1) := by decide +kernel
theorem d_M_even_20 : decode nb_M_even 20 = .ok (.ifCond .gt 23, 3) := by decide +kernel
theorem d_M_even_23 : decode nb_M_even 23 = .ok (.dload 4, 2) := by decide +kernel
theorem d_M_even_25 : decode nb_M_even 25 = .ok (.ldc2_w 221, 3) := by decide +kernel
theorem d_M_even_28 : decode nb_M_even 28 = .ok (.dcmp .l, 1) := by decide +kernel
theorem d_M_even_29 : decode nb_M_even 29 = .ok (.ifCond .ne 21, 3) := by decide +kernel
theorem d_M_even_32 : decode nb_M_even 32 = .ok (.lload 6, 2) := by decide +kernel
theorem d_M_even_34 : decode nb_M_even 34 = .ok (.ldc2_w 219, 3) := by decide +kernel
theorem d_M_even_37 : decode nb_M_even 37 = .ok (.lrem, 1) := by decide +kernel
theorem d_M_even_38 : decode nb_M_even 38 = .ok (.lconst 0, 1) := by decide +kernel
theorem d_M_even_39 : decode nb_M_even 39 = .ok (.lcmp, 1) := by decide +kernel
theorem d_M_even_40 : decode nb_M_even 40 = .ok (.ifCond .eq 10, 3) := by decide +kernel
theorem d_M_even_43 : decode nb_M_even 43 = .ok (.lload 6, 2) := by decide +kernel
theorem d_M_even_45 : decode nb_M_even 45 = .ok (.lconst 1, 1) := by decide +kernel
theorem d_M_even_46 : decode nb_M_even 46 = .ok (.ladd, 1) := by decide +kernel
theorem d_M_even_47 : decode nb_M_even 47 = .ok (.goto 5, 3) := by decide +kernel
theorem d_M_even_50 : decode nb_M_even 50 = .ok (.lload 6, 2) := by decide +kernel
theorem d_M_even_52 : decode nb_M_even 52 = .ok (.lreturn, 1) := by decide +kernel
abbrev rm_M_even : Room := ({ frames := 1, cells := 0, slots := 0, locals := 23 })
theorem w_M_even_52 {post : Int64 → nf_M → Prop} (hfl : l.flags = flags0) (K : nf_K p s m args meth c "NumberForgeModel" nb_M_even 8 (some FieldType.long) D a sz) : ∀ (xy0 : Int64) (M : nf_M) (H : Heap) (locs : List Loc) (ls : Array Slot), B_M_even_52 post xy0 M → lv_has ls 8 [] → nf_W D a s sz H locs M → W p l e rm_M_even s m args below meth c H locs 0 0 (nf_MQ below (nf_Q nf_jJ D a post ex (nf_A a sz)) args s rm_M_even.cells rm_M_even.slots (nf_A a sz)) (F0 m 52 ls [.long xy0]) := by
  have hx := K.1
  have hb := K.2.1
  intro xy0 M H locs ls h hl hw
  exact nf_lret K hw d_M_even_52 (Nat.le_of_ble_eq_true rfl) (Nat.le_of_ble_eq_true rfl) (r := xy0) rfl h
theorem w_M_even_43 {post : Int64 → nf_M → Prop} (hfl : l.flags = flags0) (K : nf_K p s m args meth c "NumberForgeModel" nb_M_even 8 (some FieldType.long) D a sz) : ∀ (x6 : Int64) (M : nf_M) (H : Heap) (locs : List Loc) (ls : Array Slot), B_M_even_43 post x6 M → lv_has ls 8 [(6, .long x6)] → nf_W D a s sz H locs M → W p l e rm_M_even s m args below meth c H locs 0 0 (nf_MQ below (nf_Q nf_jJ D a post ex (nf_A a sz)) args s rm_M_even.cells rm_M_even.slots (nf_A a sz)) (F0 m 43 ls []) := by
  have hx := K.1
  have hb := K.2.1
  intro x6 M H locs ls h hl hw
  refine lv_lload hx hb d_M_even_43 (lv_at hl 0 rfl) ?_
  refine lv_lconst (v := (1 : Int64)) hx hb d_M_even_45 (by decide) ?_
  refine lv_ladd hx hb d_M_even_46 ?_
  refine lv_goto hx hb d_M_even_47 (tgt := 52) (by decide) ?_
  exact w_M_even_52 hfl K (x6 + (1 : Int64)) M _ _ _ h (lv_sub hl [] rfl) hw
theorem w_M_even_50 {post : Int64 → nf_M → Prop} (hfl : l.flags = flags0) (K : nf_K p s m args meth c "NumberForgeModel" nb_M_even 8 (some FieldType.long) D a sz) : ∀ (x6 : Int64) (M : nf_M) (H : Heap) (locs : List Loc) (ls : Array Slot), B_M_even_50 post x6 M → lv_has ls 8 [(6, .long x6)] → nf_W D a s sz H locs M → W p l e rm_M_even s m args below meth c H locs 0 0 (nf_MQ below (nf_Q nf_jJ D a post ex (nf_A a sz)) args s rm_M_even.cells rm_M_even.slots (nf_A a sz)) (F0 m 50 ls []) := by
  have hx := K.1
  have hb := K.2.1
  intro x6 M H locs ls h hl hw
  refine lv_lload hx hb d_M_even_50 (lv_at hl 0 rfl) ?_
  exact w_M_even_52 hfl K x6 M _ _ _ h (lv_sub hl [] rfl) hw
theorem c_M_even (l : Launch) (hfl : l.flags = flags0) (x0 : UInt64) : nf_C nf_jJ l nm_M_even nb_M_even 8 (some FieldType.long) rm_M_even (fun a => [.double x0]) (fun M post ex => P_M_even x0 M post) := by
  refine nf_start (plainFor_of_name (by decide +kernel)) (fun a => Nat.le_of_ble_eq_true rfl) ?_
  intro D a sz M post ex p e s m below meth c ls h K hl hw
  have hx := K.1
  have hb := K.2.1
  have hl : lv_has ls 8 [(0, .double x0)] := hl
  refine lv_dload_n hx hb d_M_even_0 rfl (lv_at hl 0 rfl) ?_
  refine nf_callW (ex := (fun _ _ => False)) (As := [.double x0]) (st0 := [.double x0]) (rest := []) K hw (nf_invS hx hb K.2.2.2.1 (nf_Kg K nw_1163) (nf_Kg K nw_1164) (nf_Kg K nw_9) (nf_Kg K nw_1165) ⟨by decide, by decide⟩ rfl nl_M_floor rfl d_M_even_1) (c_M_floor l hfl x0) nw_1165 nw_9 rfl ⟨by decide, by decide⟩ (Nat.le_of_ble_eq_true rfl) hl.1 ⟨Nat.le_of_ble_eq_true rfl, Nat.le_of_ble_eq_true rfl⟩ h (fun _ _ h => h.elim) (fun r1 M2 H locs h hw => ?_)
  refine W.eq (g2 := F0 m 4 ls [.double r1]) rfl ?_
  refine lv_dstore_n (lv' := [(2, .double r1), (0, .double x0)]) hx hb d_M_even_4 rfl hl (by decide) rfl (fun ls hl => ?_)
  refine lv_dload_n hx hb d_M_even_5 rfl (lv_at hl 1 rfl) ?_
  refine lv_dload_n hx hb d_M_even_6 rfl (lv_at hl 0 rfl) ?_
  obtain ⟨g3, h⟩ := h
  refine lv_dsub hx hb d_M_even_7 g3 ?_
  refine lv_topd (fun t4 et4 => ?_)
  have h := h t4 et4
  refine lv_dstore (lv' := [(4, .double t4), (2, .double r1), (0, .double x0)]) hx hb d_M_even_8 hl (by decide) rfl (fun ls hl => ?_)
  refine lv_dload_n hx hb d_M_even_10 rfl (lv_at hl 1 rfl) ?_
  refine lv_d2l hx hb d_M_even_11 ?_
  refine lv_topl (fun t5 et5 => ?_)
  have h := h t5 et5
  refine lv_lstore (lv' := [(6, .long t5), (4, .double t4), (2, .double r1), (0, .double x0)]) hx hb d_M_even_12 hl (by decide) rfl (fun ls hl => ?_)
  refine lv_dload hx hb d_M_even_14 (lv_at hl 1 rfl) ?_
  refine lv_ldc2d (v := (4602678819172646912 : UInt64)) hx hb K.2.2.2.1 (nf_Kg K nw_1166) d_M_even_16 ?_
  refine nf_dl_gt hx hb d_M_even_19 d_M_even_20 (tgt := 43) (by decide) (fun hc => ?_) (fun hc => ?_)
  · have h := h.1 hc
    exact w_M_even_43 hfl K t5 M2 _ _ _ h (lv_sub hl [0] rfl) hw
  · have h := h.2 hc
    refine lv_dload hx hb d_M_even_23 (lv_at hl 1 rfl) ?_
    refine lv_ldc2d (v := (4602678819172646912 : UInt64)) hx hb K.2.2.2.1 (nf_Kg K nw_1166) d_M_even_25 ?_
    refine nf_dl_ne hx hb d_M_even_28 d_M_even_29 (tgt := 50) (by decide) (fun hc => ?_) (fun hc => ?_)
    · have h := h.1 hc
      refine lv_lload hx hb d_M_even_32 (lv_at hl 0 rfl) ?_
      refine lv_ldc2 (v := (2 : Int64)) hx hb K.2.2.2.1 (nf_Kg K nw_1156) d_M_even_34 ?_
      refine lv_lrem hx hb d_M_even_37 (by decide) ?_
      refine lv_lconst (v := (0 : Int64)) hx hb d_M_even_38 (by decide) ?_
      refine nf_lc_eq hx hb d_M_even_39 d_M_even_40 (tgt := 50) (by decide) (fun hc => ?_) (fun hc => ?_)
      · have h := h.1 hc
        exact w_M_even_50 hfl K t5 M2 _ _ _ h (lv_sub hl [0] rfl) hw
      · have h := h.2 hc
        exact w_M_even_43 hfl K t5 M2 _ _ _ h (lv_sub hl [0] rfl) hw
    · have h := h.2 hc
      exact w_M_even_50 hfl K t5 M2 _ _ _ h (lv_sub hl [0] rfl) hw
theorem d_M_castTo_0 : decode nb_M_castTo 0 = .ok (.aload_n 0, 1) := by decide +kernel
theorem d_M_castTo_1 : decode nb_M_castTo 1 = .ok (.iconst 0, 1) := by decide +kernel
theorem d_M_castTo_2 : decode nb_M_castTo 2 = .ok (.putfield 67, 3) := by decide +kernel
theorem d_M_castTo_5 : decode nb_M_castTo 5 = .ok (.iload_n 2, 1) := by decide +kernel
theorem d_M_castTo_6 : decode nb_M_castTo 6 = .ok (.invokestatic 145, 3) := by decide +kernel
theorem d_M_castTo_9 : decode nb_M_castTo 9 = .ok (.ifCond .ne 29, 3) := by decide +kernel
theorem d_M_castTo_12 : decode nb_M_castTo 12 = .ok (.aload_n 0, 1) := by decide +kernel
theorem d_M_castTo_13 : decode nb_M_castTo 13 = .ok (.iload_n 2, 1) := by decide +kernel
theorem d_M_castTo_14 : decode nb_M_castTo 14 = .ok (.bipush 8, 2) := by decide +kernel
theorem d_M_castTo_16 : decode nb_M_castTo 16 = .ok (.if_icmp .ne 13, 3) := by decide +kernel
theorem d_M_castTo_19 : decode nb_M_castTo 19 = .ok (.aload_n 0, 1) := by decide +kernel
theorem d_M_castTo_20 : decode nb_M_castTo 20 = .ok (.iload_n 1, 1) := by decide +kernel
theorem d_M_castTo_21 : decode nb_M_castTo 21 = .ok (.invokevirtual 200, 3) := by decide +kernel
theorem d_M_castTo_24 : decode nb_M_castTo 24 = .ok (.d2f, 1) := by decide +kernel
theorem d_M_castTo_25 : decode nb_M_castTo 25 = .ok (.f2d, 1) := by decide +kernel
theorem d_M_castTo_26 : decode nb_M_castTo 26 = .ok (.goto 8, 3) := by decide +kernel
theorem d_M_castTo_29 : decode nb_M_castTo 29 = .ok (.aload_n 0, 1) := by decide +kernel
theorem d_M_castTo_30 : decode nb_M_castTo 30 = .ok (.iload_n 1, 1) := by decide +kernel
theorem d_M_castTo_31 : decode nb_M_castTo 31 = .ok (.invokevirtual 200, 3) := by decide +kernel
theorem d_M_castTo_34 : decode nb_M_castTo 34 = .ok (.putfield 134, 3) := by decide +kernel
theorem d_M_castTo_37 : decode nb_M_castTo 37 = .ok (.return_, 1) := by decide +kernel
theorem d_M_castTo_38 : decode nb_M_castTo 38 = .ok (.aload_n 0, 1) := by decide +kernel
theorem d_M_castTo_39 : decode nb_M_castTo 39 = .ok (.getfield 16, 3) := by decide +kernel
theorem d_M_castTo_42 : decode nb_M_castTo 42 = .ok (.iload_n 1, 1) := by decide +kernel
theorem d_M_castTo_43 : decode nb_M_castTo 43 = .ok (.iaload, 1) := by decide +kernel
theorem d_M_castTo_44 : decode nb_M_castTo 44 = .ok (.invokestatic 145, 3) := by decide +kernel
theorem d_M_castTo_47 : decode nb_M_castTo 47 = .ok (.ifCond .eq 57, 3) := by decide +kernel
theorem d_M_castTo_50 : decode nb_M_castTo 50 = .ok (.aload_n 0, 1) := by decide +kernel
theorem d_M_castTo_51 : decode nb_M_castTo 51 = .ok (.iload_n 2, 1) := by decide +kernel
theorem d_M_castTo_52 : decode nb_M_castTo 52 = .ok (.ifCond .ne 12, 3) := by decide +kernel
theorem d_M_castTo_55 : decode nb_M_castTo 55 = .ok (.aload_n 0, 1) := by decide +kernel
theorem d_M_castTo_56 : decode nb_M_castTo 56 = .ok (.getfield 19, 3) := by decide +kernel
theorem d_M_castTo_59 : decode nb_M_castTo 59 = .ok (.iload_n 1, 1) := by decide +kernel
theorem d_M_castTo_60 : decode nb_M_castTo 60 = .ok (.laload, 1) := by decide +kernel
theorem d_M_castTo_61 : decode nb_M_castTo 61 = .ok (.goto 19, 3) := by decide +kernel
theorem d_M_castTo_64 : decode nb_M_castTo 64 = .ok (.aload_n 0, 1) := by decide +kernel
theorem d_M_castTo_65 : decode nb_M_castTo 65 = .ok (.getfield 19, 3) := by decide +kernel
theorem d_M_castTo_68 : decode nb_M_castTo 68 = .ok (.iload_n 1, 1) := by decide +kernel
theorem d_M_castTo_69 : decode nb_M_castTo 69 = .ok (.laload, 1) := by decide +kernel
theorem d_M_castTo_70 : decode nb_M_castTo 70 = .ok (.aload_n 0, 1) := by decide +kernel
theorem d_M_castTo_71 : decode nb_M_castTo 71 = .ok (.getfield 23, 3) := by decide +kernel
theorem d_M_castTo_74 : decode nb_M_castTo 74 = .ok (.iload_n 1, 1) := by decide +kernel
theorem d_M_castTo_75 : decode nb_M_castTo 75 = .ok (.iaload, 1) := by decide +kernel
theorem d_M_castTo_76 : decode nb_M_castTo 76 = .ok (.invokestatic 42, 3) := by decide +kernel
theorem d_M_castTo_79 : decode nb_M_castTo 79 = .ok (.ldiv, 1) := by decide +kernel
theorem d_M_castTo_80 : decode nb_M_castTo 80 = .ok (.putfield 74, 3) := by decide +kernel
theorem d_M_castTo_83 : decode nb_M_castTo 83 = .ok (.aload_n 0, 1) := by decide +kernel
theorem d_M_castTo_84 : decode nb_M_castTo 84 = .ok (.iload_n 2, 1) := by decide +kernel
theorem d_M_castTo_85 : decode nb_M_castTo 85 = .ok (.ifCond .ne 12, 3) := by decide +kernel
theorem d_M_castTo_88 : decode nb_M_castTo 88 = .ok (.aload_n 0, 1) := by decide +kernel
theorem d_M_castTo_89 : decode nb_M_castTo 89 = .ok (.getfield 23, 3) := by decide +kernel
theorem d_M_castTo_92 : decode nb_M_castTo 92 = .ok (.iload_n 1, 1) := by decide +kernel
theorem d_M_castTo_93 : decode nb_M_castTo 93 = .ok (.iaload, 1) := by decide +kernel
theorem d_M_castTo_94 : decode nb_M_castTo 94 = .ok (.goto 4, 3) := by decide +kernel
theorem d_M_castTo_97 : decode nb_M_castTo 97 = .ok (.iconst 0, 1) := by decide +kernel
theorem d_M_castTo_98 : decode nb_M_castTo 98 = .ok (.putfield 78, 3) := by decide +kernel
theorem d_M_castTo_101 : decode nb_M_castTo 101 = .ok (.goto 69, 3) := by decide +kernel
theorem d_M_castTo_104 : decode nb_M_castTo 104 = .ok (.aload_n 0, 1) := by decide +kernel
theorem d_M_castTo_105 : decode nb_M_castTo 105 = .ok (.aload_n 0, 1) := by decide +kernel
theorem d_M_castTo_106 : decode nb_M_castTo 106 = .ok (.getfield 26, 3) := by decide +kernel
theorem d_M_castTo_109 : decode nb_M_castTo 109 = .ok (.iload_n 1, 1) := by decide +kernel
theorem d_M_castTo_110 : decode nb_M_castTo 110 = .ok (.daload, 1) := by decide +kernel
theorem d_M_castTo_111 : decode nb_M_castTo 111 = .ok (.invokevirtual 178, 3) := by decide +kernel
theorem d_M_castTo_114 : decode nb_M_castTo 114 = .ok (.aload_n 0, 1) := by decide +kernel
theorem d_M_castTo_115 : decode nb_M_castTo 115 = .ok (.getfield 67, 3) := by decide +kernel
theorem d_M_castTo_118 : decode nb_M_castTo 118 = .ok (.ifCond .ne 52, 3) := by decide +kernel
theorem d_M_castTo_121 : decode nb_M_castTo 121 = .ok (.iload_n 2, 1) := by decide +kernel
theorem d_M_castTo_122 : decode nb_M_castTo 122 = .ok (.ifCond .ne 48, 3) := by decide +kernel
theorem d_M_castTo_125 : decode nb_M_castTo 125 = .ok (.aload_n 0, 1) := by decide +kernel
theorem d_M_castTo_126 : decode nb_M_castTo 126 = .ok (.getfield 26, 3) := by decide +kernel
theorem d_M_castTo_129 : decode nb_M_castTo 129 = .ok (.iload_n 1, 1) := by decide +kernel
theorem d_M_castTo_130 : decode nb_M_castTo 130 = .ok (.daload, 1) := by decide +kernel
theorem d_M_castTo_131 : decode nb_M_castTo 131 = .ok (.ldc2_w 236, 3) := by decide +kernel
theorem d_M_castTo_134 : decode nb_M_castTo 134 = .ok (.dcmp .g, 1) := by decide +kernel
theorem d_M_castTo_135 : decode nb_M_castTo 135 = .ok (.ifCond .ge 35, 3) := by decide +kernel
theorem d_M_castTo_138 : decode nb_M_castTo 138 = .ok (.aload_n 0, 1) := by decide +kernel
theorem d_M_castTo_139 : decode nb_M_castTo 139 = .ok (.getfield 26, 3) := by decide +kernel
theorem d_M_castTo_142 : decode nb_M_castTo 142 = .ok (.iload_n 1, 1) := by decide +kernel
theorem d_M_castTo_143 : decode nb_M_castTo 143 = .ok (.daload, 1) := by decide +kernel
theorem d_M_castTo_144 : decode nb_M_castTo 144 = .ok (.ldc2_w 238, 3) := by decide +kernel
theorem d_M_castTo_147 : decode nb_M_castTo 147 = .ok (.dcmp .l, 1) := by decide +kernel
theorem d_M_castTo_148 : decode nb_M_castTo 148 = .ok (.ifCond .le 22, 3) := by decide +kernel
theorem d_M_castTo_151 : decode nb_M_castTo 151 = .ok (.aload_n 0, 1) := by decide +kernel
theorem d_M_castTo_152 : decode nb_M_castTo 152 = .ok (.aload_n 0, 1) := by decide +kernel
theorem d_M_castTo_153 : decode nb_M_castTo 153 = .ok (.getfield 26, 3) := by decide +kernel
theorem d_M_castTo_156 : decode nb_M_castTo 156 = .ok (.iload_n 1, 1) := by decide +kernel
theorem d_M_castTo_157 : decode nb_M_castTo 157 = .ok (.daload, 1) := by decide +kernel
theorem d_M_castTo_158 : decode nb_M_castTo 158 = .ok (.ldc2_w 240, 3) := by decide +kernel
theorem d_M_castTo_161 : decode nb_M_castTo 161 = .ok (.dmul, 1) := by decide +kernel
theorem d_M_castTo_162 : decode nb_M_castTo 162 = .ok (.invokestatic 242, 3) := by decide +kernel
theorem d_M_castTo_165 : decode nb_M_castTo 165 = .ok (.bipush 6, 2) := by decide +kernel
theorem d_M_castTo_167 : decode nb_M_castTo 167 = .ok (.invokevirtual 101, 3) := by decide +kernel
theorem d_M_castTo_170 : decode nb_M_castTo 170 = .ok (.aload_n 0, 1) := by decide +kernel
theorem d_M_castTo_171 : decode nb_M_castTo 171 = .ok (.aload_n 0, 1) := by decide +kernel
theorem d_M_castTo_172 : decode nb_M_castTo 172 = .ok (.getfield 67, 3) := by decide +kernel
theorem d_M_castTo_175 : decode nb_M_castTo 175 = .ok (.ifCond .ne 18, 3) := by decide +kernel
theorem d_M_castTo_178 : decode nb_M_castTo 178 = .ok (.iload_n 2, 1) := by decide +kernel
theorem d_M_castTo_179 : decode nb_M_castTo 179 = .ok (.aload_n 0, 1) := by decide +kernel
theorem d_M_castTo_180 : decode nb_M_castTo 180 = .ok (.getfield 74, 3) := by decide +kernel
theorem d_M_castTo_183 : decode nb_M_castTo 183 = .ok (.invokestatic 122, 3) := by decide +kernel
theorem d_M_castTo_186 : decode nb_M_castTo 186 = .ok (.ifCond .ne 7, 3) := by decide +kernel
theorem d_M_castTo_189 : decode nb_M_castTo 189 = .ok (.iconst 3, 1) := by decide +kernel
theorem d_M_castTo_190 : decode nb_M_castTo 190 = .ok (.goto 7, 3) := by decide +kernel
theorem d_M_castTo_193 : decode nb_M_castTo 193 = .ok (.aload_n 0, 1) := by decide +kernel
theorem d_M_castTo_194 : decode nb_M_castTo 194 = .ok (.getfield 67, 3) := by decide +kernel
theorem d_M_castTo_197 : decode nb_M_castTo 197 = .ok (.putfield 67, 3) := by decide +kernel
theorem d_M_castTo_200 : decode nb_M_castTo 200 = .ok (.return_, 1) := by decide +kernel
abbrev rm_M_castTo : Room := ({ frames := 3, cells := 0, slots := 0, locals := 74 })
theorem w_M_castTo_34 {post : Unit → nf_M → Prop} (hfl : l.flags = flags0) (K : nf_K p s m args meth c "NumberForgeModel" nb_M_castTo 3 none D a sz) : ∀ (xy0 : UInt64) (M : nf_M) (H : Heap) (locs : List Loc) (ls : Array Slot), B_M_castTo_34 post xy0 M → lv_has ls 3 [] → nf_W D a s sz H locs M → W p l e rm_M_castTo s m args below meth c H locs 0 0 (nf_MQ below (nf_Q nf_jN D a post ex (nf_A a sz)) args s rm_M_castTo.cells rm_M_castTo.slots (nf_A a sz)) (F0 m 34 ls [.double xy0, .ref (a 19)]) := by
  have hx := K.1
  have hb := K.2.1
  intro xy0 M H locs ls h hl hw
  refine nf_put (M' := ms_D M 19 12 xy0) K hw 19 7 12 nw_943 rfl rfl rfl ni_M ny_M nq_M nn_M (by decide) rfl rfl rfl rfl (Nat.le_of_ble_eq_true rfl) d_M_castTo_34 (fun H locs hw => ?_)
  obtain ⟨M1, eM1⟩ : ∃ z, z = ms_D M 19 12 xy0 := ⟨_, rfl⟩
  rw [← eM1] at hw
  have h := h M1 eM1
  exact nf_vret K hw d_M_castTo_37 (Nat.le_of_ble_eq_true rfl) (Nat.le_of_ble_eq_true rfl) (r := ()) rfl h
theorem w_M_castTo_197 {post : Unit → nf_M → Prop} (hfl : l.flags = flags0) (K : nf_K p s m args meth c "NumberForgeModel" nb_M_castTo 3 none D a sz) : ∀ (xy0 : Int32) (M : nf_M) (H : Heap) (locs : List Loc) (ls : Array Slot), B_M_castTo_197 post xy0 M → lv_has ls 3 [] → nf_W D a s sz H locs M → W p l e rm_M_castTo s m args below meth c H locs 0 0 (nf_MQ below (nf_Q nf_jN D a post ex (nf_A a sz)) args s rm_M_castTo.cells rm_M_castTo.slots (nf_A a sz)) (F0 m 197 ls [.int xy0, .ref (a 19)]) := by
  have hx := K.1
  have hb := K.2.1
  intro xy0 M H locs ls h hl hw
  refine nf_put (M' := ms_I M 19 9 xy0) K hw 19 7 9 nw_940 rfl rfl rfl ni_M ny_M nq_M nn_M (by decide) rfl rfl rfl rfl (Nat.le_of_ble_eq_true rfl) d_M_castTo_197 (fun H locs hw => ?_)
  obtain ⟨M1, eM1⟩ : ∃ z, z = ms_I M 19 9 xy0 := ⟨_, rfl⟩
  rw [← eM1] at hw
  have h := h M1 eM1
  exact nf_vret K hw d_M_castTo_200 (Nat.le_of_ble_eq_true rfl) (Nat.le_of_ble_eq_true rfl) (r := ()) rfl h
theorem w_M_castTo_193 {post : Unit → nf_M → Prop} (hfl : l.flags = flags0) (K : nf_K p s m args meth c "NumberForgeModel" nb_M_castTo 3 none D a sz) : ∀ (M : nf_M) (H : Heap) (locs : List Loc) (ls : Array Slot), B_M_castTo_193 post  M → lv_has ls 3 [(0, .ref (a 19))] → nf_W D a s sz H locs M → W p l e rm_M_castTo s m args below meth c H locs 0 0 (nf_MQ below (nf_Q nf_jN D a post ex (nf_A a sz)) args s rm_M_castTo.cells rm_M_castTo.slots (nf_A a sz)) (F0 m 193 ls [.ref (a 19)]) := by
  have hx := K.1
  have hb := K.2.1
  intro  M H locs ls h hl hw
  refine lv_aload_n hx hb d_M_castTo_193 rfl (lv_at hl 0 rfl) ?_
  refine nf_get (v := .int (mg_I M 19 9)) K hw 19 7 9 nw_940 rfl rfl ni_M (by decide) rfl rfl d_M_castTo_194 ?_
  exact w_M_castTo_197 hfl K (mg_I M 19 9) M _ _ _ h (lv_sub hl [] rfl) hw
theorem w_M_castTo_170 {post : Unit → nf_M → Prop} (hfl : l.flags = flags0) (K : nf_K p s m args meth c "NumberForgeModel" nb_M_castTo 3 none D a sz) : ∀ (x2 : Int32) (M : nf_M) (H : Heap) (locs : List Loc) (ls : Array Slot), B_M_castTo_170 post x2 M → lv_has ls 3 [(0, .ref (a 19)), (2, .int x2)] → nf_W D a s sz H locs M → W p l e rm_M_castTo s m args below meth c H locs 0 0 (nf_MQ below (nf_Q nf_jN D a post ex (nf_A a sz)) args s rm_M_castTo.cells rm_M_castTo.slots (nf_A a sz)) (F0 m 170 ls []) := by
  have hx := K.1
  have hb := K.2.1
  intro x2 M H locs ls h hl hw
  refine lv_aload_n hx hb d_M_castTo_170 rfl (lv_at hl 0 rfl) ?_
  refine lv_aload_n hx hb d_M_castTo_171 rfl (lv_at hl 0 rfl) ?_
  refine nf_get (v := .int (mg_I M 19 9)) K hw 19 7 9 nw_940 rfl rfl ni_M (by decide) rfl rfl d_M_castTo_172 ?_
  refine nf_if_ne hx hb d_M_castTo_175 (tgt := 193) (by decide) (fun hc => ?_) (fun hc => ?_)
  · have h := h.1 hc
    refine lv_iload_n hx hb d_M_castTo_178 rfl (lv_at hl 1 rfl) ?_
    refine lv_aload_n hx hb d_M_castTo_179 rfl (lv_at hl 0 rfl) ?_
    refine nf_get (v := .long (mg_L M 19 10)) K hw 19 7 10 nw_941 rfl rfl ni_M (by decide) rfl rfl d_M_castTo_180 ?_
    refine nf_callW (ex := (fun _ _ => False)) (As := [.int x2, .long (mg_L M 19 10)]) (st0 := [.long (mg_L M 19 10), .int x2, .ref (a 19)]) (rest := [.ref (a 19)]) K hw (nf_invS hx hb K.2.2.2.1 (nf_Kg K nw_1039) (nf_Kg K nw_1040) (nf_Kg K nw_9) (nf_Kg K nw_1041) ⟨by decide, by decide⟩ rfl nl_M_fits rfl d_M_castTo_183) (c_M_fits l hfl x2 (mg_L M 19 10)) nw_1041 nw_9 rfl ⟨by decide, by decide⟩ (Nat.le_of_ble_eq_true rfl) hl.1 ⟨Nat.le_of_ble_eq_true rfl, Nat.le_of_ble_eq_true rfl⟩ h (fun _ _ h => h.elim) (fun r1 M2 H locs h hw => ?_)
    refine W.eq (g2 := F0 m 186 ls [.int r1, .ref (a 19)]) rfl ?_
    refine nf_if_ne hx hb d_M_castTo_186 (tgt := 193) (by decide) (fun hc => ?_) (fun hc => ?_)
    · have h := h.1 hc
      refine lv_iconst (v := (3 : Int32)) hx hb d_M_castTo_189 (by decide) ?_
      refine lv_goto hx hb d_M_castTo_190 (tgt := 197) (by decide) ?_
      exact w_M_castTo_197 hfl K (3 : Int32) M2 _ _ _ h (lv_sub hl [] rfl) hw
    · have h := h.2 hc
      exact w_M_castTo_193 hfl K  M2 _ _ _ h (lv_sub hl [0] rfl) hw
  · have h := h.2 hc
    exact w_M_castTo_193 hfl K  M _ _ _ h (lv_sub hl [0] rfl) hw
theorem w_M_castTo_98 {post : Unit → nf_M → Prop} (hfl : l.flags = flags0) (K : nf_K p s m args meth c "NumberForgeModel" nb_M_castTo 3 none D a sz) : ∀ (x2 : Int32) (xy0 : Int32) (M : nf_M) (H : Heap) (locs : List Loc) (ls : Array Slot), B_M_castTo_98 post x2 xy0 M → lv_has ls 3 [(0, .ref (a 19)), (2, .int x2)] → nf_W D a s sz H locs M → W p l e rm_M_castTo s m args below meth c H locs 0 0 (nf_MQ below (nf_Q nf_jN D a post ex (nf_A a sz)) args s rm_M_castTo.cells rm_M_castTo.slots (nf_A a sz)) (F0 m 98 ls [.int xy0, .ref (a 19)]) := by
  have hx := K.1
  have hb := K.2.1
  intro x2 xy0 M H locs ls h hl hw
  refine nf_put (M' := ms_I M 19 11 xy0) K hw 19 7 11 nw_942 rfl rfl rfl ni_M ny_M nq_M nn_M (by decide) rfl rfl rfl rfl (Nat.le_of_ble_eq_true rfl) d_M_castTo_98 (fun H locs hw => ?_)
  obtain ⟨M1, eM1⟩ : ∃ z, z = ms_I M 19 11 xy0 := ⟨_, rfl⟩
  rw [← eM1] at hw
  have h := h M1 eM1
  refine lv_goto hx hb d_M_castTo_101 (tgt := 170) (by decide) ?_
  exact w_M_castTo_170 hfl K x2 M1 _ _ _ h (lv_sub hl [0, 1] rfl) hw
theorem w_M_castTo_80 {post : Unit → nf_M → Prop} (hfl : l.flags = flags0) (K : nf_K p s m args meth c "NumberForgeModel" nb_M_castTo 3 none D a sz) : ∀ (x1 : Int32) (x2 : Int32) (xy0 : Int64) (M : nf_M) (H : Heap) (locs : List Loc) (ls : Array Slot), B_M_castTo_80 post x1 x2 xy0 M → lv_has ls 3 [(0, .ref (a 19)), (1, .int x1), (2, .int x2)] → nf_W D a s sz H locs M → W p l e rm_M_castTo s m args below meth c H locs 0 0 (nf_MQ below (nf_Q nf_jN D a post ex (nf_A a sz)) args s rm_M_castTo.cells rm_M_castTo.slots (nf_A a sz)) (F0 m 80 ls [.long xy0, .ref (a 19)]) := by
  have hx := K.1
  have hb := K.2.1
  intro x1 x2 xy0 M H locs ls h hl hw
  refine nf_put (M' := ms_L M 19 10 xy0) K hw 19 7 10 nw_941 rfl rfl rfl ni_M ny_M nq_M nn_M (by decide) rfl rfl rfl rfl (Nat.le_of_ble_eq_true rfl) d_M_castTo_80 (fun H locs hw => ?_)
  obtain ⟨M1, eM1⟩ : ∃ z, z = ms_L M 19 10 xy0 := ⟨_, rfl⟩
  rw [← eM1] at hw
  have h := h M1 eM1
  refine lv_aload_n hx hb d_M_castTo_83 rfl (lv_at hl 0 rfl) ?_
  refine lv_iload_n hx hb d_M_castTo_84 rfl (lv_at hl 2 rfl) ?_
  refine nf_if_ne hx hb d_M_castTo_85 (tgt := 97) (by decide) (fun hc => ?_) (fun hc => ?_)
  · have h := h.1 hc
    refine lv_aload_n hx hb d_M_castTo_88 rfl (lv_at hl 0 rfl) ?_
    refine nf_get (v := .ref (a 24)) K hw 19 7 7 nw_938 rfl rfl ni_M (by decide) rfl rfl d_M_castTo_89 ?_
    refine lv_iload_n hx hb d_M_castTo_92 rfl (lv_at hl 1 rfl) ?_
    obtain ⟨g2, h⟩ := h
    refine nf_iald K hw 24 7 rfl rfl g2 d_M_castTo_93 ?_
    refine lv_goto hx hb d_M_castTo_94 (tgt := 98) (by decide) ?_
    exact w_M_castTo_98 hfl K x2 (mg_I M1 24 x1.toNatClampNeg) M1 _ _ _ h (lv_sub hl [0, 2] rfl) hw
  · have h := h.2 hc
    refine lv_iconst (v := (0 : Int32)) hx hb d_M_castTo_97 (by decide) ?_
    exact w_M_castTo_98 hfl K x2 (0 : Int32) M1 _ _ _ h (lv_sub hl [0, 2] rfl) hw
theorem c_M_castTo (l : Launch) (hfl : l.flags = flags0) (x1 : Int32) (x2 : Int32) : nf_C nf_jN l nm_M_castTo nb_M_castTo 3 none rm_M_castTo (fun a => [.ref (a 19), .int x1, .int x2]) (fun M post ex => P_M_castTo x1 x2 M post) := by
  refine nf_start (plainFor_of_name (by decide +kernel)) (fun a => Nat.le_of_ble_eq_true rfl) ?_
  intro D a sz M post ex p e s m below meth c ls h K hl hw
  have hx := K.1
  have hb := K.2.1
  have hl : lv_has ls 3 [(0, .ref (a 19)), (1, .int x1), (2, .int x2)] := hl
  refine lv_aload_n hx hb d_M_castTo_0 rfl (lv_at hl 0 rfl) ?_
  refine lv_iconst (v := (0 : Int32)) hx hb d_M_castTo_1 (by decide) ?_
  refine nf_put (M' := ms_I M 19 9 (0 : Int32)) K hw 19 7 9 nw_940 rfl rfl rfl ni_M ny_M nq_M nn_M (by decide) rfl rfl rfl rfl (Nat.le_of_ble_eq_true rfl) d_M_castTo_2 (fun H locs hw => ?_)
  obtain ⟨M1, eM1⟩ : ∃ z, z = ms_I M 19 9 (0 : Int32) := ⟨_, rfl⟩
  rw [← eM1] at hw
  have h := h M1 eM1
  refine lv_iload_n hx hb d_M_castTo_5 rfl (lv_at hl 2 rfl) ?_
  refine nf_callW (ex := (fun _ _ => False)) (As := [.int x2]) (st0 := [.int x2]) (rest := []) K hw (nf_invS hx hb K.2.2.2.1 (nf_Kg K nw_1011) (nf_Kg K nw_1012) (nf_Kg K nw_9) (nf_Kg K nw_1013) ⟨by decide, by decide⟩ rfl nl_M_isExact rfl d_M_castTo_6) (c_M_isExact l hfl x2) nw_1013 nw_9 rfl ⟨by decide, by decide⟩ (Nat.le_of_ble_eq_true rfl) hl.1 ⟨Nat.le_of_ble_eq_true rfl, Nat.le_of_ble_eq_true rfl⟩ h (fun _ _ h => h.elim) (fun r2 M3 H locs h hw => ?_)
  refine W.eq (g2 := F0 m 9 ls [.int r2]) rfl ?_
  refine nf_if_ne hx hb d_M_castTo_9 (tgt := 38) (by decide) (fun hc => ?_) (fun hc => ?_)
  · have h := h.1 hc
    refine lv_aload_n hx hb d_M_castTo_12 rfl (lv_at hl 0 rfl) ?_
    refine lv_iload_n hx hb d_M_castTo_13 rfl (lv_at hl 2 rfl) ?_
    refine lv_bipush (v := (8 : Int32)) hx hb d_M_castTo_14 (by decide) ?_
    refine nf_ic_ne hx hb d_M_castTo_16 (tgt := 29) (by decide) (fun hc => ?_) (fun hc => ?_)
    · have h := h.1 hc
      refine lv_aload_n hx hb d_M_castTo_19 rfl (lv_at hl 0 rfl) ?_
      refine lv_iload_n hx hb d_M_castTo_20 rfl (lv_at hl 1 rfl) ?_
      refine nf_callW (ex := (fun _ _ => False)) (As := [.ref (a 19), .int x1]) (st0 := [.int x1, .ref (a 19), .ref (a 19)]) (rest := [.ref (a 19)]) K hw (nf_invV hx hb K.2.2.2.1 (nf_Kg K nw_1086) (nf_Kg K nw_1088) (nf_Kg K nx_M_asDouble) (nf_Kg K nw_1089) ⟨by decide, by decide⟩ (nf_rcv K hw 19 7 rfl rfl) rfl nl_M_asDouble rfl d_M_castTo_21) (c_M_asDouble l hfl x1) nw_1089 nw_9 rfl ⟨by decide, by decide⟩ (Nat.le_of_ble_eq_true rfl) hl.1 ⟨Nat.le_of_ble_eq_true rfl, Nat.le_of_ble_eq_true rfl⟩ h (fun _ _ h => h.elim) (fun r4 M5 H locs h hw => ?_)
      refine W.eq (g2 := F0 m 24 ls [.double r4, .ref (a 19)]) rfl ?_
      obtain ⟨g6, h⟩ := h
      refine lv_d2f hx hb d_M_castTo_24 g6 ?_
      obtain ⟨g7, h⟩ := h
      refine lv_f2d hx hb d_M_castTo_25 g7 ?_
      refine lv_goto hx hb d_M_castTo_26 (tgt := 34) (by decide) ?_
      exact w_M_castTo_34 hfl K (FP.f2d (FP.d2f r4)) M5 _ _ _ h (lv_sub hl [] rfl) hw
    · have h := h.2 hc
      refine lv_aload_n hx hb d_M_castTo_29 rfl (lv_at hl 0 rfl) ?_
      refine lv_iload_n hx hb d_M_castTo_30 rfl (lv_at hl 1 rfl) ?_
      refine nf_callW (ex := (fun _ _ => False)) (As := [.ref (a 19), .int x1]) (st0 := [.int x1, .ref (a 19), .ref (a 19)]) (rest := [.ref (a 19)]) K hw (nf_invV hx hb K.2.2.2.1 (nf_Kg K nw_1086) (nf_Kg K nw_1088) (nf_Kg K nx_M_asDouble) (nf_Kg K nw_1089) ⟨by decide, by decide⟩ (nf_rcv K hw 19 7 rfl rfl) rfl nl_M_asDouble rfl d_M_castTo_31) (c_M_asDouble l hfl x1) nw_1089 nw_9 rfl ⟨by decide, by decide⟩ (Nat.le_of_ble_eq_true rfl) hl.1 ⟨Nat.le_of_ble_eq_true rfl, Nat.le_of_ble_eq_true rfl⟩ h (fun _ _ h => h.elim) (fun r8 M9 H locs h hw => ?_)
      refine W.eq (g2 := F0 m 34 ls [.double r8, .ref (a 19)]) rfl ?_
      exact w_M_castTo_34 hfl K r8 M9 _ _ _ h (lv_sub hl [] rfl) hw
  · have h := h.2 hc
    refine lv_aload_n hx hb d_M_castTo_38 rfl (lv_at hl 0 rfl) ?_
    refine nf_get (v := .ref (a 22)) K hw 19 7 5 nw_936 rfl rfl ni_M (by decide) rfl rfl d_M_castTo_39 ?_
    refine lv_iload_n hx hb d_M_castTo_42 rfl (lv_at hl 1 rfl) ?_
    obtain ⟨g10, h⟩ := h
    refine nf_iald K hw 22 5 rfl rfl g10 d_M_castTo_43 ?_
    refine nf_callW (ex := (fun _ _ => False)) (As := [.int (mg_I M3 22 x1.toNatClampNeg)]) (st0 := [.int (mg_I M3 22 x1.toNatClampNeg)]) (rest := []) K hw (nf_invS hx hb K.2.2.2.1 (nf_Kg K nw_1011) (nf_Kg K nw_1012) (nf_Kg K nw_9) (nf_Kg K nw_1013) ⟨by decide, by decide⟩ rfl nl_M_isExact rfl d_M_castTo_44) (c_M_isExact l hfl (mg_I M3 22 x1.toNatClampNeg)) nw_1013 nw_9 rfl ⟨by decide, by decide⟩ (Nat.le_of_ble_eq_true rfl) hl.1 ⟨Nat.le_of_ble_eq_true rfl, Nat.le_of_ble_eq_true rfl⟩ h (fun _ _ h => h.elim) (fun r11 M12 H locs h hw => ?_)
    refine W.eq (g2 := F0 m 47 ls [.int r11]) rfl ?_
    refine nf_if_eq hx hb d_M_castTo_47 (tgt := 104) (by decide) (fun hc => ?_) (fun hc => ?_)
    · have h := h.1 hc
      refine lv_aload_n hx hb d_M_castTo_104 rfl (lv_at hl 0 rfl) ?_
      refine lv_aload_n hx hb d_M_castTo_105 rfl (lv_at hl 0 rfl) ?_
      refine nf_get (v := .ref (a 25)) K hw 19 7 8 nw_939 rfl rfl ni_M (by decide) rfl rfl d_M_castTo_106 ?_
      refine lv_iload_n hx hb d_M_castTo_109 rfl (lv_at hl 1 rfl) ?_
      obtain ⟨g13, h⟩ := h
      refine nf_dald K hw 25 8 rfl rfl g13 d_M_castTo_110 ?_
      refine nf_callW (ex := (fun _ _ => False)) (As := [.ref (a 19), .double (mg_D M12 25 x1.toNatClampNeg)]) (st0 := [.double (mg_D M12 25 x1.toNatClampNeg), .ref (a 19)]) (rest := []) K hw (nf_invV hx hb K.2.2.2.1 (nf_Kg K nw_1102) (nf_Kg K nw_1104) (nf_Kg K nx_M_wholePart) (nf_Kg K nw_1105) ⟨by decide, by decide⟩ (nf_rcv K hw 19 7 rfl rfl) rfl nl_M_wholePart rfl d_M_castTo_111) (c_M_wholePart l hfl (mg_D M12 25 x1.toNatClampNeg)) nw_1105 nw_9 rfl ⟨by decide, by decide⟩ (Nat.le_of_ble_eq_true rfl) hl.1 ⟨Nat.le_of_ble_eq_true rfl, Nat.le_of_ble_eq_true rfl⟩ h (fun _ _ h => h.elim) (fun r14 M15 H locs h hw => ?_)
      refine W.eq (g2 := F0 m 114 ls []) rfl ?_
      refine lv_aload_n hx hb d_M_castTo_114 rfl (lv_at hl 0 rfl) ?_
      refine nf_get (v := .int (mg_I M15 19 9)) K hw 19 7 9 nw_940 rfl rfl ni_M (by decide) rfl rfl d_M_castTo_115 ?_
      refine nf_if_ne hx hb d_M_castTo_118 (tgt := 170) (by decide) (fun hc => ?_) (fun hc => ?_)
      · have h := h.1 hc
        refine lv_iload_n hx hb d_M_castTo_121 rfl (lv_at hl 2 rfl) ?_
        refine nf_if_ne hx hb d_M_castTo_122 (tgt := 170) (by decide) (fun hc => ?_) (fun hc => ?_)
        · have h := h.1 hc
          refine lv_aload_n hx hb d_M_castTo_125 rfl (lv_at hl 0 rfl) ?_
          refine nf_get (v := .ref (a 25)) K hw 19 7 8 nw_939 rfl rfl ni_M (by decide) rfl rfl d_M_castTo_126 ?_
          refine lv_iload_n hx hb d_M_castTo_129 rfl (lv_at hl 1 rfl) ?_
          obtain ⟨g16, h⟩ := h
          refine nf_dald K hw 25 8 rfl rfl g16 d_M_castTo_130 ?_
          refine lv_ldc2d (v := (4741671816366391296 : UInt64)) hx hb K.2.2.2.1 (nf_Kg K nw_1176) d_M_castTo_131 ?_
          refine nf_dg_ge hx hb d_M_castTo_134 d_M_castTo_135 (tgt := 170) (by decide) (fun hc => ?_) (fun hc => ?_)
          · have h := h.1 hc
            refine lv_aload_n hx hb d_M_castTo_138 rfl (lv_at hl 0 rfl) ?_
            refine nf_get (v := .ref (a 25)) K hw 19 7 8 nw_939 rfl rfl ni_M (by decide) rfl rfl d_M_castTo_139 ?_
            refine lv_iload_n hx hb d_M_castTo_142 rfl (lv_at hl 1 rfl) ?_
            obtain ⟨g17, h⟩ := h
            refine nf_dald K hw 25 8 rfl rfl g17 d_M_castTo_143 ?_
            refine lv_ldc2d (v := (13965043853221167104 : UInt64)) hx hb K.2.2.2.1 (nf_Kg K nw_1177) d_M_castTo_144 ?_
            refine nf_dl_le hx hb d_M_castTo_147 d_M_castTo_148 (tgt := 170) (by decide) (fun hc => ?_) (fun hc => ?_)
            · have h := h.1 hc
              refine lv_aload_n hx hb d_M_castTo_151 rfl (lv_at hl 0 rfl) ?_
              refine lv_aload_n hx hb d_M_castTo_152 rfl (lv_at hl 0 rfl) ?_
              refine nf_get (v := .ref (a 25)) K hw 19 7 8 nw_939 rfl rfl ni_M (by decide) rfl rfl d_M_castTo_153 ?_
              refine lv_iload_n hx hb d_M_castTo_156 rfl (lv_at hl 1 rfl) ?_
              obtain ⟨g18, h⟩ := h
              refine nf_dald K hw 25 8 rfl rfl g18 d_M_castTo_157 ?_
              refine lv_ldc2d (v := (4696837146684686336 : UInt64)) hx hb K.2.2.2.1 (nf_Kg K nw_1178) d_M_castTo_158 ?_
              obtain ⟨g19, h⟩ := h
              refine lv_dmul hx hb d_M_castTo_161 g19 ?_
              refine nf_callW (ex := (fun _ _ => False)) (As := [.double (FP.dmul (mg_D M15 25 x1.toNatClampNeg) (4696837146684686336 : UInt64))]) (st0 := [.double (FP.dmul (mg_D M15 25 x1.toNatClampNeg) (4696837146684686336 : UInt64)), .ref (a 19)]) (rest := [.ref (a 19)]) K hw (nf_invS hx hb K.2.2.2.1 (nf_Kg K nw_1179) (nf_Kg K nw_1180) (nf_Kg K nw_9) (nf_Kg K nw_1181) ⟨by decide, by decide⟩ rfl nl_M_even rfl d_M_castTo_162) (c_M_even l hfl (FP.dmul (mg_D M15 25 x1.toNatClampNeg) (4696837146684686336 : UInt64))) nw_1181 nw_9 rfl ⟨by decide, by decide⟩ (Nat.le_of_ble_eq_true rfl) hl.1 ⟨Nat.le_of_ble_eq_true rfl, Nat.le_of_ble_eq_true rfl⟩ h (fun _ _ h => h.elim) (fun r20 M21 H locs h hw => ?_)
              refine W.eq (g2 := F0 m 165 ls [.long r20, .ref (a 19)]) rfl ?_
              refine lv_bipush (v := (6 : Int32)) hx hb d_M_castTo_165 (by decide) ?_
              refine nf_callW (ex := (fun _ _ => False)) (As := [.ref (a 19), .long r20, .int (6 : Int32)]) (st0 := [.int (6 : Int32), .long r20, .ref (a 19)]) (rest := []) K hw (nf_invV hx hb K.2.2.2.1 (nf_Kg K nw_1144) (nf_Kg K nw_1146) (nf_Kg K nx_M_keep) (nf_Kg K nw_1147) ⟨by decide, by decide⟩ (nf_rcv K hw 19 7 rfl rfl) rfl nl_M_keep rfl d_M_castTo_167) (c_M_keep l hfl r20 (6 : Int32)) nw_1147 nw_9 rfl ⟨by decide, by decide⟩ (Nat.le_of_ble_eq_true rfl) hl.1 ⟨Nat.le_of_ble_eq_true rfl, Nat.le_of_ble_eq_true rfl⟩ h (fun _ _ h => h.elim) (fun r22 M23 H locs h hw => ?_)
              refine W.eq (g2 := F0 m 170 ls []) rfl ?_
              exact w_M_castTo_170 hfl K x2 M23 _ _ _ h (lv_sub hl [0, 2] rfl) hw
            · have h := h.2 hc
              exact w_M_castTo_170 hfl K x2 M15 _ _ _ h (lv_sub hl [0, 2] rfl) hw
          · have h := h.2 hc
            exact w_M_castTo_170 hfl K x2 M15 _ _ _ h (lv_sub hl [0, 2] rfl) hw
        · have h := h.2 hc
          exact w_M_castTo_170 hfl K x2 M15 _ _ _ h (lv_sub hl [0, 2] rfl) hw
      · have h := h.2 hc
        exact w_M_castTo_170 hfl K x2 M15 _ _ _ h (lv_sub hl [0, 2] rfl) hw
    · have h := h.2 hc
      refine lv_aload_n hx hb d_M_castTo_50 rfl (lv_at hl 0 rfl) ?_
      refine lv_iload_n hx hb d_M_castTo_51 rfl (lv_at hl 2 rfl) ?_
      refine nf_if_ne hx hb d_M_castTo_52 (tgt := 64) (by decide) (fun hc => ?_) (fun hc => ?_)
      · have h := h.1 hc
        refine lv_aload_n hx hb d_M_castTo_55 rfl (lv_at hl 0 rfl) ?_
        refine nf_get (v := .ref (a 23)) K hw 19 7 6 nw_937 rfl rfl ni_M (by decide) rfl rfl d_M_castTo_56 ?_
        refine lv_iload_n hx hb d_M_castTo_59 rfl (lv_at hl 1 rfl) ?_
        obtain ⟨g24, h⟩ := h
        refine nf_lald K hw 23 6 rfl rfl g24 d_M_castTo_60 ?_
        refine lv_goto hx hb d_M_castTo_61 (tgt := 80) (by decide) ?_
        exact w_M_castTo_80 hfl K x1 x2 (mg_L M12 23 x1.toNatClampNeg) M12 _ _ _ h (lv_sub hl [0, 1, 2] rfl) hw
      · have h := h.2 hc
        refine lv_aload_n hx hb d_M_castTo_64 rfl (lv_at hl 0 rfl) ?_
        refine nf_get (v := .ref (a 23)) K hw 19 7 6 nw_937 rfl rfl ni_M (by decide) rfl rfl d_M_castTo_65 ?_
        refine lv_iload_n hx hb d_M_castTo_68 rfl (lv_at hl 1 rfl) ?_
        obtain ⟨g25, h⟩ := h
        refine nf_lald K hw 23 6 rfl rfl g25 d_M_castTo_69 ?_
        refine lv_aload_n hx hb d_M_castTo_70 rfl (lv_at hl 0 rfl) ?_
        refine nf_get (v := .ref (a 24)) K hw 19 7 7 nw_938 rfl rfl ni_M (by decide) rfl rfl d_M_castTo_71 ?_
        refine lv_iload_n hx hb d_M_castTo_74 rfl (lv_at hl 1 rfl) ?_
        obtain ⟨g26, h⟩ := h
        refine nf_iald K hw 24 7 rfl rfl g26 d_M_castTo_75 ?_
        refine nf_callW (ex := (fun _ _ => False)) (As := [.int (mg_I M12 24 x1.toNatClampNeg)]) (st0 := [.int (mg_I M12 24 x1.toNatClampNeg), .long (mg_L M12 23 x1.toNatClampNeg), .ref (a 19)]) (rest := [.long (mg_L M12 23 x1.toNatClampNeg), .ref (a 19)]) K hw (nf_invS hx hb K.2.2.2.1 (nf_Kg K nw_1066) (nf_Kg K nw_1067) (nf_Kg K nw_9) (nf_Kg K nw_1068) ⟨by decide, by decide⟩ rfl nl_M_power rfl d_M_castTo_76) (c_M_power l hfl (mg_I M12 24 x1.toNatClampNeg)) nw_1068 nw_9 rfl ⟨by decide, by decide⟩ (Nat.le_of_ble_eq_true rfl) hl.1 ⟨Nat.le_of_ble_eq_true rfl, Nat.le_of_ble_eq_true rfl⟩ h (fun _ _ h => h.elim) (fun r27 M28 H locs h hw => ?_)
        refine W.eq (g2 := F0 m 79 ls [.long r27, .long (mg_L M12 23 x1.toNatClampNeg), .ref (a 19)]) rfl ?_
        obtain ⟨g29, h⟩ := h
        refine lv_ldiv hx hb d_M_castTo_79 g29 ?_
        exact w_M_castTo_80 hfl K x1 x2 ((mg_L M12 23 x1.toNatClampNeg) / r27) M28 _ _ _ h (lv_sub hl [0, 1, 2] rfl) hw
theorem d_M_cast_0 : decode nb_M_cast 0 = .ok (.aload_n 0, 1) := by decide +kernel
theorem d_M_cast_1 : decode nb_M_cast 1 = .ok (.iload_n 1, 1) := by decide +kernel
theorem d_M_cast_2 : decode nb_M_cast 2 = .ok (.invokestatic 148, 3) := by decide +kernel
theorem d_M_cast_5 : decode nb_M_cast 5 = .ok (.ifCond .eq 20, 3) := by decide +kernel
theorem d_M_cast_8 : decode nb_M_cast 8 = .ok (.iload_n 3, 1) := by decide +kernel
theorem d_M_cast_9 : decode nb_M_cast 9 = .ok (.invokestatic 148, 3) := by decide +kernel
theorem d_M_cast_12 : decode nb_M_cast 12 = .ok (.ifCond .eq 13, 3) := by decide +kernel
theorem d_M_cast_15 : decode nb_M_cast 15 = .ok (.iload_n 2, 1) := by decide +kernel
theorem d_M_cast_16 : decode nb_M_cast 16 = .ok (.ifCond .lt 9, 3) := by decide +kernel
theorem d_M_cast_19 : decode nb_M_cast 19 = .ok (.iload_n 2, 1) := by decide +kernel
theorem d_M_cast_20 : decode nb_M_cast 20 = .ok (.bipush 9, 2) := by decide +kernel
theorem d_M_cast_22 : decode nb_M_cast 22 = .ok (.if_icmp .le 7, 3) := by decide +kernel
theorem d_M_cast_25 : decode nb_M_cast 25 = .ok (.iconst 1, 1) := by decide +kernel
theorem d_M_cast_26 : decode nb_M_cast 26 = .ok (.goto 17, 3) := by decide +kernel
theorem d_M_cast_29 : decode nb_M_cast 29 = .ok (.aload_n 0, 1) := by decide +kernel
theorem d_M_cast_30 : decode nb_M_cast 30 = .ok (.getfield 16, 3) := by decide +kernel
theorem d_M_cast_33 : decode nb_M_cast 33 = .ok (.iload_n 1, 1) := by decide +kernel
theorem d_M_cast_34 : decode nb_M_cast 34 = .ok (.iaload, 1) := by decide +kernel
theorem d_M_cast_35 : decode nb_M_cast 35 = .ok (.ifCond .ge 7, 3) := by decide +kernel
theorem d_M_cast_38 : decode nb_M_cast 38 = .ok (.iconst 2, 1) := by decide +kernel
theorem d_M_cast_39 : decode nb_M_cast 39 = .ok (.goto 4, 3) := by decide +kernel
theorem d_M_cast_42 : decode nb_M_cast 42 = .ok (.iconst 0, 1) := by decide +kernel
theorem d_M_cast_43 : decode nb_M_cast 43 = .ok (.putfield 33, 3) := by decide +kernel
theorem d_M_cast_46 : decode nb_M_cast 46 = .ok (.aload_n 0, 1) := by decide +kernel
theorem d_M_cast_47 : decode nb_M_cast 47 = .ok (.getfield 33, 3) := by decide +kernel
theorem d_M_cast_50 : decode nb_M_cast 50 = .ok (.ifCond .le 4, 3) := by decide +kernel
theorem d_M_cast_53 : decode nb_M_cast 53 = .ok (.return_, 1) := by decide +kernel
theorem d_M_cast_54 : decode nb_M_cast 54 = .ok (.aload_n 0, 1) := by decide +kernel
theorem d_M_cast_55 : decode nb_M_cast 55 = .ok (.iload_n 1, 1) := by decide +kernel
theorem d_M_cast_56 : decode nb_M_cast 56 = .ok (.iload_n 2, 1) := by decide +kernel
theorem d_M_cast_57 : decode nb_M_cast 57 = .ok (.invokevirtual 246, 3) := by decide +kernel
theorem d_M_cast_60 : decode nb_M_cast 60 = .ok (.aload_n 0, 1) := by decide +kernel
theorem d_M_cast_61 : decode nb_M_cast 61 = .ok (.aload_n 0, 1) := by decide +kernel
theorem d_M_cast_62 : decode nb_M_cast 62 = .ok (.getfield 67, 3) := by decide +kernel
theorem d_M_cast_65 : decode nb_M_cast 65 = .ok (.iconst 4, 1) := by decide +kernel
theorem d_M_cast_66 : decode nb_M_cast 66 = .ok (.if_icmp .ne 7, 3) := by decide +kernel
theorem d_M_cast_69 : decode nb_M_cast 69 = .ok (.iconst 3, 1) := by decide +kernel
theorem d_M_cast_70 : decode nb_M_cast 70 = .ok (.goto 28, 3) := by decide +kernel
theorem d_M_cast_73 : decode nb_M_cast 73 = .ok (.aload_n 0, 1) := by decide +kernel
theorem d_M_cast_74 : decode nb_M_cast 74 = .ok (.getfield 67, 3) := by decide +kernel
theorem d_M_cast_77 : decode nb_M_cast 77 = .ok (.iconst 5, 1) := by decide +kernel
theorem d_M_cast_78 : decode nb_M_cast 78 = .ok (.if_icmp .ne 7, 3) := by decide +kernel
theorem d_M_cast_81 : decode nb_M_cast 81 = .ok (.iconst 4, 1) := by decide +kernel
theorem d_M_cast_82 : decode nb_M_cast 82 = .ok (.goto 16, 3) := by decide +kernel
theorem d_M_cast_85 : decode nb_M_cast 85 = .ok (.aload_n 0, 1) := by decide +kernel
theorem d_M_cast_86 : decode nb_M_cast 86 = .ok (.getfield 67, 3) := by decide +kernel
theorem d_M_cast_89 : decode nb_M_cast 89 = .ok (.iconst 3, 1) := by decide +kernel
theorem d_M_cast_90 : decode nb_M_cast 90 = .ok (.if_icmp .ne 7, 3) := by decide +kernel
theorem d_M_cast_93 : decode nb_M_cast 93 = .ok (.iconst 5, 1) := by decide +kernel
theorem d_M_cast_94 : decode nb_M_cast 94 = .ok (.goto 4, 3) := by decide +kernel
theorem d_M_cast_97 : decode nb_M_cast 97 = .ok (.iconst 0, 1) := by decide +kernel
theorem d_M_cast_98 : decode nb_M_cast 98 = .ok (.putfield 33, 3) := by decide +kernel
theorem d_M_cast_101 : decode nb_M_cast 101 = .ok (.aload_n 0, 1) := by decide +kernel
theorem d_M_cast_102 : decode nb_M_cast 102 = .ok (.getfield 33, 3) := by decide +kernel
theorem d_M_cast_105 : decode nb_M_cast 105 = .ok (.ifCond .ne 9, 3) := by decide +kernel
theorem d_M_cast_108 : decode nb_M_cast 108 = .ok (.aload_n 0, 1) := by decide +kernel
theorem d_M_cast_109 : decode nb_M_cast 109 = .ok (.iload_n 3, 1) := by decide +kernel
theorem d_M_cast_110 : decode nb_M_cast 110 = .ok (.iload_n 2, 1) := by decide +kernel
theorem d_M_cast_111 : decode nb_M_cast 111 = .ok (.invokevirtual 158, 3) := by decide +kernel
theorem d_M_cast_114 : decode nb_M_cast 114 = .ok (.return_, 1) := by decide +kernel
abbrev rm_M_cast : Room := ({ frames := 4, cells := 0, slots := 0, locals := 96 })
theorem w_M_cast_114 {post : Unit → nf_M → Prop} (hfl : l.flags = flags0) (K : nf_K p s m args meth c "NumberForgeModel" nb_M_cast 4 none D a sz) : ∀ (M : nf_M) (H : Heap) (locs : List Loc) (ls : Array Slot), B_M_cast_114 post  M → lv_has ls 4 [] → nf_W D a s sz H locs M → W p l e rm_M_cast s m args below meth c H locs 0 0 (nf_MQ below (nf_Q nf_jN D a post ex (nf_A a sz)) args s rm_M_cast.cells rm_M_cast.slots (nf_A a sz)) (F0 m 114 ls []) := by
  have hx := K.1
  have hb := K.2.1
  intro  M H locs ls h hl hw
  exact nf_vret K hw d_M_cast_114 (Nat.le_of_ble_eq_true rfl) (Nat.le_of_ble_eq_true rfl) (r := ()) rfl h
theorem w_M_cast_98 {post : Unit → nf_M → Prop} (hfl : l.flags = flags0) (K : nf_K p s m args meth c "NumberForgeModel" nb_M_cast 4 none D a sz) : ∀ (x2 : Int32) (x3 : Int32) (xy0 : Int32) (M : nf_M) (H : Heap) (locs : List Loc) (ls : Array Slot), B_M_cast_98 post x2 x3 xy0 M → lv_has ls 4 [(0, .ref (a 19)), (2, .int x2), (3, .int x3)] → nf_W D a s sz H locs M → W p l e rm_M_cast s m args below meth c H locs 0 0 (nf_MQ below (nf_Q nf_jN D a post ex (nf_A a sz)) args s rm_M_cast.cells rm_M_cast.slots (nf_A a sz)) (F0 m 98 ls [.int xy0, .ref (a 19)]) := by
  have hx := K.1
  have hb := K.2.1
  intro x2 x3 xy0 M H locs ls h hl hw
  refine nf_put (M' := ms_I M 19 0 xy0) K hw 19 7 0 nw_931 rfl rfl rfl ni_M ny_M nq_M nn_M (by decide) rfl rfl rfl rfl (Nat.le_of_ble_eq_true rfl) d_M_cast_98 (fun H locs hw => ?_)
  obtain ⟨M1, eM1⟩ : ∃ z, z = ms_I M 19 0 xy0 := ⟨_, rfl⟩
  rw [← eM1] at hw
  have h := h M1 eM1
  refine lv_aload_n hx hb d_M_cast_101 rfl (lv_at hl 0 rfl) ?_
  refine nf_get (v := .int (mg_I M1 19 0)) K hw 19 7 0 nw_931 rfl rfl ni_M (by decide) rfl rfl d_M_cast_102 ?_
  refine nf_if_ne hx hb d_M_cast_105 (tgt := 114) (by decide) (fun hc => ?_) (fun hc => ?_)
  · have h := h.1 hc
    refine lv_aload_n hx hb d_M_cast_108 rfl (lv_at hl 0 rfl) ?_
    refine lv_iload_n hx hb d_M_cast_109 rfl (lv_at hl 2 rfl) ?_
    refine lv_iload_n hx hb d_M_cast_110 rfl (lv_at hl 1 rfl) ?_
    refine nf_callW (ex := (fun _ _ => False)) (As := [.ref (a 19), .int x3, .int x2]) (st0 := [.int x2, .int x3, .ref (a 19)]) (rest := []) K hw (nf_invV hx hb K.2.2.2.1 (nf_Kg K nw_1070) (nf_Kg K nw_1072) (nf_Kg K nx_M_store) (nf_Kg K nw_1073) ⟨by decide, by decide⟩ (nf_rcv K hw 19 7 rfl rfl) rfl nl_M_store rfl d_M_cast_111) (c_M_store l hfl x3 x2) nw_1073 nw_9 rfl ⟨by decide, by decide⟩ (Nat.le_of_ble_eq_true rfl) hl.1 ⟨Nat.le_of_ble_eq_true rfl, Nat.le_of_ble_eq_true rfl⟩ h (fun _ _ h => h.elim) (fun r2 M3 H locs h hw => ?_)
    refine W.eq (g2 := F0 m 114 ls []) rfl ?_
    exact w_M_cast_114 hfl K  M3 _ _ _ h (lv_sub hl [] rfl) hw
  · have h := h.2 hc
    exact w_M_cast_114 hfl K  M1 _ _ _ h (lv_sub hl [] rfl) hw
theorem w_M_cast_43 {post : Unit → nf_M → Prop} (hfl : l.flags = flags0) (K : nf_K p s m args meth c "NumberForgeModel" nb_M_cast 4 none D a sz) : ∀ (x1 : Int32) (x2 : Int32) (x3 : Int32) (xy0 : Int32) (M : nf_M) (H : Heap) (locs : List Loc) (ls : Array Slot), B_M_cast_43 post x1 x2 x3 xy0 M → lv_has ls 4 [(0, .ref (a 19)), (1, .int x1), (2, .int x2), (3, .int x3)] → nf_W D a s sz H locs M → W p l e rm_M_cast s m args below meth c H locs 0 0 (nf_MQ below (nf_Q nf_jN D a post ex (nf_A a sz)) args s rm_M_cast.cells rm_M_cast.slots (nf_A a sz)) (F0 m 43 ls [.int xy0, .ref (a 19)]) := by
  have hx := K.1
  have hb := K.2.1
  intro x1 x2 x3 xy0 M H locs ls h hl hw
  refine nf_put (M' := ms_I M 19 0 xy0) K hw 19 7 0 nw_931 rfl rfl rfl ni_M ny_M nq_M nn_M (by decide) rfl rfl rfl rfl (Nat.le_of_ble_eq_true rfl) d_M_cast_43 (fun H locs hw => ?_)
  obtain ⟨M1, eM1⟩ : ∃ z, z = ms_I M 19 0 xy0 := ⟨_, rfl⟩
  rw [← eM1] at hw
  have h := h M1 eM1
  refine lv_aload_n hx hb d_M_cast_46 rfl (lv_at hl 0 rfl) ?_
  refine nf_get (v := .int (mg_I M1 19 0)) K hw 19 7 0 nw_931 rfl rfl ni_M (by decide) rfl rfl d_M_cast_47 ?_
  refine nf_if_le hx hb d_M_cast_50 (tgt := 54) (by decide) (fun hc => ?_) (fun hc => ?_)
  · have h := h.1 hc
    exact nf_vret K hw d_M_cast_53 (Nat.le_of_ble_eq_true rfl) (Nat.le_of_ble_eq_true rfl) (r := ()) rfl h
  · have h := h.2 hc
    refine lv_aload_n hx hb d_M_cast_54 rfl (lv_at hl 0 rfl) ?_
    refine lv_iload_n hx hb d_M_cast_55 rfl (lv_at hl 1 rfl) ?_
    refine lv_iload_n hx hb d_M_cast_56 rfl (lv_at hl 2 rfl) ?_
    refine nf_callW (ex := (fun _ _ => False)) (As := [.ref (a 19), .int x1, .int x2]) (st0 := [.int x2, .int x1, .ref (a 19)]) (rest := []) K hw (nf_invV hx hb K.2.2.2.1 (nf_Kg K nw_1172) (nf_Kg K nw_1174) (nf_Kg K nx_M_castTo) (nf_Kg K nw_1175) ⟨by decide, by decide⟩ (nf_rcv K hw 19 7 rfl rfl) rfl nl_M_castTo rfl d_M_cast_57) (c_M_castTo l hfl x1 x2) nw_1175 nw_9 rfl ⟨by decide, by decide⟩ (Nat.le_of_ble_eq_true rfl) hl.1 ⟨Nat.le_of_ble_eq_true rfl, Nat.le_of_ble_eq_true rfl⟩ h (fun _ _ h => h.elim) (fun r2 M3 H locs h hw => ?_)
    refine W.eq (g2 := F0 m 60 ls []) rfl ?_
    refine lv_aload_n hx hb d_M_cast_60 rfl (lv_at hl 0 rfl) ?_
    refine lv_aload_n hx hb d_M_cast_61 rfl (lv_at hl 0 rfl) ?_
    refine nf_get (v := .int (mg_I M3 19 9)) K hw 19 7 9 nw_940 rfl rfl ni_M (by decide) rfl rfl d_M_cast_62 ?_
    refine lv_iconst (v := (4 : Int32)) hx hb d_M_cast_65 (by decide) ?_
    refine nf_ic_ne hx hb d_M_cast_66 (tgt := 73) (by decide) (fun hc => ?_) (fun hc => ?_)
    · have h := h.1 hc
      refine lv_iconst (v := (3 : Int32)) hx hb d_M_cast_69 (by decide) ?_
      refine lv_goto hx hb d_M_cast_70 (tgt := 98) (by decide) ?_
      exact w_M_cast_98 hfl K x2 x3 (3 : Int32) M3 _ _ _ h (lv_sub hl [0, 2, 3] rfl) hw
    · have h := h.2 hc
      refine lv_aload_n hx hb d_M_cast_73 rfl (lv_at hl 0 rfl) ?_
      refine nf_get (v := .int (mg_I M3 19 9)) K hw 19 7 9 nw_940 rfl rfl ni_M (by decide) rfl rfl d_M_cast_74 ?_
      refine lv_iconst (v := (5 : Int32)) hx hb d_M_cast_77 (by decide) ?_
      refine nf_ic_ne hx hb d_M_cast_78 (tgt := 85) (by decide) (fun hc => ?_) (fun hc => ?_)
      · have h := h.1 hc
        refine lv_iconst (v := (4 : Int32)) hx hb d_M_cast_81 (by decide) ?_
        refine lv_goto hx hb d_M_cast_82 (tgt := 98) (by decide) ?_
        exact w_M_cast_98 hfl K x2 x3 (4 : Int32) M3 _ _ _ h (lv_sub hl [0, 2, 3] rfl) hw
      · have h := h.2 hc
        refine lv_aload_n hx hb d_M_cast_85 rfl (lv_at hl 0 rfl) ?_
        refine nf_get (v := .int (mg_I M3 19 9)) K hw 19 7 9 nw_940 rfl rfl ni_M (by decide) rfl rfl d_M_cast_86 ?_
        refine lv_iconst (v := (3 : Int32)) hx hb d_M_cast_89 (by decide) ?_
        refine nf_ic_ne hx hb d_M_cast_90 (tgt := 97) (by decide) (fun hc => ?_) (fun hc => ?_)
        · have h := h.1 hc
          refine lv_iconst (v := (5 : Int32)) hx hb d_M_cast_93 (by decide) ?_
          refine lv_goto hx hb d_M_cast_94 (tgt := 98) (by decide) ?_
          exact w_M_cast_98 hfl K x2 x3 (5 : Int32) M3 _ _ _ h (lv_sub hl [0, 2, 3] rfl) hw
        · have h := h.2 hc
          refine lv_iconst (v := (0 : Int32)) hx hb d_M_cast_97 (by decide) ?_
          exact w_M_cast_98 hfl K x2 x3 (0 : Int32) M3 _ _ _ h (lv_sub hl [0, 2, 3] rfl) hw
theorem w_M_cast_25 {post : Unit → nf_M → Prop} (hfl : l.flags = flags0) (K : nf_K p s m args meth c "NumberForgeModel" nb_M_cast 4 none D a sz) : ∀ (x1 : Int32) (x2 : Int32) (x3 : Int32) (M : nf_M) (H : Heap) (locs : List Loc) (ls : Array Slot), B_M_cast_25 post x1 x2 x3 M → lv_has ls 4 [(0, .ref (a 19)), (1, .int x1), (2, .int x2), (3, .int x3)] → nf_W D a s sz H locs M → W p l e rm_M_cast s m args below meth c H locs 0 0 (nf_MQ below (nf_Q nf_jN D a post ex (nf_A a sz)) args s rm_M_cast.cells rm_M_cast.slots (nf_A a sz)) (F0 m 25 ls [.ref (a 19)]) := by
  have hx := K.1
  have hb := K.2.1
  intro x1 x2 x3 M H locs ls h hl hw
  refine lv_iconst (v := (1 : Int32)) hx hb d_M_cast_25 (by decide) ?_
  refine lv_goto hx hb d_M_cast_26 (tgt := 43) (by decide) ?_
  exact w_M_cast_43 hfl K x1 x2 x3 (1 : Int32) M _ _ _ h (lv_sub hl [0, 1, 2, 3] rfl) hw
theorem c_M_cast (l : Launch) (hfl : l.flags = flags0) (x1 : Int32) (x2 : Int32) (x3 : Int32) : nf_C nf_jN l nm_M_cast nb_M_cast 4 none rm_M_cast (fun a => [.ref (a 19), .int x1, .int x2, .int x3]) (fun M post ex => P_M_cast x1 x2 x3 M post) := by
  refine nf_start (plainFor_of_name (by decide +kernel)) (fun a => Nat.le_of_ble_eq_true rfl) ?_
  intro D a sz M post ex p e s m below meth c ls h K hl hw
  have hx := K.1
  have hb := K.2.1
  have hl : lv_has ls 4 [(0, .ref (a 19)), (1, .int x1), (2, .int x2), (3, .int x3)] := hl
  refine lv_aload_n hx hb d_M_cast_0 rfl (lv_at hl 0 rfl) ?_
  refine lv_iload_n hx hb d_M_cast_1 rfl (lv_at hl 1 rfl) ?_
  refine nf_callW (ex := (fun _ _ => False)) (As := [.int x1]) (st0 := [.int x1, .ref (a 19)]) (rest := [.ref (a 19)]) K hw (nf_invS hx hb K.2.2.2.1 (nf_Kg K nw_1008) (nf_Kg K nw_1009) (nf_Kg K nw_9) (nf_Kg K nw_1010) ⟨by decide, by decide⟩ rfl nl_M_isRegister rfl d_M_cast_2) (c_M_isRegister l hfl x1) nw_1010 nw_9 rfl ⟨by decide, by decide⟩ (Nat.le_of_ble_eq_true rfl) hl.1 ⟨Nat.le_of_ble_eq_true rfl, Nat.le_of_ble_eq_true rfl⟩ h (fun _ _ h => h.elim) (fun r1 M2 H locs h hw => ?_)
  refine W.eq (g2 := F0 m 5 ls [.int r1, .ref (a 19)]) rfl ?_
  refine nf_if_eq hx hb d_M_cast_5 (tgt := 25) (by decide) (fun hc => ?_) (fun hc => ?_)
  · have h := h.1 hc
    exact w_M_cast_25 hfl K x1 x2 x3 M2 _ _ _ h (lv_sub hl [0, 1, 2, 3] rfl) hw
  · have h := h.2 hc
    refine lv_iload_n hx hb d_M_cast_8 rfl (lv_at hl 3 rfl) ?_
    refine nf_callW (ex := (fun _ _ => False)) (As := [.int x3]) (st0 := [.int x3, .ref (a 19)]) (rest := [.ref (a 19)]) K hw (nf_invS hx hb K.2.2.2.1 (nf_Kg K nw_1008) (nf_Kg K nw_1009) (nf_Kg K nw_9) (nf_Kg K nw_1010) ⟨by decide, by decide⟩ rfl nl_M_isRegister rfl d_M_cast_9) (c_M_isRegister l hfl x3) nw_1010 nw_9 rfl ⟨by decide, by decide⟩ (Nat.le_of_ble_eq_true rfl) hl.1 ⟨Nat.le_of_ble_eq_true rfl, Nat.le_of_ble_eq_true rfl⟩ h (fun _ _ h => h.elim) (fun r3 M4 H locs h hw => ?_)
    refine W.eq (g2 := F0 m 12 ls [.int r3, .ref (a 19)]) rfl ?_
    refine nf_if_eq hx hb d_M_cast_12 (tgt := 25) (by decide) (fun hc => ?_) (fun hc => ?_)
    · have h := h.1 hc
      exact w_M_cast_25 hfl K x1 x2 x3 M4 _ _ _ h (lv_sub hl [0, 1, 2, 3] rfl) hw
    · have h := h.2 hc
      refine lv_iload_n hx hb d_M_cast_15 rfl (lv_at hl 2 rfl) ?_
      refine nf_if_lt hx hb d_M_cast_16 (tgt := 25) (by decide) (fun hc => ?_) (fun hc => ?_)
      · have h := h.1 hc
        exact w_M_cast_25 hfl K x1 x2 x3 M4 _ _ _ h (lv_sub hl [0, 1, 2, 3] rfl) hw
      · have h := h.2 hc
        refine lv_iload_n hx hb d_M_cast_19 rfl (lv_at hl 2 rfl) ?_
        refine lv_bipush (v := (9 : Int32)) hx hb d_M_cast_20 (by decide) ?_
        refine nf_ic_le hx hb d_M_cast_22 (tgt := 29) (by decide) (fun hc => ?_) (fun hc => ?_)
        · have h := h.1 hc
          exact w_M_cast_25 hfl K x1 x2 x3 M4 _ _ _ h (lv_sub hl [0, 1, 2, 3] rfl) hw
        · have h := h.2 hc
          refine lv_aload_n hx hb d_M_cast_29 rfl (lv_at hl 0 rfl) ?_
          refine nf_get (v := .ref (a 22)) K hw 19 7 5 nw_936 rfl rfl ni_M (by decide) rfl rfl d_M_cast_30 ?_
          refine lv_iload_n hx hb d_M_cast_33 rfl (lv_at hl 1 rfl) ?_
          obtain ⟨g5, h⟩ := h
          refine nf_iald K hw 22 5 rfl rfl g5 d_M_cast_34 ?_
          refine nf_if_ge hx hb d_M_cast_35 (tgt := 42) (by decide) (fun hc => ?_) (fun hc => ?_)
          · have h := h.1 hc
            refine lv_iconst (v := (2 : Int32)) hx hb d_M_cast_38 (by decide) ?_
            refine lv_goto hx hb d_M_cast_39 (tgt := 43) (by decide) ?_
            exact w_M_cast_43 hfl K x1 x2 x3 (2 : Int32) M4 _ _ _ h (lv_sub hl [0, 1, 2, 3] rfl) hw
          · have h := h.2 hc
            refine lv_iconst (v := (0 : Int32)) hx hb d_M_cast_42 (by decide) ?_
            exact w_M_cast_43 hfl K x1 x2 x3 (0 : Int32) M4 _ _ _ h (lv_sub hl [0, 1, 2, 3] rfl) hw
theorem d_M_compare_0 : decode nb_M_compare 0 = .ok (.aload_n 0, 1) := by decide +kernel
theorem d_M_compare_1 : decode nb_M_compare 1 = .ok (.iload_n 1, 1) := by decide +kernel
theorem d_M_compare_2 : decode nb_M_compare 2 = .ok (.invokestatic 148, 3) := by decide +kernel
theorem d_M_compare_5 : decode nb_M_compare 5 = .ok (.ifCond .eq 10, 3) := by decide +kernel
theorem d_M_compare_8 : decode nb_M_compare 8 = .ok (.iload_n 2, 1) := by decide +kernel
theorem d_M_compare_9 : decode nb_M_compare 9 = .ok (.invokestatic 148, 3) := by decide +kernel
theorem d_M_compare_12 : decode nb_M_compare 12 = .ok (.ifCond .ne 7, 3) := by decide +kernel
theorem d_M_compare_15 : decode nb_M_compare 15 = .ok (.iconst 1, 1) := by decide +kernel
theorem d_M_compare_16 : decode nb_M_compare 16 = .ok (.goto 26, 3) := by decide +kernel
theorem d_M_compare_19 : decode nb_M_compare 19 = .ok (.aload_n 0, 1) := by decide +kernel
theorem d_M_compare_20 : decode nb_M_compare 20 = .ok (.getfield 16, 3) := by decide +kernel
theorem d_M_compare_23 : decode nb_M_compare 23 = .ok (.iload_n 1, 1) := by decide +kernel
theorem d_M_compare_24 : decode nb_M_compare 24 = .ok (.iaload, 1) := by decide +kernel
theorem d_M_compare_25 : decode nb_M_compare 25 = .ok (.ifCond .lt 12, 3) := by decide +kernel
theorem d_M_compare_28 : decode nb_M_compare 28 = .ok (.aload_n 0, 1) := by decide +kernel
theorem d_M_compare_29 : decode nb_M_compare 29 = .ok (.getfield 16, 3) := by decide +kernel
theorem d_M_compare_32 : decode nb_M_compare 32 = .ok (.iload_n 2, 1) := by decide +kernel
theorem d_M_compare_33 : decode nb_M_compare 33 = .ok (.iaload, 1) := by decide +kernel
theorem d_M_compare_34 : decode nb_M_compare 34 = .ok (.ifCond .ge 7, 3) := by decide +kernel
theorem d_M_compare_37 : decode nb_M_compare 37 = .ok (.iconst 2, 1) := by decide +kernel
theorem d_M_compare_38 : decode nb_M_compare 38 = .ok (.goto 4, 3) := by decide +kernel
theorem d_M_compare_41 : decode nb_M_compare 41 = .ok (.iconst 0, 1) := by decide +kernel
theorem d_M_compare_42 : decode nb_M_compare 42 = .ok (.putfield 33, 3) := by decide +kernel
theorem d_M_compare_45 : decode nb_M_compare 45 = .ok (.aload_n 0, 1) := by decide +kernel
theorem d_M_compare_46 : decode nb_M_compare 46 = .ok (.getfield 33, 3) := by decide +kernel
theorem d_M_compare_49 : decode nb_M_compare 49 = .ok (.ifCond .le 5, 3) := by decide +kernel
theorem d_M_compare_52 : decode nb_M_compare 52 = .ok (.iconst 0, 1) := by decide +kernel
theorem d_M_compare_53 : decode nb_M_compare 53 = .ok (.ireturn, 1) := by decide +kernel
theorem d_M_compare_54 : decode nb_M_compare 54 = .ok (.aload_n 0, 1) := by decide +kernel
theorem d_M_compare_55 : decode nb_M_compare 55 = .ok (.iload_n 1, 1) := by decide +kernel
theorem d_M_compare_56 : decode nb_M_compare 56 = .ok (.iload_n 2, 1) := by decide +kernel
theorem d_M_compare_57 : decode nb_M_compare 57 = .ok (.invokevirtual 196, 3) := by decide +kernel
theorem d_M_compare_60 : decode nb_M_compare 60 = .ok (.istore_n 3, 1) := by decide +kernel
theorem d_M_compare_61 : decode nb_M_compare 61 = .ok (.iload_n 3, 1) := by decide +kernel
theorem d_M_compare_62 : decode nb_M_compare 62 = .ok (.bipush 7, 2) := by decide +kernel
theorem d_M_compare_64 : decode nb_M_compare 64 = .ok (.if_icmp .le 75, 3) := by decide +kernel
theorem d_M_compare_67 : decode nb_M_compare 67 = .ok (.iload_n 3, 1) := by decide +kernel
theorem d_M_compare_68 : decode nb_M_compare 68 = .ok (.bipush 8, 2) := by decide +kernel
theorem d_M_compare_70 : decode nb_M_compare 70 = .ok (.if_icmp .ne 13, 3) := by decide +kernel
theorem d_M_compare_73 : decode nb_M_compare 73 = .ok (.aload_n 0, 1) := by decide +kernel
theorem d_M_compare_74 : decode nb_M_compare 74 = .ok (.iload_n 1, 1) := by decide +kernel
theorem d_M_compare_75 : decode nb_M_compare 75 = .ok (.invokevirtual 200, 3) := by decide +kernel
theorem d_M_compare_78 : decode nb_M_compare 78 = .ok (.d2f, 1) := by decide +kernel
theorem d_M_compare_79 : decode nb_M_compare 79 = .ok (.f2d, 1) := by decide +kernel
theorem d_M_compare_80 : decode nb_M_compare 80 = .ok (.goto 8, 3) := by decide +kernel
theorem d_M_compare_83 : decode nb_M_compare 83 = .ok (.aload_n 0, 1) := by decide +kernel
theorem d_M_compare_84 : decode nb_M_compare 84 = .ok (.iload_n 1, 1) := by decide +kernel
theorem d_M_compare_85 : decode nb_M_compare 85 = .ok (.invokevirtual 200, 3) := by decide +kernel
theorem d_M_compare_88 : decode nb_M_compare 88 = .ok (.dstore 4, 2) := by decide +kernel
theorem d_M_compare_90 : decode nb_M_compare 90 = .ok (.iload_n 3, 1) := by decide +kernel
theorem d_M_compare_91 : decode nb_M_compare 91 = .ok (.bipush 8, 2) := by decide +kernel
theorem d_M_compare_93 : decode nb_M_compare 93 = .ok (.if_icmp .ne 13, 3) := by decide +kernel
theorem d_M_compare_96 : decode nb_M_compare 96 = .ok (.aload_n 0, 1) := by decide +kernel
theorem d_M_compare_97 : decode nb_M_compare 97 = .ok (.iload_n 2, 1) := by decide +kernel
theorem d_M_compare_98 : decode nb_M_compare 98 = .ok (.invokevirtual 200, 3) := by decide +kernel
theorem d_M_compare_101 : decode nb_M_compare 101 = .ok (.d2f, 1) := by decide +kernel
theorem d_M_compare_102 : decode nb_M_compare 102 = .ok (.f2d, 1) := by decide +kernel
theorem d_M_compare_103 : decode nb_M_compare 103 = .ok (.goto 8, 3) := by decide +kernel
theorem d_M_compare_106 : decode nb_M_compare 106 = .ok (.aload_n 0, 1) := by decide +kernel
theorem d_M_compare_107 : decode nb_M_compare 107 = .ok (.iload_n 2, 1) := by decide +kernel
theorem d_M_compare_108 : decode nb_M_compare 108 = .ok (.invokevirtual 200, 3) := by decide +kernel
theorem d_M_compare_111 : decode nb_M_compare 111 = .ok (.dstore 6, 2) := by decide +kernel
theorem d_M_compare_113 : decode nb_M_compare 113 = .ok (.dload 4, 2) := by decide +kernel
theorem d_M_compare_115 : decode nb_M_compare 115 = .ok (.dload 6, 2) := by decide +kernel
theorem d_M_compare_117 : decode nb_M_compare 117 = .ok (.dcmp .g, 1) := by decide +kernel
theorem d_M_compare_118 : decode nb_M_compare 118 = .ok (.ifCond .ge 7, 3) := by decide +kernel
theorem d_M_compare_121 : decode nb_M_compare 121 = .ok (.iconst (-1), 1) := by decide +kernel
theorem d_M_compare_122 : decode nb_M_compare 122 = .ok (.goto 16, 3) := by decide +kernel
theorem d_M_compare_125 : decode nb_M_compare 125 = .ok (.dload 4, 2) := by decide +kernel
theorem d_M_compare_127 : decode nb_M_compare 127 = .ok (.dload 6, 2) := by decide +kernel
theorem d_M_compare_129 : decode nb_M_compare 129 = .ok (.dcmp .l, 1) := by decide +kernel
theorem d_M_compare_130 : decode nb_M_compare 130 = .ok (.ifCond .le 7, 3) := by decide +kernel
theorem d_M_compare_133 : decode nb_M_compare 133 = .ok (.iconst 1, 1) := by decide +kernel
theorem d_M_compare_134 : decode nb_M_compare 134 = .ok (.goto 4, 3) := by decide +kernel
theorem d_M_compare_137 : decode nb_M_compare 137 = .ok (.iconst 0, 1) := by decide +kernel
theorem d_M_compare_138 : decode nb_M_compare 138 = .ok (.ireturn, 1) := by decide +kernel
theorem d_M_compare_139 : decode nb_M_compare 139 = .ok (.aload_n 0, 1) := by decide +kernel
theorem d_M_compare_140 : decode nb_M_compare 140 = .ok (.getfield 19, 3) := by decide +kernel
theorem d_M_compare_143 : decode nb_M_compare 143 = .ok (.iload_n 1, 1) := by decide +kernel
theorem d_M_compare_144 : decode nb_M_compare 144 = .ok (.laload, 1) := by decide +kernel
theorem d_M_compare_145 : decode nb_M_compare 145 = .ok (.aload_n 0, 1) := by decide +kernel
theorem d_M_compare_146 : decode nb_M_compare 146 = .ok (.getfield 23, 3) := by decide +kernel
theorem d_M_compare_149 : decode nb_M_compare 149 = .ok (.iload_n 1, 1) := by decide +kernel
theorem d_M_compare_150 : decode nb_M_compare 150 = .ok (.iaload, 1) := by decide +kernel
theorem d_M_compare_151 : decode nb_M_compare 151 = .ok (.invokestatic 42, 3) := by decide +kernel
theorem d_M_compare_154 : decode nb_M_compare 154 = .ok (.ldiv, 1) := by decide +kernel
theorem d_M_compare_155 : decode nb_M_compare 155 = .ok (.lstore 4, 2) := by decide +kernel
theorem d_M_compare_157 : decode nb_M_compare 157 = .ok (.aload_n 0, 1) := by decide +kernel
theorem d_M_compare_158 : decode nb_M_compare 158 = .ok (.getfield 19, 3) := by decide +kernel
theorem d_M_compare_161 : decode nb_M_compare 161 = .ok (.iload_n 2, 1) := by decide +kernel
theorem d_M_compare_162 : decode nb_M_compare 162 = .ok (.laload, 1) := by decide +kernel
theorem d_M_compare_163 : decode nb_M_compare 163 = .ok (.aload_n 0, 1) := by decide +kernel
theorem d_M_compare_164 : decode nb_M_compare 164 = .ok (.getfield 23, 3) := by decide +kernel
theorem d_M_compare_167 : decode nb_M_compare 167 = .ok (.iload_n 2, 1) := by decide +kernel
theorem d_M_compare_168 : decode nb_M_compare 168 = .ok (.iaload, 1) := by decide +kernel
theorem d_M_compare_169 : decode nb_M_compare 169 = .ok (.invokestatic 42, 3) := by decide +kernel
theorem d_M_compare_172 : decode nb_M_compare 172 = .ok (.ldiv, 1) := by decide +kernel
theorem d_M_compare_173 : decode nb_M_compare 173 = .ok (.lstore 6, 2) := by decide +kernel
theorem d_M_compare_175 : decode nb_M_compare 175 = .ok (.aload_n 0, 1) := by decide +kernel
theorem d_M_compare_176 : decode nb_M_compare 176 = .ok (.getfield 19, 3) := by decide +kernel
theorem d_M_compare_179 : decode nb_M_compare 179 = .ok (.iload_n 1, 1) := by decide +kernel
theorem d_M_compare_180 : decode nb_M_compare 180 = .ok (.laload, 1) := by decide +kernel
theorem d_M_compare_181 : decode nb_M_compare 181 = .ok (.aload_n 0, 1) := by decide +kernel
theorem d_M_compare_182 : decode nb_M_compare 182 = .ok (.getfield 23, 3) := by decide +kernel
theorem d_M_compare_185 : decode nb_M_compare 185 = .ok (.iload_n 1, 1) := by decide +kernel
theorem d_M_compare_186 : decode nb_M_compare 186 = .ok (.iaload, 1) := by decide +kernel
theorem d_M_compare_187 : decode nb_M_compare 187 = .ok (.invokestatic 93, 3) := by decide +kernel
theorem d_M_compare_190 : decode nb_M_compare 190 = .ok (.lstore 8, 2) := by decide +kernel
theorem d_M_compare_192 : decode nb_M_compare 192 = .ok (.aload_n 0, 1) := by decide +kernel
theorem d_M_compare_193 : decode nb_M_compare 193 = .ok (.getfield 19, 3) := by decide +kernel
theorem d_M_compare_196 : decode nb_M_compare 196 = .ok (.iload_n 2, 1) := by decide +kernel
theorem d_M_compare_197 : decode nb_M_compare 197 = .ok (.laload, 1) := by decide +kernel
theorem d_M_compare_198 : decode nb_M_compare 198 = .ok (.aload_n 0, 1) := by decide +kernel
theorem d_M_compare_199 : decode nb_M_compare 199 = .ok (.getfield 23, 3) := by decide +kernel
theorem d_M_compare_202 : decode nb_M_compare 202 = .ok (.iload_n 2, 1) := by decide +kernel
theorem d_M_compare_203 : decode nb_M_compare 203 = .ok (.iaload, 1) := by decide +kernel
theorem d_M_compare_204 : decode nb_M_compare 204 = .ok (.invokestatic 93, 3) := by decide +kernel
theorem d_M_compare_207 : decode nb_M_compare 207 = .ok (.lstore 10, 2) := by decide +kernel
theorem d_M_compare_209 : decode nb_M_compare 209 = .ok (.lload 4, 2) := by decide +kernel
theorem d_M_compare_211 : decode nb_M_compare 211 = .ok (.lload 6, 2) := by decide +kernel
theorem d_M_compare_213 : decode nb_M_compare 213 = .ok (.lcmp, 1) := by decide +kernel
theorem d_M_compare_214 : decode nb_M_compare 214 = .ok (.ifCond .lt 19, 3) := by decide +kernel
theorem d_M_compare_217 : decode nb_M_compare 217 = .ok (.lload 4, 2) := by decide +kernel
theorem d_M_compare_219 : decode nb_M_compare 219 = .ok (.lload 6, 2) := by decide +kernel
theorem d_M_compare_221 : decode nb_M_compare 221 = .ok (.lcmp, 1) := by decide +kernel
theorem d_M_compare_222 : decode nb_M_compare 222 = .ok (.ifCond .ne 15, 3) := by decide +kernel
theorem d_M_compare_225 : decode nb_M_compare 225 = .ok (.lload 8, 2) := by decide +kernel
theorem d_M_compare_227 : decode nb_M_compare 227 = .ok (.lload 10, 2) := by decide +kernel
theorem d_M_compare_229 : decode nb_M_compare 229 = .ok (.lcmp, 1) := by decide +kernel
theorem d_M_compare_230 : decode nb_M_compare 230 = .ok (.ifCond .ge 7, 3) := by decide +kernel
theorem d_M_compare_233 : decode nb_M_compare 233 = .ok (.iconst (-1), 1) := by decide +kernel
theorem d_M_compare_234 : decode nb_M_compare 234 = .ok (.goto 24, 3) := by decide +kernel
theorem d_M_compare_237 : decode nb_M_compare 237 = .ok (.lload 4, 2) := by decide +kernel
theorem d_M_compare_239 : decode nb_M_compare 239 = .ok (.lload 6, 2) := by decide +kernel
theorem d_M_compare_241 : decode nb_M_compare 241 = .ok (.lcmp, 1) := by decide +kernel
theorem d_M_compare_242 : decode nb_M_compare 242 = .ok (.ifCond .gt 11, 3) := by decide +kernel
theorem d_M_compare_245 : decode nb_M_compare 245 = .ok (.lload 8, 2) := by decide +kernel
theorem d_M_compare_247 : decode nb_M_compare 247 = .ok (.lload 10, 2) := by decide +kernel
theorem d_M_compare_249 : decode nb_M_compare 249 = .ok (.lcmp, 1) := by decide +kernel
theorem d_M_compare_250 : decode nb_M_compare 250 = .ok (.ifCond .le 7, 3) := by decide +kernel
theorem d_M_compare_253 : decode nb_M_compare 253 = .ok (.iconst 1, 1) := by decide +kernel
theorem d_M_compare_254 : decode nb_M_compare 254 = .ok (.goto 4, 3) := by decide +kernel
theorem d_M_compare_257 : decode nb_M_compare 257 = .ok (.iconst 0, 1) := by decide +kernel
theorem d_M_compare_258 : decode nb_M_compare 258 = .ok (.ireturn, 1) := by decide +kernel
abbrev rm_M_compare : Room := ({ frames := 3, cells := 0, slots := 0, locals := 64 })
theorem w_M_compare_138 {post : Int32 → nf_M → Prop} (hfl : l.flags = flags0) (K : nf_K p s m args meth c "NumberForgeModel" nb_M_compare 12 (some FieldType.int) D a sz) : ∀ (xy0 : Int32) (M : nf_M) (H : Heap) (locs : List Loc) (ls : Array Slot), B_M_compare_138 post xy0 M → lv_has ls 12 [] → nf_W D a s sz H locs M → W p l e rm_M_compare s m args below meth c H locs 0 0 (nf_MQ below (nf_Q nf_jI D a post ex (nf_A a sz)) args s rm_M_compare.cells rm_M_compare.slots (nf_A a sz)) (F0 m 138 ls [.int xy0]) := by
  have hx := K.1
  have hb := K.2.1
  intro xy0 M H locs ls h hl hw
  exact nf_iret K hw d_M_compare_138 rfl (Nat.le_of_ble_eq_true rfl) (Nat.le_of_ble_eq_true rfl) (r := xy0) rfl h
theorem w_M_compare_111 {post : Int32 → nf_M → Prop} (hfl : l.flags = flags0) (K : nf_K p s m args meth c "NumberForgeModel" nb_M_compare 12 (some FieldType.int) D a sz) : ∀ (x4 : UInt64) (xy0 : UInt64) (M : nf_M) (H : Heap) (locs : List Loc) (ls : Array Slot), B_M_compare_111 post x4 xy0 M → lv_has ls 12 [(4, .double x4)] → nf_W D a s sz H locs M → W p l e rm_M_compare s m args below meth c H locs 0 0 (nf_MQ below (nf_Q nf_jI D a post ex (nf_A a sz)) args s rm_M_compare.cells rm_M_compare.slots (nf_A a sz)) (F0 m 111 ls [.double xy0]) := by
  have hx := K.1
  have hb := K.2.1
  intro x4 xy0 M H locs ls h hl hw
  refine lv_dstore (lv' := [(6, .double xy0), (4, .double x4)]) hx hb d_M_compare_111 hl (by decide) rfl (fun ls hl => ?_)
  refine lv_dload hx hb d_M_compare_113 (lv_at hl 1 rfl) ?_
  refine lv_dload hx hb d_M_compare_115 (lv_at hl 0 rfl) ?_
  refine nf_dg_ge hx hb d_M_compare_117 d_M_compare_118 (tgt := 125) (by decide) (fun hc => ?_) (fun hc => ?_)
  · have h := h.1 hc
    refine lv_iconst (v := (-1 : Int32)) hx hb d_M_compare_121 (by decide) ?_
    refine lv_goto hx hb d_M_compare_122 (tgt := 138) (by decide) ?_
    exact w_M_compare_138 hfl K (-1 : Int32) M _ _ _ h (lv_sub hl [] rfl) hw
  · have h := h.2 hc
    refine lv_dload hx hb d_M_compare_125 (lv_at hl 1 rfl) ?_
    refine lv_dload hx hb d_M_compare_127 (lv_at hl 0 rfl) ?_
    refine nf_dl_le hx hb d_M_compare_129 d_M_compare_130 (tgt := 137) (by decide) (fun hc => ?_) (fun hc => ?_)
    · have h := h.1 hc
      refine lv_iconst (v := (1 : Int32)) hx hb d_M_compare_133 (by decide) ?_
      refine lv_goto hx hb d_M_compare_134 (tgt := 138) (by decide) ?_
      exact w_M_compare_138 hfl K (1 : Int32) M _ _ _ h (lv_sub hl [] rfl) hw
    · have h := h.2 hc
      refine lv_iconst (v := (0 : Int32)) hx hb d_M_compare_137 (by decide) ?_
      exact w_M_compare_138 hfl K (0 : Int32) M _ _ _ h (lv_sub hl [] rfl) hw
theorem w_M_compare_88 {post : Int32 → nf_M → Prop} (hfl : l.flags = flags0) (K : nf_K p s m args meth c "NumberForgeModel" nb_M_compare 12 (some FieldType.int) D a sz) : ∀ (x2 : Int32) (x3 : Int32) (xy0 : UInt64) (M : nf_M) (H : Heap) (locs : List Loc) (ls : Array Slot), B_M_compare_88 post x2 x3 xy0 M → lv_has ls 12 [(0, .ref (a 19)), (2, .int x2), (3, .int x3)] → nf_W D a s sz H locs M → W p l e rm_M_compare s m args below meth c H locs 0 0 (nf_MQ below (nf_Q nf_jI D a post ex (nf_A a sz)) args s rm_M_compare.cells rm_M_compare.slots (nf_A a sz)) (F0 m 88 ls [.double xy0]) := by
  have hx := K.1
  have hb := K.2.1
  intro x2 x3 xy0 M H locs ls h hl hw
  refine lv_dstore (lv' := [(4, .double xy0), (0, .ref (a 19)), (2, .int x2), (3, .int x3)]) hx hb d_M_compare_88 hl (by decide) rfl (fun ls hl => ?_)
  refine lv_iload_n hx hb d_M_compare_90 rfl (lv_at hl 3 rfl) ?_
  refine lv_bipush (v := (8 : Int32)) hx hb d_M_compare_91 (by decide) ?_
  refine nf_ic_ne hx hb d_M_compare_93 (tgt := 106) (by decide) (fun hc => ?_) (fun hc => ?_)
  · have h := h.1 hc
    refine lv_aload_n hx hb d_M_compare_96 rfl (lv_at hl 1 rfl) ?_
    refine lv_iload_n hx hb d_M_compare_97 rfl (lv_at hl 2 rfl) ?_
    refine nf_callW (ex := (fun _ _ => False)) (As := [.ref (a 19), .int x2]) (st0 := [.int x2, .ref (a 19)]) (rest := []) K hw (nf_invV hx hb K.2.2.2.1 (nf_Kg K nw_1086) (nf_Kg K nw_1088) (nf_Kg K nx_M_asDouble) (nf_Kg K nw_1089) ⟨by decide, by decide⟩ (nf_rcv K hw 19 7 rfl rfl) rfl nl_M_asDouble rfl d_M_compare_98) (c_M_asDouble l hfl x2) nw_1089 nw_9 rfl ⟨by decide, by decide⟩ (Nat.le_of_ble_eq_true rfl) hl.1 ⟨Nat.le_of_ble_eq_true rfl, Nat.le_of_ble_eq_true rfl⟩ h (fun _ _ h => h.elim) (fun r1 M2 H locs h hw => ?_)
    refine W.eq (g2 := F0 m 101 ls [.double r1]) rfl ?_
    obtain ⟨g3, h⟩ := h
    refine lv_d2f hx hb d_M_compare_101 g3 ?_
    obtain ⟨g4, h⟩ := h
    refine lv_f2d hx hb d_M_compare_102 g4 ?_
    refine lv_goto hx hb d_M_compare_103 (tgt := 111) (by decide) ?_
    exact w_M_compare_111 hfl K xy0 (FP.f2d (FP.d2f r1)) M2 _ _ _ h (lv_sub hl [0] rfl) hw
  · have h := h.2 hc
    refine lv_aload_n hx hb d_M_compare_106 rfl (lv_at hl 1 rfl) ?_
    refine lv_iload_n hx hb d_M_compare_107 rfl (lv_at hl 2 rfl) ?_
    refine nf_callW (ex := (fun _ _ => False)) (As := [.ref (a 19), .int x2]) (st0 := [.int x2, .ref (a 19)]) (rest := []) K hw (nf_invV hx hb K.2.2.2.1 (nf_Kg K nw_1086) (nf_Kg K nw_1088) (nf_Kg K nx_M_asDouble) (nf_Kg K nw_1089) ⟨by decide, by decide⟩ (nf_rcv K hw 19 7 rfl rfl) rfl nl_M_asDouble rfl d_M_compare_108) (c_M_asDouble l hfl x2) nw_1089 nw_9 rfl ⟨by decide, by decide⟩ (Nat.le_of_ble_eq_true rfl) hl.1 ⟨Nat.le_of_ble_eq_true rfl, Nat.le_of_ble_eq_true rfl⟩ h (fun _ _ h => h.elim) (fun r5 M6 H locs h hw => ?_)
    refine W.eq (g2 := F0 m 111 ls [.double r5]) rfl ?_
    exact w_M_compare_111 hfl K xy0 r5 M6 _ _ _ h (lv_sub hl [0] rfl) hw
theorem w_M_compare_258 {post : Int32 → nf_M → Prop} (hfl : l.flags = flags0) (K : nf_K p s m args meth c "NumberForgeModel" nb_M_compare 12 (some FieldType.int) D a sz) : ∀ (xy0 : Int32) (M : nf_M) (H : Heap) (locs : List Loc) (ls : Array Slot), B_M_compare_258 post xy0 M → lv_has ls 12 [] → nf_W D a s sz H locs M → W p l e rm_M_compare s m args below meth c H locs 0 0 (nf_MQ below (nf_Q nf_jI D a post ex (nf_A a sz)) args s rm_M_compare.cells rm_M_compare.slots (nf_A a sz)) (F0 m 258 ls [.int xy0]) := by
  have hx := K.1
  have hb := K.2.1
  intro xy0 M H locs ls h hl hw
  exact nf_iret K hw d_M_compare_258 rfl (Nat.le_of_ble_eq_true rfl) (Nat.le_of_ble_eq_true rfl) (r := xy0) rfl h
theorem w_M_compare_233 {post : Int32 → nf_M → Prop} (hfl : l.flags = flags0) (K : nf_K p s m args meth c "NumberForgeModel" nb_M_compare 12 (some FieldType.int) D a sz) : ∀ (M : nf_M) (H : Heap) (locs : List Loc) (ls : Array Slot), B_M_compare_233 post  M → lv_has ls 12 [] → nf_W D a s sz H locs M → W p l e rm_M_compare s m args below meth c H locs 0 0 (nf_MQ below (nf_Q nf_jI D a post ex (nf_A a sz)) args s rm_M_compare.cells rm_M_compare.slots (nf_A a sz)) (F0 m 233 ls []) := by
  have hx := K.1
  have hb := K.2.1
  intro  M H locs ls h hl hw
  refine lv_iconst (v := (-1 : Int32)) hx hb d_M_compare_233 (by decide) ?_
  refine lv_goto hx hb d_M_compare_234 (tgt := 258) (by decide) ?_
  exact w_M_compare_258 hfl K (-1 : Int32) M _ _ _ h (lv_sub hl [] rfl) hw
theorem w_M_compare_253 {post : Int32 → nf_M → Prop} (hfl : l.flags = flags0) (K : nf_K p s m args meth c "NumberForgeModel" nb_M_compare 12 (some FieldType.int) D a sz) : ∀ (M : nf_M) (H : Heap) (locs : List Loc) (ls : Array Slot), B_M_compare_253 post  M → lv_has ls 12 [] → nf_W D a s sz H locs M → W p l e rm_M_compare s m args below meth c H locs 0 0 (nf_MQ below (nf_Q nf_jI D a post ex (nf_A a sz)) args s rm_M_compare.cells rm_M_compare.slots (nf_A a sz)) (F0 m 253 ls []) := by
  have hx := K.1
  have hb := K.2.1
  intro  M H locs ls h hl hw
  refine lv_iconst (v := (1 : Int32)) hx hb d_M_compare_253 (by decide) ?_
  refine lv_goto hx hb d_M_compare_254 (tgt := 258) (by decide) ?_
  exact w_M_compare_258 hfl K (1 : Int32) M _ _ _ h (lv_sub hl [] rfl) hw
theorem w_M_compare_237 {post : Int32 → nf_M → Prop} (hfl : l.flags = flags0) (K : nf_K p s m args meth c "NumberForgeModel" nb_M_compare 12 (some FieldType.int) D a sz) : ∀ (x4 : Int64) (x6 : Int64) (x8 : Int64) (x10 : Int64) (M : nf_M) (H : Heap) (locs : List Loc) (ls : Array Slot), B_M_compare_237 post x4 x6 x8 x10 M → lv_has ls 12 [(4, .long x4), (6, .long x6), (8, .long x8), (10, .long x10)] → nf_W D a s sz H locs M → W p l e rm_M_compare s m args below meth c H locs 0 0 (nf_MQ below (nf_Q nf_jI D a post ex (nf_A a sz)) args s rm_M_compare.cells rm_M_compare.slots (nf_A a sz)) (F0 m 237 ls []) := by
  have hx := K.1
  have hb := K.2.1
  intro x4 x6 x8 x10 M H locs ls h hl hw
  refine lv_lload hx hb d_M_compare_237 (lv_at hl 0 rfl) ?_
  refine lv_lload hx hb d_M_compare_239 (lv_at hl 1 rfl) ?_
  refine nf_lc_gt hx hb d_M_compare_241 d_M_compare_242 (tgt := 253) (by decide) (fun hc => ?_) (fun hc => ?_)
  · have h := h.1 hc
    exact w_M_compare_253 hfl K  M _ _ _ h (lv_sub hl [] rfl) hw
  · have h := h.2 hc
    refine lv_lload hx hb d_M_compare_245 (lv_at hl 2 rfl) ?_
    refine lv_lload hx hb d_M_compare_247 (lv_at hl 3 rfl) ?_
    refine nf_lc_le hx hb d_M_compare_249 d_M_compare_250 (tgt := 257) (by decide) (fun hc => ?_) (fun hc => ?_)
    · have h := h.1 hc
      exact w_M_compare_253 hfl K  M _ _ _ h (lv_sub hl [] rfl) hw
    · have h := h.2 hc
      refine lv_iconst (v := (0 : Int32)) hx hb d_M_compare_257 (by decide) ?_
      exact w_M_compare_258 hfl K (0 : Int32) M _ _ _ h (lv_sub hl [] rfl) hw
theorem w_M_compare_42 {post : Int32 → nf_M → Prop} (hfl : l.flags = flags0) (K : nf_K p s m args meth c "NumberForgeModel" nb_M_compare 12 (some FieldType.int) D a sz) : ∀ (x1 : Int32) (x2 : Int32) (xy0 : Int32) (M : nf_M) (H : Heap) (locs : List Loc) (ls : Array Slot), B_M_compare_42 post x1 x2 xy0 M → lv_has ls 12 [(0, .ref (a 19)), (1, .int x1), (2, .int x2)] → nf_W D a s sz H locs M → W p l e rm_M_compare s m args below meth c H locs 0 0 (nf_MQ below (nf_Q nf_jI D a post ex (nf_A a sz)) args s rm_M_compare.cells rm_M_compare.slots (nf_A a sz)) (F0 m 42 ls [.int xy0, .ref (a 19)]) := by
  have hx := K.1
  have hb := K.2.1
  intro x1 x2 xy0 M H locs ls h hl hw
  refine nf_put (M' := ms_I M 19 0 xy0) K hw 19 7 0 nw_931 rfl rfl rfl ni_M ny_M nq_M nn_M (by decide) rfl rfl rfl rfl (Nat.le_of_ble_eq_true rfl) d_M_compare_42 (fun H locs hw => ?_)
  obtain ⟨M1, eM1⟩ : ∃ z, z = ms_I M 19 0 xy0 := ⟨_, rfl⟩
  rw [← eM1] at hw
  have h := h M1 eM1
  refine lv_aload_n hx hb d_M_compare_45 rfl (lv_at hl 0 rfl) ?_
  refine nf_get (v := .int (mg_I M1 19 0)) K hw 19 7 0 nw_931 rfl rfl ni_M (by decide) rfl rfl d_M_compare_46 ?_
  refine nf_if_le hx hb d_M_compare_49 (tgt := 54) (by decide) (fun hc => ?_) (fun hc => ?_)
  · have h := h.1 hc
    refine lv_iconst (v := (0 : Int32)) hx hb d_M_compare_52 (by decide) ?_
    exact nf_iret K hw d_M_compare_53 rfl (Nat.le_of_ble_eq_true rfl) (Nat.le_of_ble_eq_true rfl) (r := (0 : Int32)) rfl h
  · have h := h.2 hc
    refine lv_aload_n hx hb d_M_compare_54 rfl (lv_at hl 0 rfl) ?_
    refine lv_iload_n hx hb d_M_compare_55 rfl (lv_at hl 1 rfl) ?_
    refine lv_iload_n hx hb d_M_compare_56 rfl (lv_at hl 2 rfl) ?_
    refine nf_callW (ex := (fun _ _ => False)) (As := [.ref (a 19), .int x1, .int x2]) (st0 := [.int x2, .int x1, .ref (a 19)]) (rest := []) K hw (nf_invV hx hb K.2.2.2.1 (nf_Kg K nw_1082) (nf_Kg K nw_1084) (nf_Kg K nx_M_common) (nf_Kg K nw_1085) ⟨by decide, by decide⟩ (nf_rcv K hw 19 7 rfl rfl) rfl nl_M_common rfl d_M_compare_57) (c_M_common l hfl x1 x2) nw_1085 nw_9 rfl ⟨by decide, by decide⟩ (Nat.le_of_ble_eq_true rfl) hl.1 ⟨Nat.le_of_ble_eq_true rfl, Nat.le_of_ble_eq_true rfl⟩ h (fun _ _ h => h.elim) (fun r2 M3 H locs h hw => ?_)
    refine W.eq (g2 := F0 m 60 ls [.int r2]) rfl ?_
    refine lv_istore_n (lv' := [(3, .int r2), (0, .ref (a 19)), (1, .int x1), (2, .int x2)]) hx hb d_M_compare_60 rfl hl (by decide) rfl (fun ls hl => ?_)
    refine lv_iload_n hx hb d_M_compare_61 rfl (lv_at hl 0 rfl) ?_
    refine lv_bipush (v := (7 : Int32)) hx hb d_M_compare_62 (by decide) ?_
    refine nf_ic_le hx hb d_M_compare_64 (tgt := 139) (by decide) (fun hc => ?_) (fun hc => ?_)
    · have h := h.1 hc
      refine lv_iload_n hx hb d_M_compare_67 rfl (lv_at hl 0 rfl) ?_
      refine lv_bipush (v := (8 : Int32)) hx hb d_M_compare_68 (by decide) ?_
      refine nf_ic_ne hx hb d_M_compare_70 (tgt := 83) (by decide) (fun hc => ?_) (fun hc => ?_)
      · have h := h.1 hc
        refine lv_aload_n hx hb d_M_compare_73 rfl (lv_at hl 1 rfl) ?_
        refine lv_iload_n hx hb d_M_compare_74 rfl (lv_at hl 2 rfl) ?_
        refine nf_callW (ex := (fun _ _ => False)) (As := [.ref (a 19), .int x1]) (st0 := [.int x1, .ref (a 19)]) (rest := []) K hw (nf_invV hx hb K.2.2.2.1 (nf_Kg K nw_1086) (nf_Kg K nw_1088) (nf_Kg K nx_M_asDouble) (nf_Kg K nw_1089) ⟨by decide, by decide⟩ (nf_rcv K hw 19 7 rfl rfl) rfl nl_M_asDouble rfl d_M_compare_75) (c_M_asDouble l hfl x1) nw_1089 nw_9 rfl ⟨by decide, by decide⟩ (Nat.le_of_ble_eq_true rfl) hl.1 ⟨Nat.le_of_ble_eq_true rfl, Nat.le_of_ble_eq_true rfl⟩ h (fun _ _ h => h.elim) (fun r4 M5 H locs h hw => ?_)
        refine W.eq (g2 := F0 m 78 ls [.double r4]) rfl ?_
        obtain ⟨g6, h⟩ := h
        refine lv_d2f hx hb d_M_compare_78 g6 ?_
        obtain ⟨g7, h⟩ := h
        refine lv_f2d hx hb d_M_compare_79 g7 ?_
        refine lv_goto hx hb d_M_compare_80 (tgt := 88) (by decide) ?_
        exact w_M_compare_88 hfl K x2 r2 (FP.f2d (FP.d2f r4)) M5 _ _ _ h (lv_sub hl [1, 3, 0] rfl) hw
      · have h := h.2 hc
        refine lv_aload_n hx hb d_M_compare_83 rfl (lv_at hl 1 rfl) ?_
        refine lv_iload_n hx hb d_M_compare_84 rfl (lv_at hl 2 rfl) ?_
        refine nf_callW (ex := (fun _ _ => False)) (As := [.ref (a 19), .int x1]) (st0 := [.int x1, .ref (a 19)]) (rest := []) K hw (nf_invV hx hb K.2.2.2.1 (nf_Kg K nw_1086) (nf_Kg K nw_1088) (nf_Kg K nx_M_asDouble) (nf_Kg K nw_1089) ⟨by decide, by decide⟩ (nf_rcv K hw 19 7 rfl rfl) rfl nl_M_asDouble rfl d_M_compare_85) (c_M_asDouble l hfl x1) nw_1089 nw_9 rfl ⟨by decide, by decide⟩ (Nat.le_of_ble_eq_true rfl) hl.1 ⟨Nat.le_of_ble_eq_true rfl, Nat.le_of_ble_eq_true rfl⟩ h (fun _ _ h => h.elim) (fun r8 M9 H locs h hw => ?_)
        refine W.eq (g2 := F0 m 88 ls [.double r8]) rfl ?_
        exact w_M_compare_88 hfl K x2 r2 r8 M9 _ _ _ h (lv_sub hl [1, 3, 0] rfl) hw
    · have h := h.2 hc
      refine lv_aload_n hx hb d_M_compare_139 rfl (lv_at hl 1 rfl) ?_
      refine nf_get (v := .ref (a 23)) K hw 19 7 6 nw_937 rfl rfl ni_M (by decide) rfl rfl d_M_compare_140 ?_
      refine lv_iload_n hx hb d_M_compare_143 rfl (lv_at hl 2 rfl) ?_
      obtain ⟨g10, h⟩ := h
      refine nf_lald K hw 23 6 rfl rfl g10 d_M_compare_144 ?_
      refine lv_aload_n hx hb d_M_compare_145 rfl (lv_at hl 1 rfl) ?_
      refine nf_get (v := .ref (a 24)) K hw 19 7 7 nw_938 rfl rfl ni_M (by decide) rfl rfl d_M_compare_146 ?_
      refine lv_iload_n hx hb d_M_compare_149 rfl (lv_at hl 2 rfl) ?_
      obtain ⟨g11, h⟩ := h
      refine nf_iald K hw 24 7 rfl rfl g11 d_M_compare_150 ?_
      refine nf_callW (ex := (fun _ _ => False)) (As := [.int (mg_I M3 24 x1.toNatClampNeg)]) (st0 := [.int (mg_I M3 24 x1.toNatClampNeg), .long (mg_L M3 23 x1.toNatClampNeg)]) (rest := [.long (mg_L M3 23 x1.toNatClampNeg)]) K hw (nf_invS hx hb K.2.2.2.1 (nf_Kg K nw_1066) (nf_Kg K nw_1067) (nf_Kg K nw_9) (nf_Kg K nw_1068) ⟨by decide, by decide⟩ rfl nl_M_power rfl d_M_compare_151) (c_M_power l hfl (mg_I M3 24 x1.toNatClampNeg)) nw_1068 nw_9 rfl ⟨by decide, by decide⟩ (Nat.le_of_ble_eq_true rfl) hl.1 ⟨Nat.le_of_ble_eq_true rfl, Nat.le_of_ble_eq_true rfl⟩ h (fun _ _ h => h.elim) (fun r12 M13 H locs h hw => ?_)
      refine W.eq (g2 := F0 m 154 ls [.long r12, .long (mg_L M3 23 x1.toNatClampNeg)]) rfl ?_
      obtain ⟨g14, h⟩ := h
      refine lv_ldiv hx hb d_M_compare_154 g14 ?_
      refine lv_topl (fun t15 et15 => ?_)
      have h := h t15 et15
      refine lv_lstore (lv' := [(4, .long t15), (3, .int r2), (0, .ref (a 19)), (1, .int x1), (2, .int x2)]) hx hb d_M_compare_155 hl (by decide) rfl (fun ls hl => ?_)
      refine lv_aload_n hx hb d_M_compare_157 rfl (lv_at hl 2 rfl) ?_
      refine nf_get (v := .ref (a 23)) K hw 19 7 6 nw_937 rfl rfl ni_M (by decide) rfl rfl d_M_compare_158 ?_
      refine lv_iload_n hx hb d_M_compare_161 rfl (lv_at hl 4 rfl) ?_
      obtain ⟨g16, h⟩ := h
      refine nf_lald K hw 23 6 rfl rfl g16 d_M_compare_162 ?_
      refine lv_aload_n hx hb d_M_compare_163 rfl (lv_at hl 2 rfl) ?_
      refine nf_get (v := .ref (a 24)) K hw 19 7 7 nw_938 rfl rfl ni_M (by decide) rfl rfl d_M_compare_164 ?_
      refine lv_iload_n hx hb d_M_compare_167 rfl (lv_at hl 4 rfl) ?_
      obtain ⟨g17, h⟩ := h
      refine nf_iald K hw 24 7 rfl rfl g17 d_M_compare_168 ?_
      refine nf_callW (ex := (fun _ _ => False)) (As := [.int (mg_I M13 24 x2.toNatClampNeg)]) (st0 := [.int (mg_I M13 24 x2.toNatClampNeg), .long (mg_L M13 23 x2.toNatClampNeg)]) (rest := [.long (mg_L M13 23 x2.toNatClampNeg)]) K hw (nf_invS hx hb K.2.2.2.1 (nf_Kg K nw_1066) (nf_Kg K nw_1067) (nf_Kg K nw_9) (nf_Kg K nw_1068) ⟨by decide, by decide⟩ rfl nl_M_power rfl d_M_compare_169) (c_M_power l hfl (mg_I M13 24 x2.toNatClampNeg)) nw_1068 nw_9 rfl ⟨by decide, by decide⟩ (Nat.le_of_ble_eq_true rfl) hl.1 ⟨Nat.le_of_ble_eq_true rfl, Nat.le_of_ble_eq_true rfl⟩ h (fun _ _ h => h.elim) (fun r18 M19 H locs h hw => ?_)
      refine W.eq (g2 := F0 m 172 ls [.long r18, .long (mg_L M13 23 x2.toNatClampNeg)]) rfl ?_
      obtain ⟨g20, h⟩ := h
      refine lv_ldiv hx hb d_M_compare_172 g20 ?_
      refine lv_topl (fun t21 et21 => ?_)
      have h := h t21 et21
      refine lv_lstore (lv' := [(6, .long t21), (4, .long t15), (3, .int r2), (0, .ref (a 19)), (1, .int x1), (2, .int x2)]) hx hb d_M_compare_173 hl (by decide) rfl (fun ls hl => ?_)
      refine lv_aload_n hx hb d_M_compare_175 rfl (lv_at hl 3 rfl) ?_
      refine nf_get (v := .ref (a 23)) K hw 19 7 6 nw_937 rfl rfl ni_M (by decide) rfl rfl d_M_compare_176 ?_
      refine lv_iload_n hx hb d_M_compare_179 rfl (lv_at hl 4 rfl) ?_
      obtain ⟨g22, h⟩ := h
      refine nf_lald K hw 23 6 rfl rfl g22 d_M_compare_180 ?_
      refine lv_aload_n hx hb d_M_compare_181 rfl (lv_at hl 3 rfl) ?_
      refine nf_get (v := .ref (a 24)) K hw 19 7 7 nw_938 rfl rfl ni_M (by decide) rfl rfl d_M_compare_182 ?_
      refine lv_iload_n hx hb d_M_compare_185 rfl (lv_at hl 4 rfl) ?_
      obtain ⟨g23, h⟩ := h
      refine nf_iald K hw 24 7 rfl rfl g23 d_M_compare_186 ?_
      refine nf_callW (ex := (fun _ _ => False)) (As := [.long (mg_L M19 23 x1.toNatClampNeg), .int (mg_I M19 24 x1.toNatClampNeg)]) (st0 := [.int (mg_I M19 24 x1.toNatClampNeg), .long (mg_L M19 23 x1.toNatClampNeg)]) (rest := []) K hw (nf_invS hx hb K.2.2.2.1 (nf_Kg K nw_1120) (nf_Kg K nw_1121) (nf_Kg K nw_9) (nf_Kg K nw_1122) ⟨by decide, by decide⟩ rfl nl_M_millionths rfl d_M_compare_187) (c_M_millionths l hfl (mg_L M19 23 x1.toNatClampNeg) (mg_I M19 24 x1.toNatClampNeg)) nw_1122 nw_9 rfl ⟨by decide, by decide⟩ (Nat.le_of_ble_eq_true rfl) hl.1 ⟨Nat.le_of_ble_eq_true rfl, Nat.le_of_ble_eq_true rfl⟩ h (fun _ _ h => h.elim) (fun r24 M25 H locs h hw => ?_)
      refine W.eq (g2 := F0 m 190 ls [.long r24]) rfl ?_
      refine lv_lstore (lv' := [(8, .long r24), (6, .long t21), (4, .long t15), (3, .int r2), (0, .ref (a 19)), (1, .int x1), (2, .int x2)]) hx hb d_M_compare_190 hl (by decide) rfl (fun ls hl => ?_)
      refine lv_aload_n hx hb d_M_compare_192 rfl (lv_at hl 4 rfl) ?_
      refine nf_get (v := .ref (a 23)) K hw 19 7 6 nw_937 rfl rfl ni_M (by decide) rfl rfl d_M_compare_193 ?_
      refine lv_iload_n hx hb d_M_compare_196 rfl (lv_at hl 6 rfl) ?_
      obtain ⟨g26, h⟩ := h
      refine nf_lald K hw 23 6 rfl rfl g26 d_M_compare_197 ?_
      refine lv_aload_n hx hb d_M_compare_198 rfl (lv_at hl 4 rfl) ?_
      refine nf_get (v := .ref (a 24)) K hw 19 7 7 nw_938 rfl rfl ni_M (by decide) rfl rfl d_M_compare_199 ?_
      refine lv_iload_n hx hb d_M_compare_202 rfl (lv_at hl 6 rfl) ?_
      obtain ⟨g27, h⟩ := h
      refine nf_iald K hw 24 7 rfl rfl g27 d_M_compare_203 ?_
      refine nf_callW (ex := (fun _ _ => False)) (As := [.long (mg_L M25 23 x2.toNatClampNeg), .int (mg_I M25 24 x2.toNatClampNeg)]) (st0 := [.int (mg_I M25 24 x2.toNatClampNeg), .long (mg_L M25 23 x2.toNatClampNeg)]) (rest := []) K hw (nf_invS hx hb K.2.2.2.1 (nf_Kg K nw_1120) (nf_Kg K nw_1121) (nf_Kg K nw_9) (nf_Kg K nw_1122) ⟨by decide, by decide⟩ rfl nl_M_millionths rfl d_M_compare_204) (c_M_millionths l hfl (mg_L M25 23 x2.toNatClampNeg) (mg_I M25 24 x2.toNatClampNeg)) nw_1122 nw_9 rfl ⟨by decide, by decide⟩ (Nat.le_of_ble_eq_true rfl) hl.1 ⟨Nat.le_of_ble_eq_true rfl, Nat.le_of_ble_eq_true rfl⟩ h (fun _ _ h => h.elim) (fun r28 M29 H locs h hw => ?_)
      refine W.eq (g2 := F0 m 207 ls [.long r28]) rfl ?_
      refine lv_lstore (lv' := [(10, .long r28), (8, .long r24), (6, .long t21), (4, .long t15), (3, .int r2), (0, .ref (a 19)), (1, .int x1), (2, .int x2)]) hx hb d_M_compare_207 hl (by decide) rfl (fun ls hl => ?_)
      refine lv_lload hx hb d_M_compare_209 (lv_at hl 3 rfl) ?_
      refine lv_lload hx hb d_M_compare_211 (lv_at hl 2 rfl) ?_
      refine nf_lc_lt hx hb d_M_compare_213 d_M_compare_214 (tgt := 233) (by decide) (fun hc => ?_) (fun hc => ?_)
      · have h := h.1 hc
        exact w_M_compare_233 hfl K  M29 _ _ _ h (lv_sub hl [] rfl) hw
      · have h := h.2 hc
        refine lv_lload hx hb d_M_compare_217 (lv_at hl 3 rfl) ?_
        refine lv_lload hx hb d_M_compare_219 (lv_at hl 2 rfl) ?_
        refine nf_lc_ne hx hb d_M_compare_221 d_M_compare_222 (tgt := 237) (by decide) (fun hc => ?_) (fun hc => ?_)
        · have h := h.1 hc
          refine lv_lload hx hb d_M_compare_225 (lv_at hl 1 rfl) ?_
          refine lv_lload hx hb d_M_compare_227 (lv_at hl 0 rfl) ?_
          refine nf_lc_ge hx hb d_M_compare_229 d_M_compare_230 (tgt := 237) (by decide) (fun hc => ?_) (fun hc => ?_)
          · have h := h.1 hc
            exact w_M_compare_233 hfl K  M29 _ _ _ h (lv_sub hl [] rfl) hw
          · have h := h.2 hc
            exact w_M_compare_237 hfl K t15 t21 r24 r28 M29 _ _ _ h (lv_sub hl [3, 2, 1, 0] rfl) hw
        · have h := h.2 hc
          exact w_M_compare_237 hfl K t15 t21 r24 r28 M29 _ _ _ h (lv_sub hl [3, 2, 1, 0] rfl) hw
theorem w_M_compare_15 {post : Int32 → nf_M → Prop} (hfl : l.flags = flags0) (K : nf_K p s m args meth c "NumberForgeModel" nb_M_compare 12 (some FieldType.int) D a sz) : ∀ (x1 : Int32) (x2 : Int32) (M : nf_M) (H : Heap) (locs : List Loc) (ls : Array Slot), B_M_compare_15 post x1 x2 M → lv_has ls 12 [(0, .ref (a 19)), (1, .int x1), (2, .int x2)] → nf_W D a s sz H locs M → W p l e rm_M_compare s m args below meth c H locs 0 0 (nf_MQ below (nf_Q nf_jI D a post ex (nf_A a sz)) args s rm_M_compare.cells rm_M_compare.slots (nf_A a sz)) (F0 m 15 ls [.ref (a 19)]) := by
  have hx := K.1
  have hb := K.2.1
  intro x1 x2 M H locs ls h hl hw
  refine lv_iconst (v := (1 : Int32)) hx hb d_M_compare_15 (by decide) ?_
  refine lv_goto hx hb d_M_compare_16 (tgt := 42) (by decide) ?_
  exact w_M_compare_42 hfl K x1 x2 (1 : Int32) M _ _ _ h (lv_sub hl [0, 1, 2] rfl) hw
theorem w_M_compare_37 {post : Int32 → nf_M → Prop} (hfl : l.flags = flags0) (K : nf_K p s m args meth c "NumberForgeModel" nb_M_compare 12 (some FieldType.int) D a sz) : ∀ (x1 : Int32) (x2 : Int32) (M : nf_M) (H : Heap) (locs : List Loc) (ls : Array Slot), B_M_compare_37 post x1 x2 M → lv_has ls 12 [(0, .ref (a 19)), (1, .int x1), (2, .int x2)] → nf_W D a s sz H locs M → W p l e rm_M_compare s m args below meth c H locs 0 0 (nf_MQ below (nf_Q nf_jI D a post ex (nf_A a sz)) args s rm_M_compare.cells rm_M_compare.slots (nf_A a sz)) (F0 m 37 ls [.ref (a 19)]) := by
  have hx := K.1
  have hb := K.2.1
  intro x1 x2 M H locs ls h hl hw
  refine lv_iconst (v := (2 : Int32)) hx hb d_M_compare_37 (by decide) ?_
  refine lv_goto hx hb d_M_compare_38 (tgt := 42) (by decide) ?_
  exact w_M_compare_42 hfl K x1 x2 (2 : Int32) M _ _ _ h (lv_sub hl [0, 1, 2] rfl) hw
theorem c_M_compare (l : Launch) (hfl : l.flags = flags0) (x1 : Int32) (x2 : Int32) : nf_C nf_jI l nm_M_compare nb_M_compare 12 (some FieldType.int) rm_M_compare (fun a => [.ref (a 19), .int x1, .int x2]) (fun M post ex => P_M_compare x1 x2 M post) := by
  refine nf_start (plainFor_of_name (by decide +kernel)) (fun a => Nat.le_of_ble_eq_true rfl) ?_
  intro D a sz M post ex p e s m below meth c ls h K hl hw
  have hx := K.1
  have hb := K.2.1
  have hl : lv_has ls 12 [(0, .ref (a 19)), (1, .int x1), (2, .int x2)] := hl
  refine lv_aload_n hx hb d_M_compare_0 rfl (lv_at hl 0 rfl) ?_
  refine lv_iload_n hx hb d_M_compare_1 rfl (lv_at hl 1 rfl) ?_
  refine nf_callW (ex := (fun _ _ => False)) (As := [.int x1]) (st0 := [.int x1, .ref (a 19)]) (rest := [.ref (a 19)]) K hw (nf_invS hx hb K.2.2.2.1 (nf_Kg K nw_1008) (nf_Kg K nw_1009) (nf_Kg K nw_9) (nf_Kg K nw_1010) ⟨by decide, by decide⟩ rfl nl_M_isRegister rfl d_M_compare_2) (c_M_isRegister l hfl x1) nw_1010 nw_9 rfl ⟨by decide, by decide⟩ (Nat.le_of_ble_eq_true rfl) hl.1 ⟨Nat.le_of_ble_eq_true rfl, Nat.le_of_ble_eq_true rfl⟩ h (fun _ _ h => h.elim) (fun r1 M2 H locs h hw => ?_)
  refine W.eq (g2 := F0 m 5 ls [.int r1, .ref (a 19)]) rfl ?_
  refine nf_if_eq hx hb d_M_compare_5 (tgt := 15) (by decide) (fun hc => ?_) (fun hc => ?_)
  · have h := h.1 hc
    exact w_M_compare_15 hfl K x1 x2 M2 _ _ _ h (lv_sub hl [0, 1, 2] rfl) hw
  · have h := h.2 hc
    refine lv_iload_n hx hb d_M_compare_8 rfl (lv_at hl 2 rfl) ?_
    refine nf_callW (ex := (fun _ _ => False)) (As := [.int x2]) (st0 := [.int x2, .ref (a 19)]) (rest := [.ref (a 19)]) K hw (nf_invS hx hb K.2.2.2.1 (nf_Kg K nw_1008) (nf_Kg K nw_1009) (nf_Kg K nw_9) (nf_Kg K nw_1010) ⟨by decide, by decide⟩ rfl nl_M_isRegister rfl d_M_compare_9) (c_M_isRegister l hfl x2) nw_1010 nw_9 rfl ⟨by decide, by decide⟩ (Nat.le_of_ble_eq_true rfl) hl.1 ⟨Nat.le_of_ble_eq_true rfl, Nat.le_of_ble_eq_true rfl⟩ h (fun _ _ h => h.elim) (fun r3 M4 H locs h hw => ?_)
    refine W.eq (g2 := F0 m 12 ls [.int r3, .ref (a 19)]) rfl ?_
    refine nf_if_ne hx hb d_M_compare_12 (tgt := 19) (by decide) (fun hc => ?_) (fun hc => ?_)
    · have h := h.1 hc
      exact w_M_compare_15 hfl K x1 x2 M4 _ _ _ h (lv_sub hl [0, 1, 2] rfl) hw
    · have h := h.2 hc
      refine lv_aload_n hx hb d_M_compare_19 rfl (lv_at hl 0 rfl) ?_
      refine nf_get (v := .ref (a 22)) K hw 19 7 5 nw_936 rfl rfl ni_M (by decide) rfl rfl d_M_compare_20 ?_
      refine lv_iload_n hx hb d_M_compare_23 rfl (lv_at hl 1 rfl) ?_
      obtain ⟨g5, h⟩ := h
      refine nf_iald K hw 22 5 rfl rfl g5 d_M_compare_24 ?_
      refine nf_if_lt hx hb d_M_compare_25 (tgt := 37) (by decide) (fun hc => ?_) (fun hc => ?_)
      · have h := h.1 hc
        exact w_M_compare_37 hfl K x1 x2 M4 _ _ _ h (lv_sub hl [0, 1, 2] rfl) hw
      · have h := h.2 hc
        refine lv_aload_n hx hb d_M_compare_28 rfl (lv_at hl 0 rfl) ?_
        refine nf_get (v := .ref (a 22)) K hw 19 7 5 nw_936 rfl rfl ni_M (by decide) rfl rfl d_M_compare_29 ?_
        refine lv_iload_n hx hb d_M_compare_32 rfl (lv_at hl 2 rfl) ?_
        obtain ⟨g6, h⟩ := h
        refine nf_iald K hw 22 5 rfl rfl g6 d_M_compare_33 ?_
        refine nf_if_ge hx hb d_M_compare_34 (tgt := 41) (by decide) (fun hc => ?_) (fun hc => ?_)
        · have h := h.1 hc
          exact w_M_compare_37 hfl K x1 x2 M4 _ _ _ h (lv_sub hl [0, 1, 2] rfl) hw
        · have h := h.2 hc
          refine lv_iconst (v := (0 : Int32)) hx hb d_M_compare_41 (by decide) ?_
          exact w_M_compare_42 hfl K x1 x2 (0 : Int32) M4 _ _ _ h (lv_sub hl [0, 1, 2] rfl) hw
theorem d_M_kind_0 : decode nb_M_kind 0 = .ok (.aload_n 0, 1) := by decide +kernel
theorem d_M_kind_1 : decode nb_M_kind 1 = .ok (.iconst 0, 1) := by decide +kernel
theorem d_M_kind_2 : decode nb_M_kind 2 = .ok (.putfield 33, 3) := by decide +kernel
theorem d_M_kind_5 : decode nb_M_kind 5 = .ok (.iload_n 1, 1) := by decide +kernel
theorem d_M_kind_6 : decode nb_M_kind 6 = .ok (.invokestatic 148, 3) := by decide +kernel
theorem d_M_kind_9 : decode nb_M_kind 9 = .ok (.ifCond .eq 12, 3) := by decide +kernel
theorem d_M_kind_12 : decode nb_M_kind 12 = .ok (.aload_n 0, 1) := by decide +kernel
theorem d_M_kind_13 : decode nb_M_kind 13 = .ok (.getfield 16, 3) := by decide +kernel
theorem d_M_kind_16 : decode nb_M_kind 16 = .ok (.iload_n 1, 1) := by decide +kernel
theorem d_M_kind_17 : decode nb_M_kind 17 = .ok (.iaload, 1) := by decide +kernel
theorem d_M_kind_18 : decode nb_M_kind 18 = .ok (.goto 4, 3) := by decide +kernel
theorem d_M_kind_21 : decode nb_M_kind 21 = .ok (.iconst (-1), 1) := by decide +kernel
theorem d_M_kind_22 : decode nb_M_kind 22 = .ok (.ireturn, 1) := by decide +kernel
abbrev rm_M_kind : Room := ({ frames := 1, cells := 0, slots := 0, locals := 20 })
theorem w_M_kind_22 {post : Int32 → nf_M → Prop} (hfl : l.flags = flags0) (K : nf_K p s m args meth c "NumberForgeModel" nb_M_kind 2 (some FieldType.int) D a sz) : ∀ (xy0 : Int32) (M : nf_M) (H : Heap) (locs : List Loc) (ls : Array Slot), B_M_kind_22 post xy0 M → lv_has ls 2 [] → nf_W D a s sz H locs M → W p l e rm_M_kind s m args below meth c H locs 0 0 (nf_MQ below (nf_Q nf_jI D a post ex (nf_A a sz)) args s rm_M_kind.cells rm_M_kind.slots (nf_A a sz)) (F0 m 22 ls [.int xy0]) := by
  have hx := K.1
  have hb := K.2.1
  intro xy0 M H locs ls h hl hw
  exact nf_iret K hw d_M_kind_22 rfl (Nat.le_of_ble_eq_true rfl) (Nat.le_of_ble_eq_true rfl) (r := xy0) rfl h
theorem c_M_kind (l : Launch) (hfl : l.flags = flags0) (x1 : Int32) : nf_C nf_jI l nm_M_kind nb_M_kind 2 (some FieldType.int) rm_M_kind (fun a => [.ref (a 19), .int x1]) (fun M post ex => P_M_kind x1 M post) := by
  refine nf_start (plainFor_of_name (by decide +kernel)) (fun a => Nat.le_of_ble_eq_true rfl) ?_
  intro D a sz M post ex p e s m below meth c ls h K hl hw
  have hx := K.1
  have hb := K.2.1
  have hl : lv_has ls 2 [(0, .ref (a 19)), (1, .int x1)] := hl
  refine lv_aload_n hx hb d_M_kind_0 rfl (lv_at hl 0 rfl) ?_
  refine lv_iconst (v := (0 : Int32)) hx hb d_M_kind_1 (by decide) ?_
  refine nf_put (M' := ms_I M 19 0 (0 : Int32)) K hw 19 7 0 nw_931 rfl rfl rfl ni_M ny_M nq_M nn_M (by decide) rfl rfl rfl rfl (Nat.le_of_ble_eq_true rfl) d_M_kind_2 (fun H locs hw => ?_)
  obtain ⟨M1, eM1⟩ : ∃ z, z = ms_I M 19 0 (0 : Int32) := ⟨_, rfl⟩
  rw [← eM1] at hw
  have h := h M1 eM1
  refine lv_iload_n hx hb d_M_kind_5 rfl (lv_at hl 1 rfl) ?_
  refine nf_callW (ex := (fun _ _ => False)) (As := [.int x1]) (st0 := [.int x1]) (rest := []) K hw (nf_invS hx hb K.2.2.2.1 (nf_Kg K nw_1008) (nf_Kg K nw_1009) (nf_Kg K nw_9) (nf_Kg K nw_1010) ⟨by decide, by decide⟩ rfl nl_M_isRegister rfl d_M_kind_6) (c_M_isRegister l hfl x1) nw_1010 nw_9 rfl ⟨by decide, by decide⟩ (Nat.le_of_ble_eq_true rfl) hl.1 ⟨Nat.le_of_ble_eq_true rfl, Nat.le_of_ble_eq_true rfl⟩ h (fun _ _ h => h.elim) (fun r2 M3 H locs h hw => ?_)
  refine W.eq (g2 := F0 m 9 ls [.int r2]) rfl ?_
  refine nf_if_eq hx hb d_M_kind_9 (tgt := 21) (by decide) (fun hc => ?_) (fun hc => ?_)
  · have h := h.1 hc
    refine lv_iconst (v := (-1 : Int32)) hx hb d_M_kind_21 (by decide) ?_
    exact w_M_kind_22 hfl K (-1 : Int32) M3 _ _ _ h (lv_sub hl [] rfl) hw
  · have h := h.2 hc
    refine lv_aload_n hx hb d_M_kind_12 rfl (lv_at hl 0 rfl) ?_
    refine nf_get (v := .ref (a 22)) K hw 19 7 5 nw_936 rfl rfl ni_M (by decide) rfl rfl d_M_kind_13 ?_
    refine lv_iload_n hx hb d_M_kind_16 rfl (lv_at hl 1 rfl) ?_
    obtain ⟨g4, h⟩ := h
    refine nf_iald K hw 22 5 rfl rfl g4 d_M_kind_17 ?_
    refine lv_goto hx hb d_M_kind_18 (tgt := 22) (by decide) ?_
    exact w_M_kind_22 hfl K (mg_I M3 22 x1.toNatClampNeg) M3 _ _ _ h (lv_sub hl [] rfl) hw
theorem d_M_real_0 : decode nb_M_real 0 = .ok (.aload_n 0, 1) := by decide +kernel
theorem d_M_real_1 : decode nb_M_real 1 = .ok (.iload_n 1, 1) := by decide +kernel
theorem d_M_real_2 : decode nb_M_real 2 = .ok (.invokestatic 148, 3) := by decide +kernel
theorem d_M_real_5 : decode nb_M_real 5 = .ok (.ifCond .ne 7, 3) := by decide +kernel
theorem d_M_real_8 : decode nb_M_real 8 = .ok (.iconst 1, 1) := by decide +kernel
theorem d_M_real_9 : decode nb_M_real 9 = .ok (.goto 17, 3) := by decide +kernel
theorem d_M_real_12 : decode nb_M_real 12 = .ok (.aload_n 0, 1) := by decide +kernel
theorem d_M_real_13 : decode nb_M_real 13 = .ok (.getfield 16, 3) := by decide +kernel
theorem d_M_real_16 : decode nb_M_real 16 = .ok (.iload_n 1, 1) := by decide +kernel
theorem d_M_real_17 : decode nb_M_real 17 = .ok (.iaload, 1) := by decide +kernel
theorem d_M_real_18 : decode nb_M_real 18 = .ok (.ifCond .ge 7, 3) := by decide +kernel
theorem d_M_real_21 : decode nb_M_real 21 = .ok (.iconst 2, 1) := by decide +kernel
theorem d_M_real_22 : decode nb_M_real 22 = .ok (.goto 4, 3) := by decide +kernel
theorem d_M_real_25 : decode nb_M_real 25 = .ok (.iconst 0, 1) := by decide +kernel
theorem d_M_real_26 : decode nb_M_real 26 = .ok (.putfield 33, 3) := by decide +kernel
theorem d_M_real_29 : decode nb_M_real 29 = .ok (.aload_n 0, 1) := by decide +kernel
theorem d_M_real_30 : decode nb_M_real 30 = .ok (.getfield 33, 3) := by decide +kernel
theorem d_M_real_33 : decode nb_M_real 33 = .ok (.ifCond .le 7, 3) := by decide +kernel
theorem d_M_real_36 : decode nb_M_real 36 = .ok (.dconst 0, 1) := by decide +kernel
theorem d_M_real_37 : decode nb_M_real 37 = .ok (.goto 8, 3) := by decide +kernel
theorem d_M_real_40 : decode nb_M_real 40 = .ok (.aload_n 0, 1) := by decide +kernel
theorem d_M_real_41 : decode nb_M_real 41 = .ok (.iload_n 1, 1) := by decide +kernel
theorem d_M_real_42 : decode nb_M_real 42 = .ok (.invokevirtual 200, 3) := by decide +kernel
theorem d_M_real_45 : decode nb_M_real 45 = .ok (.dreturn, 1) := by decide +kernel
abbrev rm_M_real : Room := ({ frames := 3, cells := 0, slots := 0, locals := 64 })
theorem w_M_real_45 {post : UInt64 → nf_M → Prop} (hfl : l.flags = flags0) (K : nf_K p s m args meth c "NumberForgeModel" nb_M_real 2 (some FieldType.double) D a sz) : ∀ (xy0 : UInt64) (M : nf_M) (H : Heap) (locs : List Loc) (ls : Array Slot), B_M_real_45 post xy0 M → lv_has ls 2 [] → nf_W D a s sz H locs M → W p l e rm_M_real s m args below meth c H locs 0 0 (nf_MQ below (nf_Q nf_jD D a post ex (nf_A a sz)) args s rm_M_real.cells rm_M_real.slots (nf_A a sz)) (F0 m 45 ls [.double xy0]) := by
  have hx := K.1
  have hb := K.2.1
  intro xy0 M H locs ls h hl hw
  exact nf_dret K hw d_M_real_45 (Nat.le_of_ble_eq_true rfl) (Nat.le_of_ble_eq_true rfl) (r := xy0) rfl h
theorem w_M_real_26 {post : UInt64 → nf_M → Prop} (hfl : l.flags = flags0) (K : nf_K p s m args meth c "NumberForgeModel" nb_M_real 2 (some FieldType.double) D a sz) : ∀ (x1 : Int32) (xy0 : Int32) (M : nf_M) (H : Heap) (locs : List Loc) (ls : Array Slot), B_M_real_26 post x1 xy0 M → lv_has ls 2 [(0, .ref (a 19)), (1, .int x1)] → nf_W D a s sz H locs M → W p l e rm_M_real s m args below meth c H locs 0 0 (nf_MQ below (nf_Q nf_jD D a post ex (nf_A a sz)) args s rm_M_real.cells rm_M_real.slots (nf_A a sz)) (F0 m 26 ls [.int xy0, .ref (a 19)]) := by
  have hx := K.1
  have hb := K.2.1
  intro x1 xy0 M H locs ls h hl hw
  refine nf_put (M' := ms_I M 19 0 xy0) K hw 19 7 0 nw_931 rfl rfl rfl ni_M ny_M nq_M nn_M (by decide) rfl rfl rfl rfl (Nat.le_of_ble_eq_true rfl) d_M_real_26 (fun H locs hw => ?_)
  obtain ⟨M1, eM1⟩ : ∃ z, z = ms_I M 19 0 xy0 := ⟨_, rfl⟩
  rw [← eM1] at hw
  have h := h M1 eM1
  refine lv_aload_n hx hb d_M_real_29 rfl (lv_at hl 0 rfl) ?_
  refine nf_get (v := .int (mg_I M1 19 0)) K hw 19 7 0 nw_931 rfl rfl ni_M (by decide) rfl rfl d_M_real_30 ?_
  refine nf_if_le hx hb d_M_real_33 (tgt := 40) (by decide) (fun hc => ?_) (fun hc => ?_)
  · have h := h.1 hc
    refine lv_dconst0 hx hb d_M_real_36 ?_
    refine lv_goto hx hb d_M_real_37 (tgt := 45) (by decide) ?_
    exact w_M_real_45 hfl K (FP.dconst0) M1 _ _ _ h (lv_sub hl [] rfl) hw
  · have h := h.2 hc
    refine lv_aload_n hx hb d_M_real_40 rfl (lv_at hl 0 rfl) ?_
    refine lv_iload_n hx hb d_M_real_41 rfl (lv_at hl 1 rfl) ?_
    refine nf_callW (ex := (fun _ _ => False)) (As := [.ref (a 19), .int x1]) (st0 := [.int x1, .ref (a 19)]) (rest := []) K hw (nf_invV hx hb K.2.2.2.1 (nf_Kg K nw_1086) (nf_Kg K nw_1088) (nf_Kg K nx_M_asDouble) (nf_Kg K nw_1089) ⟨by decide, by decide⟩ (nf_rcv K hw 19 7 rfl rfl) rfl nl_M_asDouble rfl d_M_real_42) (c_M_asDouble l hfl x1) nw_1089 nw_9 rfl ⟨by decide, by decide⟩ (Nat.le_of_ble_eq_true rfl) hl.1 ⟨Nat.le_of_ble_eq_true rfl, Nat.le_of_ble_eq_true rfl⟩ h (fun _ _ h => h.elim) (fun r2 M3 H locs h hw => ?_)
    refine W.eq (g2 := F0 m 45 ls [.double r2]) rfl ?_
    exact w_M_real_45 hfl K r2 M3 _ _ _ h (lv_sub hl [] rfl) hw
theorem c_M_real (l : Launch) (hfl : l.flags = flags0) (x1 : Int32) : nf_C nf_jD l nm_M_real nb_M_real 2 (some FieldType.double) rm_M_real (fun a => [.ref (a 19), .int x1]) (fun M post ex => P_M_real x1 M post) := by
  refine nf_start (plainFor_of_name (by decide +kernel)) (fun a => Nat.le_of_ble_eq_true rfl) ?_
  intro D a sz M post ex p e s m below meth c ls h K hl hw
  have hx := K.1
  have hb := K.2.1
  have hl : lv_has ls 2 [(0, .ref (a 19)), (1, .int x1)] := hl
  refine lv_aload_n hx hb d_M_real_0 rfl (lv_at hl 0 rfl) ?_
  refine lv_iload_n hx hb d_M_real_1 rfl (lv_at hl 1 rfl) ?_
  refine nf_callW (ex := (fun _ _ => False)) (As := [.int x1]) (st0 := [.int x1, .ref (a 19)]) (rest := [.ref (a 19)]) K hw (nf_invS hx hb K.2.2.2.1 (nf_Kg K nw_1008) (nf_Kg K nw_1009) (nf_Kg K nw_9) (nf_Kg K nw_1010) ⟨by decide, by decide⟩ rfl nl_M_isRegister rfl d_M_real_2) (c_M_isRegister l hfl x1) nw_1010 nw_9 rfl ⟨by decide, by decide⟩ (Nat.le_of_ble_eq_true rfl) hl.1 ⟨Nat.le_of_ble_eq_true rfl, Nat.le_of_ble_eq_true rfl⟩ h (fun _ _ h => h.elim) (fun r1 M2 H locs h hw => ?_)
  refine W.eq (g2 := F0 m 5 ls [.int r1, .ref (a 19)]) rfl ?_
  refine nf_if_ne hx hb d_M_real_5 (tgt := 12) (by decide) (fun hc => ?_) (fun hc => ?_)
  · have h := h.1 hc
    refine lv_iconst (v := (1 : Int32)) hx hb d_M_real_8 (by decide) ?_
    refine lv_goto hx hb d_M_real_9 (tgt := 26) (by decide) ?_
    exact w_M_real_26 hfl K x1 (1 : Int32) M2 _ _ _ h (lv_sub hl [0, 1] rfl) hw
  · have h := h.2 hc
    refine lv_aload_n hx hb d_M_real_12 rfl (lv_at hl 0 rfl) ?_
    refine nf_get (v := .ref (a 22)) K hw 19 7 5 nw_936 rfl rfl ni_M (by decide) rfl rfl d_M_real_13 ?_
    refine lv_iload_n hx hb d_M_real_16 rfl (lv_at hl 1 rfl) ?_
    obtain ⟨g3, h⟩ := h
    refine nf_iald K hw 22 5 rfl rfl g3 d_M_real_17 ?_
    refine nf_if_ge hx hb d_M_real_18 (tgt := 25) (by decide) (fun hc => ?_) (fun hc => ?_)
    · have h := h.1 hc
      refine lv_iconst (v := (2 : Int32)) hx hb d_M_real_21 (by decide) ?_
      refine lv_goto hx hb d_M_real_22 (tgt := 26) (by decide) ?_
      exact w_M_real_26 hfl K x1 (2 : Int32) M2 _ _ _ h (lv_sub hl [0, 1] rfl) hw
    · have h := h.2 hc
      refine lv_iconst (v := (0 : Int32)) hx hb d_M_real_25 (by decide) ?_
      exact w_M_real_26 hfl K x1 (0 : Int32) M2 _ _ _ h (lv_sub hl [0, 1] rfl) hw
theorem d_M_exact_0 : decode nb_M_exact 0 = .ok (.aload_n 0, 1) := by decide +kernel
theorem d_M_exact_1 : decode nb_M_exact 1 = .ok (.iconst 0, 1) := by decide +kernel
theorem d_M_exact_2 : decode nb_M_exact 2 = .ok (.putfield 33, 3) := by decide +kernel
theorem d_M_exact_5 : decode nb_M_exact 5 = .ok (.iload_n 1, 1) := by decide +kernel
theorem d_M_exact_6 : decode nb_M_exact 6 = .ok (.invokestatic 148, 3) := by decide +kernel
theorem d_M_exact_9 : decode nb_M_exact 9 = .ok (.ifCond .eq 12, 3) := by decide +kernel
theorem d_M_exact_12 : decode nb_M_exact 12 = .ok (.iload_n 2, 1) := by decide +kernel
theorem d_M_exact_13 : decode nb_M_exact 13 = .ok (.ifCond .lt 8, 3) := by decide +kernel
theorem d_M_exact_16 : decode nb_M_exact 16 = .ok (.iload_n 2, 1) := by decide +kernel
theorem d_M_exact_17 : decode nb_M_exact 17 = .ok (.iconst 1, 1) := by decide +kernel
theorem d_M_exact_18 : decode nb_M_exact 18 = .ok (.if_icmp .le 7, 3) := by decide +kernel
theorem d_M_exact_21 : decode nb_M_exact 21 = .ok (.lconst 0, 1) := by decide +kernel
theorem d_M_exact_22 : decode nb_M_exact 22 = .ok (.goto 23, 3) := by decide +kernel
theorem d_M_exact_25 : decode nb_M_exact 25 = .ok (.iload_n 2, 1) := by decide +kernel
theorem d_M_exact_26 : decode nb_M_exact 26 = .ok (.ifCond .ne 12, 3) := by decide +kernel
theorem d_M_exact_29 : decode nb_M_exact 29 = .ok (.aload_n 0, 1) := by decide +kernel
theorem d_M_exact_30 : decode nb_M_exact 30 = .ok (.getfield 19, 3) := by decide +kernel
theorem d_M_exact_33 : decode nb_M_exact 33 = .ok (.iload_n 1, 1) := by decide +kernel
theorem d_M_exact_34 : decode nb_M_exact 34 = .ok (.laload, 1) := by decide +kernel
theorem d_M_exact_35 : decode nb_M_exact 35 = .ok (.goto 10, 3) := by decide +kernel
theorem d_M_exact_38 : decode nb_M_exact 38 = .ok (.aload_n 0, 1) := by decide +kernel
theorem d_M_exact_39 : decode nb_M_exact 39 = .ok (.getfield 23, 3) := by decide +kernel
theorem d_M_exact_42 : decode nb_M_exact 42 = .ok (.iload_n 1, 1) := by decide +kernel
theorem d_M_exact_43 : decode nb_M_exact 43 = .ok (.iaload, 1) := by decide +kernel
theorem d_M_exact_44 : decode nb_M_exact 44 = .ok (.i2l, 1) := by decide +kernel
theorem d_M_exact_45 : decode nb_M_exact 45 = .ok (.lreturn, 1) := by decide +kernel
abbrev rm_M_exact : Room := ({ frames := 1, cells := 0, slots := 0, locals := 20 })
theorem w_M_exact_45 {post : Int64 → nf_M → Prop} (hfl : l.flags = flags0) (K : nf_K p s m args meth c "NumberForgeModel" nb_M_exact 3 (some FieldType.long) D a sz) : ∀ (xy0 : Int64) (M : nf_M) (H : Heap) (locs : List Loc) (ls : Array Slot), B_M_exact_45 post xy0 M → lv_has ls 3 [] → nf_W D a s sz H locs M → W p l e rm_M_exact s m args below meth c H locs 0 0 (nf_MQ below (nf_Q nf_jJ D a post ex (nf_A a sz)) args s rm_M_exact.cells rm_M_exact.slots (nf_A a sz)) (F0 m 45 ls [.long xy0]) := by
  have hx := K.1
  have hb := K.2.1
  intro xy0 M H locs ls h hl hw
  exact nf_lret K hw d_M_exact_45 (Nat.le_of_ble_eq_true rfl) (Nat.le_of_ble_eq_true rfl) (r := xy0) rfl h
theorem w_M_exact_21 {post : Int64 → nf_M → Prop} (hfl : l.flags = flags0) (K : nf_K p s m args meth c "NumberForgeModel" nb_M_exact 3 (some FieldType.long) D a sz) : ∀ (M : nf_M) (H : Heap) (locs : List Loc) (ls : Array Slot), B_M_exact_21 post  M → lv_has ls 3 [] → nf_W D a s sz H locs M → W p l e rm_M_exact s m args below meth c H locs 0 0 (nf_MQ below (nf_Q nf_jJ D a post ex (nf_A a sz)) args s rm_M_exact.cells rm_M_exact.slots (nf_A a sz)) (F0 m 21 ls []) := by
  have hx := K.1
  have hb := K.2.1
  intro  M H locs ls h hl hw
  refine lv_lconst (v := (0 : Int64)) hx hb d_M_exact_21 (by decide) ?_
  refine lv_goto hx hb d_M_exact_22 (tgt := 45) (by decide) ?_
  exact w_M_exact_45 hfl K (0 : Int64) M _ _ _ h (lv_sub hl [] rfl) hw
theorem c_M_exact (l : Launch) (hfl : l.flags = flags0) (x1 : Int32) (x2 : Int32) : nf_C nf_jJ l nm_M_exact nb_M_exact 3 (some FieldType.long) rm_M_exact (fun a => [.ref (a 19), .int x1, .int x2]) (fun M post ex => P_M_exact x1 x2 M post) := by
  refine nf_start (plainFor_of_name (by decide +kernel)) (fun a => Nat.le_of_ble_eq_true rfl) ?_
  intro D a sz M post ex p e s m below meth c ls h K hl hw
  have hx := K.1
  have hb := K.2.1
  have hl : lv_has ls 3 [(0, .ref (a 19)), (1, .int x1), (2, .int x2)] := hl
  refine lv_aload_n hx hb d_M_exact_0 rfl (lv_at hl 0 rfl) ?_
  refine lv_iconst (v := (0 : Int32)) hx hb d_M_exact_1 (by decide) ?_
  refine nf_put (M' := ms_I M 19 0 (0 : Int32)) K hw 19 7 0 nw_931 rfl rfl rfl ni_M ny_M nq_M nn_M (by decide) rfl rfl rfl rfl (Nat.le_of_ble_eq_true rfl) d_M_exact_2 (fun H locs hw => ?_)
  obtain ⟨M1, eM1⟩ : ∃ z, z = ms_I M 19 0 (0 : Int32) := ⟨_, rfl⟩
  rw [← eM1] at hw
  have h := h M1 eM1
  refine lv_iload_n hx hb d_M_exact_5 rfl (lv_at hl 1 rfl) ?_
  refine nf_callW (ex := (fun _ _ => False)) (As := [.int x1]) (st0 := [.int x1]) (rest := []) K hw (nf_invS hx hb K.2.2.2.1 (nf_Kg K nw_1008) (nf_Kg K nw_1009) (nf_Kg K nw_9) (nf_Kg K nw_1010) ⟨by decide, by decide⟩ rfl nl_M_isRegister rfl d_M_exact_6) (c_M_isRegister l hfl x1) nw_1010 nw_9 rfl ⟨by decide, by decide⟩ (Nat.le_of_ble_eq_true rfl) hl.1 ⟨Nat.le_of_ble_eq_true rfl, Nat.le_of_ble_eq_true rfl⟩ h (fun _ _ h => h.elim) (fun r2 M3 H locs h hw => ?_)
  refine W.eq (g2 := F0 m 9 ls [.int r2]) rfl ?_
  refine nf_if_eq hx hb d_M_exact_9 (tgt := 21) (by decide) (fun hc => ?_) (fun hc => ?_)
  · have h := h.1 hc
    exact w_M_exact_21 hfl K  M3 _ _ _ h (lv_sub hl [] rfl) hw
  · have h := h.2 hc
    refine lv_iload_n hx hb d_M_exact_12 rfl (lv_at hl 2 rfl) ?_
    refine nf_if_lt hx hb d_M_exact_13 (tgt := 21) (by decide) (fun hc => ?_) (fun hc => ?_)
    · have h := h.1 hc
      exact w_M_exact_21 hfl K  M3 _ _ _ h (lv_sub hl [] rfl) hw
    · have h := h.2 hc
      refine lv_iload_n hx hb d_M_exact_16 rfl (lv_at hl 2 rfl) ?_
      refine lv_iconst (v := (1 : Int32)) hx hb d_M_exact_17 (by decide) ?_
      refine nf_ic_le hx hb d_M_exact_18 (tgt := 25) (by decide) (fun hc => ?_) (fun hc => ?_)
      · have h := h.1 hc
        exact w_M_exact_21 hfl K  M3 _ _ _ h (lv_sub hl [] rfl) hw
      · have h := h.2 hc
        refine lv_iload_n hx hb d_M_exact_25 rfl (lv_at hl 2 rfl) ?_
        refine nf_if_ne hx hb d_M_exact_26 (tgt := 38) (by decide) (fun hc => ?_) (fun hc => ?_)
        · have h := h.1 hc
          refine lv_aload_n hx hb d_M_exact_29 rfl (lv_at hl 0 rfl) ?_
          refine nf_get (v := .ref (a 23)) K hw 19 7 6 nw_937 rfl rfl ni_M (by decide) rfl rfl d_M_exact_30 ?_
          refine lv_iload_n hx hb d_M_exact_33 rfl (lv_at hl 1 rfl) ?_
          obtain ⟨g4, h⟩ := h
          refine nf_lald K hw 23 6 rfl rfl g4 d_M_exact_34 ?_
          refine lv_goto hx hb d_M_exact_35 (tgt := 45) (by decide) ?_
          exact w_M_exact_45 hfl K (mg_L M3 23 x1.toNatClampNeg) M3 _ _ _ h (lv_sub hl [] rfl) hw
        · have h := h.2 hc
          refine lv_aload_n hx hb d_M_exact_38 rfl (lv_at hl 0 rfl) ?_
          refine nf_get (v := .ref (a 24)) K hw 19 7 7 nw_938 rfl rfl ni_M (by decide) rfl rfl d_M_exact_39 ?_
          refine lv_iload_n hx hb d_M_exact_42 rfl (lv_at hl 1 rfl) ?_
          obtain ⟨g5, h⟩ := h
          refine nf_iald K hw 24 7 rfl rfl g5 d_M_exact_43 ?_
          refine lv_i2l hx hb d_M_exact_44 rfl ?_
          exact w_M_exact_45 hfl K ((mg_I M3 24 x1.toNatClampNeg).toInt64) M3 _ _ _ h (lv_sub hl [] rfl) hw
theorem d_M_add_0 : decode nb_M_add 0 = .ok (.aload_n 0, 1) := by decide +kernel
theorem d_M_add_1 : decode nb_M_add 1 = .ok (.getfield 13, 3) := by decide +kernel
theorem d_M_add_4 : decode nb_M_add 4 = .ok (.aload_n 0, 1) := by decide +kernel
theorem d_M_add_5 : decode nb_M_add 5 = .ok (.getfield 249, 3) := by decide +kernel
theorem d_M_add_8 : decode nb_M_add 8 = .ok (.iload_n 1, 1) := by decide +kernel
theorem d_M_add_9 : decode nb_M_add 9 = .ok (.iastore, 1) := by decide +kernel
theorem d_M_add_10 : decode nb_M_add 10 = .ok (.aload_n 0, 1) := by decide +kernel
theorem d_M_add_11 : decode nb_M_add 11 = .ok (.dup, 1) := by decide +kernel
theorem d_M_add_12 : decode nb_M_add 12 = .ok (.getfield 249, 3) := by decide +kernel
theorem d_M_add_15 : decode nb_M_add 15 = .ok (.iconst 1, 1) := by decide +kernel
theorem d_M_add_16 : decode nb_M_add 16 = .ok (.iadd, 1) := by decide +kernel
theorem d_M_add_17 : decode nb_M_add 17 = .ok (.putfield 249, 3) := by decide +kernel
theorem d_M_add_20 : decode nb_M_add 20 = .ok (.return_, 1) := by decide +kernel
abbrev rm_M_add : Room := ({ frames := 0, cells := 0, slots := 0, locals := 0 })
theorem c_M_add (l : Launch) (hfl : l.flags = flags0) (x1 : Int32) : nf_C nf_jN l nm_M_add nb_M_add 2 none rm_M_add (fun a => [.ref (a 19), .int x1]) (fun M post ex => P_M_add x1 M post) := by
  refine nf_start (plainFor_of_name (by decide +kernel)) (fun a => Nat.le_of_ble_eq_true rfl) ?_
  intro D a sz M post ex p e s m below meth c ls h K hl hw
  have hx := K.1
  have hb := K.2.1
  have hl : lv_has ls 2 [(0, .ref (a 19)), (1, .int x1)] := hl
  refine lv_aload_n hx hb d_M_add_0 rfl (lv_at hl 0 rfl) ?_
  refine nf_get (v := .ref (a 21)) K hw 19 7 4 nw_935 rfl rfl ni_M (by decide) rfl rfl d_M_add_1 ?_
  refine lv_aload_n hx hb d_M_add_4 rfl (lv_at hl 0 rfl) ?_
  refine nf_get (v := .int (mg_I M 19 3)) K hw 19 7 3 nw_934 rfl rfl ni_M (by decide) rfl rfl d_M_add_5 ?_
  refine lv_iload_n hx hb d_M_add_8 rfl (lv_at hl 1 rfl) ?_
  obtain ⟨g1, h⟩ := h
  refine nf_iast (M' := ms_I M 21 (mg_I M 19 3).toNatClampNeg x1) K hw 21 4 rfl rfl g1 rfl d_M_add_9 (fun H locs hw => ?_)
  obtain ⟨M2, eM2⟩ : ∃ z, z = ms_I M 21 (mg_I M 19 3).toNatClampNeg x1 := ⟨_, rfl⟩
  rw [← eM2] at hw
  have h := h M2 eM2
  refine lv_aload_n hx hb d_M_add_10 rfl (lv_at hl 0 rfl) ?_
  refine lv_dup hx hb d_M_add_11 rfl ?_
  refine nf_get (v := .int (mg_I M2 19 3)) K hw 19 7 3 nw_934 rfl rfl ni_M (by decide) rfl rfl d_M_add_12 ?_
  refine lv_iconst (v := (1 : Int32)) hx hb d_M_add_15 (by decide) ?_
  refine lv_iadd hx hb d_M_add_16 ?_
  refine lv_topi (fun t3 et3 => ?_)
  have h := h t3 et3
  refine nf_put (M' := ms_I M2 19 3 t3) K hw 19 7 3 nw_934 rfl rfl rfl ni_M ny_M nq_M nn_M (by decide) rfl rfl rfl rfl (Nat.le_of_ble_eq_true rfl) d_M_add_17 (fun H locs hw => ?_)
  obtain ⟨M4, eM4⟩ : ∃ z, z = ms_I M2 19 3 t3 := ⟨_, rfl⟩
  rw [← eM4] at hw
  have h := h M4 eM4
  exact nf_vret K hw d_M_add_20 (Nat.le_of_ble_eq_true rfl) (Nat.le_of_ble_eq_true rfl) (r := ()) rfl h
theorem d_M_addNumber_0 : decode nb_M_addNumber 0 = .ok (.iconst 0, 1) := by decide +kernel
theorem d_M_addNumber_1 : decode nb_M_addNumber 1 = .ok (.istore 4, 2) := by decide +kernel
theorem d_M_addNumber_3 : decode nb_M_addNumber 3 = .ok (.bipush 18, 2) := by decide +kernel
theorem d_M_addNumber_5 : decode nb_M_addNumber 5 = .ok (.istore 5, 2) := by decide +kernel
theorem d_M_addNumber_7 : decode nb_M_addNumber 7 = .ok (.iload 5, 2) := by decide +kernel
theorem d_M_addNumber_9 : decode nb_M_addNumber 9 = .ok (.ifCond .lt 60, 3) := by decide +kernel
theorem d_M_addNumber_12 : decode nb_M_addNumber 12 = .ok (.lload_n 1, 1) := by decide +kernel
theorem d_M_addNumber_13 : decode nb_M_addNumber 13 = .ok (.iload 5, 2) := by decide +kernel
theorem d_M_addNumber_15 : decode nb_M_addNumber 15 = .ok (.invokestatic 42, 3) := by decide +kernel
theorem d_M_addNumber_18 : decode nb_M_addNumber 18 = .ok (.ldiv, 1) := by decide +kernel
theorem d_M_addNumber_19 : decode nb_M_addNumber 19 = .ok (.ldc2_w 40, 3) := by decide +kernel
theorem d_M_addNumber_22 : decode nb_M_addNumber 22 = .ok (.lrem, 1) := by decide +kernel
theorem d_M_addNumber_23 : decode nb_M_addNumber 23 = .ok (.l2i, 1) := by decide +kernel
theorem d_M_addNumber_24 : decode nb_M_addNumber 24 = .ok (.istore 6, 2) := by decide +kernel
theorem d_M_addNumber_26 : decode nb_M_addNumber 26 = .ok (.iload 4, 2) := by decide +kernel
theorem d_M_addNumber_28 : decode nb_M_addNumber 28 = .ok (.ifCond .ne 14, 3) := by decide +kernel
theorem d_M_addNumber_31 : decode nb_M_addNumber 31 = .ok (.iload 6, 2) := by decide +kernel
theorem d_M_addNumber_33 : decode nb_M_addNumber 33 = .ok (.ifCond .gt 9, 3) := by decide +kernel
theorem d_M_addNumber_36 : decode nb_M_addNumber 36 = .ok (.iload 5, 2) := by decide +kernel
theorem d_M_addNumber_38 : decode nb_M_addNumber 38 = .ok (.iload_n 3, 1) := by decide +kernel
theorem d_M_addNumber_39 : decode nb_M_addNumber 39 = .ok (.if_icmp .ge 7, 3) := by decide +kernel
theorem d_M_addNumber_42 : decode nb_M_addNumber 42 = .ok (.iconst 1, 1) := by decide +kernel
theorem d_M_addNumber_43 : decode nb_M_addNumber 43 = .ok (.goto 4, 3) := by decide +kernel
theorem d_M_addNumber_46 : decode nb_M_addNumber 46 = .ok (.iconst 0, 1) := by decide +kernel
theorem d_M_addNumber_47 : decode nb_M_addNumber 47 = .ok (.istore 4, 2) := by decide +kernel
theorem d_M_addNumber_49 : decode nb_M_addNumber 49 = .ok (.iload 4, 2) := by decide +kernel
theorem d_M_addNumber_51 : decode nb_M_addNumber 51 = .ok (.ifCond .eq 12, 3) := by decide +kernel
theorem d_M_addNumber_54 : decode nb_M_addNumber 54 = .ok (.aload_n 0, 1) := by decide +kernel
theorem d_M_addNumber_55 : decode nb_M_addNumber 55 = .ok (.bipush 48, 2) := by decide +kernel
theorem d_M_addNumber_57 : decode nb_M_addNumber 57 = .ok (.iload 6, 2) := by decide +kernel
theorem d_M_addNumber_59 : decode nb_M_addNumber 59 = .ok (.iadd, 1) := by decide +kernel
theorem d_M_addNumber_60 : decode nb_M_addNumber 60 = .ok (.invokevirtual 252, 3) := by decide +kernel
theorem d_M_addNumber_63 : decode nb_M_addNumber 63 = .ok (.iinc 5 (-1), 3) := by decide +kernel
theorem d_M_addNumber_66 : decode nb_M_addNumber 66 = .ok (.goto (-59), 3) := by decide +kernel
theorem d_M_addNumber_69 : decode nb_M_addNumber 69 = .ok (.return_, 1) := by decide +kernel
abbrev rm_M_addNumber : Room := ({ frames := 1, cells := 0, slots := 0, locals := 23 })
theorem w_M_addNumber_63 {post : Unit → nf_M → Prop} (hfl : l.flags = flags0) (K : nf_K p s m args meth c "NumberForgeModel" nb_M_addNumber 7 none D a sz) (k7 : Int64 → Int32 → Int32 → Int32 → nf_M → Prop) (hk7 : ∀ (x1 : Int64) (x3 : Int32) (x4 : Int32) (x5 : Int32) (M : nf_M) (H : Heap) (locs : List Loc) (ls : Array Slot), k7 x1 x3 x4 x5 M → lv_has ls 7 [(0, .ref (a 19)), (1, .long x1), (3, .int x3), (4, .int x4), (5, .int x5)] → nf_W D a s sz H locs M → W p l e rm_M_addNumber s m args below meth c H locs 0 0 (nf_MQ below (nf_Q nf_jN D a post ex (nf_A a sz)) args s rm_M_addNumber.cells rm_M_addNumber.slots (nf_A a sz)) (F0 m 7 ls [])) : ∀ (x1 : Int64) (x3 : Int32) (x4 : Int32) (x5 : Int32) (M : nf_M) (H : Heap) (locs : List Loc) (ls : Array Slot), B_M_addNumber_63 k7 post x1 x3 x4 x5 M → lv_has ls 7 [(0, .ref (a 19)), (1, .long x1), (3, .int x3), (4, .int x4), (5, .int x5)] → nf_W D a s sz H locs M → W p l e rm_M_addNumber s m args below meth c H locs 0 0 (nf_MQ below (nf_Q nf_jN D a post ex (nf_A a sz)) args s rm_M_addNumber.cells rm_M_addNumber.slots (nf_A a sz)) (F0 m 63 ls []) := by
  have hx := K.1
  have hb := K.2.1
  intro x1 x3 x4 x5 M H locs ls h hl hw
  refine lv_iinc (k := 4) (v := x5 + (-1 : Int32)) (lv' := [(5, .int (x5 + (-1 : Int32))), (0, .ref (a 19)), (1, .long x1), (3, .int x3), (4, .int x4)]) hx hb d_M_addNumber_63 hl rfl (nf_inc (by decide)) (by decide) rfl (fun ls hl => ?_)
  refine lv_goto hx hb d_M_addNumber_66 (tgt := 7) (by decide) ?_
  exact hk7 x1 x3 x4 (x5 + (-1 : Int32)) M _ _ _ h (lv_sub hl [1, 2, 3, 4, 0] rfl) hw
theorem w_M_addNumber_47 {post : Unit → nf_M → Prop} (hfl : l.flags = flags0) (K : nf_K p s m args meth c "NumberForgeModel" nb_M_addNumber 7 none D a sz) (k7 : Int64 → Int32 → Int32 → Int32 → nf_M → Prop) (hk7 : ∀ (x1 : Int64) (x3 : Int32) (x4 : Int32) (x5 : Int32) (M : nf_M) (H : Heap) (locs : List Loc) (ls : Array Slot), k7 x1 x3 x4 x5 M → lv_has ls 7 [(0, .ref (a 19)), (1, .long x1), (3, .int x3), (4, .int x4), (5, .int x5)] → nf_W D a s sz H locs M → W p l e rm_M_addNumber s m args below meth c H locs 0 0 (nf_MQ below (nf_Q nf_jN D a post ex (nf_A a sz)) args s rm_M_addNumber.cells rm_M_addNumber.slots (nf_A a sz)) (F0 m 7 ls [])) : ∀ (x1 : Int64) (x3 : Int32) (x5 : Int32) (x6 : Int32) (xy0 : Int32) (M : nf_M) (H : Heap) (locs : List Loc) (ls : Array Slot), B_M_addNumber_47 k7 post x1 x3 x5 x6 xy0 M → lv_has ls 7 [(0, .ref (a 19)), (1, .long x1), (3, .int x3), (5, .int x5), (6, .int x6)] → nf_W D a s sz H locs M → W p l e rm_M_addNumber s m args below meth c H locs 0 0 (nf_MQ below (nf_Q nf_jN D a post ex (nf_A a sz)) args s rm_M_addNumber.cells rm_M_addNumber.slots (nf_A a sz)) (F0 m 47 ls [.int xy0]) := by
  have hx := K.1
  have hb := K.2.1
  intro x1 x3 x5 x6 xy0 M H locs ls h hl hw
  refine lv_istore (lv' := [(4, .int xy0), (0, .ref (a 19)), (1, .long x1), (3, .int x3), (5, .int x5), (6, .int x6)]) hx hb d_M_addNumber_47 hl (by decide) rfl (fun ls hl => ?_)
  refine lv_iload hx hb d_M_addNumber_49 (lv_at hl 0 rfl) ?_
  refine nf_if_eq hx hb d_M_addNumber_51 (tgt := 63) (by decide) (fun hc => ?_) (fun hc => ?_)
  · have h := h.1 hc
    exact w_M_addNumber_63 hfl K k7 hk7 x1 x3 xy0 x5 M _ _ _ h (lv_sub hl [1, 2, 3, 0, 4] rfl) hw
  · have h := h.2 hc
    refine lv_aload_n hx hb d_M_addNumber_54 rfl (lv_at hl 1 rfl) ?_
    refine lv_bipush (v := (48 : Int32)) hx hb d_M_addNumber_55 (by decide) ?_
    refine lv_iload hx hb d_M_addNumber_57 (lv_at hl 5 rfl) ?_
    refine lv_iadd hx hb d_M_addNumber_59 ?_
    refine nf_callW (ex := (fun _ _ => False)) (As := [.ref (a 19), .int ((48 : Int32) + x6)]) (st0 := [.int ((48 : Int32) + x6), .ref (a 19)]) (rest := []) K hw (nf_invV hx hb K.2.2.2.1 (nf_Kg K nw_1206) (nf_Kg K nw_1208) (nf_Kg K nx_M_add) (nf_Kg K nw_1209) ⟨by decide, by decide⟩ (nf_rcv K hw 19 7 rfl rfl) rfl nl_M_add rfl d_M_addNumber_60) (c_M_add l hfl ((48 : Int32) + x6)) nw_1209 nw_9 rfl ⟨by decide, by decide⟩ (Nat.le_of_ble_eq_true rfl) hl.1 ⟨Nat.le_of_ble_eq_true rfl, Nat.le_of_ble_eq_true rfl⟩ h (fun _ _ h => h.elim) (fun r1 M2 H locs h hw => ?_)
    refine W.eq (g2 := F0 m 63 ls []) rfl ?_
    exact w_M_addNumber_63 hfl K k7 hk7 x1 x3 xy0 x5 M2 _ _ _ h (lv_sub hl [1, 2, 3, 0, 4] rfl) hw
theorem w_M_addNumber_42 {post : Unit → nf_M → Prop} (hfl : l.flags = flags0) (K : nf_K p s m args meth c "NumberForgeModel" nb_M_addNumber 7 none D a sz) (k7 : Int64 → Int32 → Int32 → Int32 → nf_M → Prop) (hk7 : ∀ (x1 : Int64) (x3 : Int32) (x4 : Int32) (x5 : Int32) (M : nf_M) (H : Heap) (locs : List Loc) (ls : Array Slot), k7 x1 x3 x4 x5 M → lv_has ls 7 [(0, .ref (a 19)), (1, .long x1), (3, .int x3), (4, .int x4), (5, .int x5)] → nf_W D a s sz H locs M → W p l e rm_M_addNumber s m args below meth c H locs 0 0 (nf_MQ below (nf_Q nf_jN D a post ex (nf_A a sz)) args s rm_M_addNumber.cells rm_M_addNumber.slots (nf_A a sz)) (F0 m 7 ls [])) : ∀ (x1 : Int64) (x3 : Int32) (x5 : Int32) (x6 : Int32) (M : nf_M) (H : Heap) (locs : List Loc) (ls : Array Slot), B_M_addNumber_42 k7 post x1 x3 x5 x6 M → lv_has ls 7 [(0, .ref (a 19)), (1, .long x1), (3, .int x3), (5, .int x5), (6, .int x6)] → nf_W D a s sz H locs M → W p l e rm_M_addNumber s m args below meth c H locs 0 0 (nf_MQ below (nf_Q nf_jN D a post ex (nf_A a sz)) args s rm_M_addNumber.cells rm_M_addNumber.slots (nf_A a sz)) (F0 m 42 ls []) := by
  have hx := K.1
  have hb := K.2.1
  intro x1 x3 x5 x6 M H locs ls h hl hw
  refine lv_iconst (v := (1 : Int32)) hx hb d_M_addNumber_42 (by decide) ?_
  refine lv_goto hx hb d_M_addNumber_43 (tgt := 47) (by decide) ?_
  exact w_M_addNumber_47 hfl K k7 hk7 x1 x3 x5 x6 (1 : Int32) M _ _ _ h (lv_sub hl [0, 1, 2, 3, 4] rfl) hw
theorem w_M_addNumber_7 {post : Unit → nf_M → Prop} (hfl : l.flags = flags0) (K : nf_K p s m args meth c "NumberForgeModel" nb_M_addNumber 7 none D a sz) : ∀ (n : Nat) (x1 : Int64) (x3 : Int32) (x4 : Int32) (x5 : Int32) (M : nf_M) (H : Heap) (locs : List Loc) (ls : Array Slot), B_M_addNumber_7 post n x1 x3 x4 x5 M → lv_has ls 7 [(0, .ref (a 19)), (1, .long x1), (3, .int x3), (4, .int x4), (5, .int x5)] → nf_W D a s sz H locs M → W p l e rm_M_addNumber s m args below meth c H locs 0 0 (nf_MQ below (nf_Q nf_jN D a post ex (nf_A a sz)) args s rm_M_addNumber.cells rm_M_addNumber.slots (nf_A a sz)) (F0 m 7 ls []) := by
  have hx := K.1
  have hb := K.2.1
  intro n
  induction n with
  | zero => intro x1 x3 x4 x5 M H locs ls h hl hw; exact h.elim
  | succ n ih =>
    intro x1 x3 x4 x5 M H locs ls h hl hw
    refine lv_iload hx hb d_M_addNumber_7 (lv_at hl 4 rfl) ?_
    refine nf_if_lt hx hb d_M_addNumber_9 (tgt := 69) (by decide) (fun hc => ?_) (fun hc => ?_)
    · have h := h.1 hc
      exact nf_vret K hw d_M_addNumber_69 (Nat.le_of_ble_eq_true rfl) (Nat.le_of_ble_eq_true rfl) (r := ()) rfl h
    · have h := h.2 hc
      refine lv_lload_n hx hb d_M_addNumber_12 rfl (lv_at hl 1 rfl) ?_
      refine lv_iload hx hb d_M_addNumber_13 (lv_at hl 4 rfl) ?_
      refine nf_callW (ex := (fun _ _ => False)) (As := [.int x5]) (st0 := [.int x5, .long x1]) (rest := [.long x1]) K hw (nf_invS hx hb K.2.2.2.1 (nf_Kg K nw_1066) (nf_Kg K nw_1067) (nf_Kg K nw_9) (nf_Kg K nw_1068) ⟨by decide, by decide⟩ rfl nl_M_power rfl d_M_addNumber_15) (c_M_power l hfl x5) nw_1068 nw_9 rfl ⟨by decide, by decide⟩ (Nat.le_of_ble_eq_true rfl) hl.1 ⟨Nat.le_of_ble_eq_true rfl, Nat.le_of_ble_eq_true rfl⟩ h (fun _ _ h => h.elim) (fun r1 M2 H locs h hw => ?_)
      refine W.eq (g2 := F0 m 18 ls [.long r1, .long x1]) rfl ?_
      obtain ⟨g3, h⟩ := h
      refine lv_ldiv hx hb d_M_addNumber_18 g3 ?_
      refine lv_ldc2 (v := (10 : Int64)) hx hb K.2.2.2.1 (nf_Kg K nw_1038) d_M_addNumber_19 ?_
      refine lv_lrem hx hb d_M_addNumber_22 (by decide) ?_
      refine lv_l2i hx hb d_M_addNumber_23 rfl ?_
      refine lv_topi (fun t4 et4 => ?_)
      have h := h t4 et4
      refine lv_istore (lv' := [(6, .int t4), (0, .ref (a 19)), (1, .long x1), (3, .int x3), (4, .int x4), (5, .int x5)]) hx hb d_M_addNumber_24 hl (by decide) rfl (fun ls hl => ?_)
      refine lv_iload hx hb d_M_addNumber_26 (lv_at hl 4 rfl) ?_
      refine nf_if_ne hx hb d_M_addNumber_28 (tgt := 42) (by decide) (fun hc => ?_) (fun hc => ?_)
      · have h := h.1 hc
        refine lv_iload hx hb d_M_addNumber_31 (lv_at hl 0 rfl) ?_
        refine nf_if_gt hx hb d_M_addNumber_33 (tgt := 42) (by decide) (fun hc => ?_) (fun hc => ?_)
        · have h := h.1 hc
          exact w_M_addNumber_42 hfl K (fun x1 x3 x4 x5 z => B_M_addNumber_7 post n x1 x3 x4 x5 z) (fun x1 x3 x4 x5 z H locs ls hh hll hww => ih x1 x3 x4 x5 z H locs ls hh hll hww) x1 x3 x5 t4 M2 _ _ _ h (lv_sub hl [1, 2, 3, 5, 0] rfl) hw
        · have h := h.2 hc
          refine lv_iload hx hb d_M_addNumber_36 (lv_at hl 5 rfl) ?_
          refine lv_iload_n hx hb d_M_addNumber_38 rfl (lv_at hl 3 rfl) ?_
          refine nf_ic_ge hx hb d_M_addNumber_39 (tgt := 46) (by decide) (fun hc => ?_) (fun hc => ?_)
          · have h := h.1 hc
            exact w_M_addNumber_42 hfl K (fun x1 x3 x4 x5 z => B_M_addNumber_7 post n x1 x3 x4 x5 z) (fun x1 x3 x4 x5 z H locs ls hh hll hww => ih x1 x3 x4 x5 z H locs ls hh hll hww) x1 x3 x5 t4 M2 _ _ _ h (lv_sub hl [1, 2, 3, 5, 0] rfl) hw
          · have h := h.2 hc
            refine lv_iconst (v := (0 : Int32)) hx hb d_M_addNumber_46 (by decide) ?_
            exact w_M_addNumber_47 hfl K (fun x1 x3 x4 x5 z => B_M_addNumber_7 post n x1 x3 x4 x5 z) (fun x1 x3 x4 x5 z H locs ls hh hll hww => ih x1 x3 x4 x5 z H locs ls hh hll hww) x1 x3 x5 t4 (0 : Int32) M2 _ _ _ h (lv_sub hl [1, 2, 3, 5, 0] rfl) hw
      · have h := h.2 hc
        exact w_M_addNumber_42 hfl K (fun x1 x3 x4 x5 z => B_M_addNumber_7 post n x1 x3 x4 x5 z) (fun x1 x3 x4 x5 z H locs ls hh hll hww => ih x1 x3 x4 x5 z H locs ls hh hll hww) x1 x3 x5 t4 M2 _ _ _ h (lv_sub hl [1, 2, 3, 5, 0] rfl) hw
theorem c_M_addNumber (l : Launch) (hfl : l.flags = flags0) (x1 : Int64) (x3 : Int32) : nf_C nf_jN l nm_M_addNumber nb_M_addNumber 7 none rm_M_addNumber (fun a => [.ref (a 19), .long x1, .int x3]) (fun M post ex => P_M_addNumber x1 x3 M post) := by
  refine nf_start (plainFor_of_name (by decide +kernel)) (fun a => Nat.le_of_ble_eq_true rfl) ?_
  intro D a sz M post ex p e s m below meth c ls h K hl hw
  have hx := K.1
  have hb := K.2.1
  have hl : lv_has ls 7 [(0, .ref (a 19)), (1, .long x1), (3, .int x3)] := hl
  refine lv_iconst (v := (0 : Int32)) hx hb d_M_addNumber_0 (by decide) ?_
  refine lv_istore (lv' := [(4, .int (0 : Int32)), (0, .ref (a 19)), (1, .long x1), (3, .int x3)]) hx hb d_M_addNumber_1 hl (by decide) rfl (fun ls hl => ?_)
  refine lv_bipush (v := (18 : Int32)) hx hb d_M_addNumber_3 (by decide) ?_
  refine lv_istore (lv' := [(5, .int (18 : Int32)), (4, .int (0 : Int32)), (0, .ref (a 19)), (1, .long x1), (3, .int x3)]) hx hb d_M_addNumber_5 hl (by decide) rfl (fun ls hl => ?_)
  obtain ⟨n, h⟩ := h
  exact w_M_addNumber_7 hfl K n x1 x3 (0 : Int32) (18 : Int32) M _ _ _ h (lv_sub hl [2, 3, 4, 1, 0] rfl) hw
theorem d_M_addExact_0 : decode nb_M_addExact 0 = .ok (.lload_n 1, 1) := by decide +kernel
theorem d_M_addExact_1 : decode nb_M_addExact 1 = .ok (.lconst 0, 1) := by decide +kernel
theorem d_M_addExact_2 : decode nb_M_addExact 2 = .ok (.lcmp, 1) := by decide +kernel
theorem d_M_addExact_3 : decode nb_M_addExact 3 = .ok (.ifCond .ge 9, 3) := by decide +kernel
theorem d_M_addExact_6 : decode nb_M_addExact 6 = .ok (.aload_n 0, 1) := by decide +kernel
theorem d_M_addExact_7 : decode nb_M_addExact 7 = .ok (.bipush 45, 2) := by decide +kernel
theorem d_M_addExact_9 : decode nb_M_addExact 9 = .ok (.invokevirtual 252, 3) := by decide +kernel
theorem d_M_addExact_12 : decode nb_M_addExact 12 = .ok (.lload_n 1, 1) := by decide +kernel
theorem d_M_addExact_13 : decode nb_M_addExact 13 = .ok (.invokestatic 81, 3) := by decide +kernel
theorem d_M_addExact_16 : decode nb_M_addExact 16 = .ok (.lstore 4, 2) := by decide +kernel
theorem d_M_addExact_18 : decode nb_M_addExact 18 = .ok (.aload_n 0, 1) := by decide +kernel
theorem d_M_addExact_19 : decode nb_M_addExact 19 = .ok (.lload 4, 2) := by decide +kernel
theorem d_M_addExact_21 : decode nb_M_addExact 21 = .ok (.iload_n 3, 1) := by decide +kernel
theorem d_M_addExact_22 : decode nb_M_addExact 22 = .ok (.invokestatic 42, 3) := by decide +kernel
theorem d_M_addExact_25 : decode nb_M_addExact 25 = .ok (.ldiv, 1) := by decide +kernel
theorem d_M_addExact_26 : decode nb_M_addExact 26 = .ok (.iconst 1, 1) := by decide +kernel
theorem d_M_addExact_27 : decode nb_M_addExact 27 = .ok (.invokevirtual 255, 3) := by decide +kernel
theorem d_M_addExact_30 : decode nb_M_addExact 30 = .ok (.iload_n 3, 1) := by decide +kernel
theorem d_M_addExact_31 : decode nb_M_addExact 31 = .ok (.ifCond .le 21, 3) := by decide +kernel
theorem d_M_addExact_34 : decode nb_M_addExact 34 = .ok (.aload_n 0, 1) := by decide +kernel
theorem d_M_addExact_35 : decode nb_M_addExact 35 = .ok (.bipush 46, 2) := by decide +kernel
theorem d_M_addExact_37 : decode nb_M_addExact 37 = .ok (.invokevirtual 252, 3) := by decide +kernel
theorem d_M_addExact_40 : decode nb_M_addExact 40 = .ok (.aload_n 0, 1) := by decide +kernel
theorem d_M_addExact_41 : decode nb_M_addExact 41 = .ok (.lload 4, 2) := by decide +kernel
theorem d_M_addExact_43 : decode nb_M_addExact 43 = .ok (.iload_n 3, 1) := by decide +kernel
theorem d_M_addExact_44 : decode nb_M_addExact 44 = .ok (.invokestatic 42, 3) := by decide +kernel
theorem d_M_addExact_47 : decode nb_M_addExact 47 = .ok (.lrem, 1) := by decide +kernel
theorem d_M_addExact_48 : decode nb_M_addExact 48 = .ok (.iload_n 3, 1) := by decide +kernel
theorem d_M_addExact_49 : decode nb_M_addExact 49 = .ok (.invokevirtual 255, 3) := by decide +kernel
theorem d_M_addExact_52 : decode nb_M_addExact 52 = .ok (.return_, 1) := by decide +kernel
abbrev rm_M_addExact : Room := ({ frames := 2, cells := 0, slots := 0, locals := 49 })
theorem w_M_addExact_52 {post : Unit → nf_M → Prop} (hfl : l.flags = flags0) (K : nf_K p s m args meth c "NumberForgeModel" nb_M_addExact 6 none D a sz) : ∀ (M : nf_M) (H : Heap) (locs : List Loc) (ls : Array Slot), B_M_addExact_52 post  M → lv_has ls 6 [] → nf_W D a s sz H locs M → W p l e rm_M_addExact s m args below meth c H locs 0 0 (nf_MQ below (nf_Q nf_jN D a post ex (nf_A a sz)) args s rm_M_addExact.cells rm_M_addExact.slots (nf_A a sz)) (F0 m 52 ls []) := by
  have hx := K.1
  have hb := K.2.1
  intro  M H locs ls h hl hw
  exact nf_vret K hw d_M_addExact_52 (Nat.le_of_ble_eq_true rfl) (Nat.le_of_ble_eq_true rfl) (r := ()) rfl h
theorem w_M_addExact_12 {post : Unit → nf_M → Prop} (hfl : l.flags = flags0) (K : nf_K p s m args meth c "NumberForgeModel" nb_M_addExact 6 none D a sz) : ∀ (x1 : Int64) (x3 : Int32) (M : nf_M) (H : Heap) (locs : List Loc) (ls : Array Slot), B_M_addExact_12 post x1 x3 M → lv_has ls 6 [(0, .ref (a 19)), (1, .long x1), (3, .int x3)] → nf_W D a s sz H locs M → W p l e rm_M_addExact s m args below meth c H locs 0 0 (nf_MQ below (nf_Q nf_jN D a post ex (nf_A a sz)) args s rm_M_addExact.cells rm_M_addExact.slots (nf_A a sz)) (F0 m 12 ls []) := by
  have hx := K.1
  have hb := K.2.1
  intro x1 x3 M H locs ls h hl hw
  refine lv_lload_n hx hb d_M_addExact_12 rfl (lv_at hl 1 rfl) ?_
  refine nf_callW (ex := (fun _ _ => False)) (As := [.long x1]) (st0 := [.long x1]) (rest := []) K hw (nf_invS hx hb K.2.2.2.1 (nf_Kg K nw_1124) (nf_Kg K nw_1125) (nf_Kg K nw_9) (nf_Kg K nw_1126) ⟨by decide, by decide⟩ rfl nl_M_amount rfl d_M_addExact_13) (c_M_amount l hfl x1) nw_1126 nw_9 rfl ⟨by decide, by decide⟩ (Nat.le_of_ble_eq_true rfl) hl.1 ⟨Nat.le_of_ble_eq_true rfl, Nat.le_of_ble_eq_true rfl⟩ h (fun _ _ h => h.elim) (fun r1 M2 H locs h hw => ?_)
  refine W.eq (g2 := F0 m 16 ls [.long r1]) rfl ?_
  refine lv_lstore (lv' := [(4, .long r1), (0, .ref (a 19)), (1, .long x1), (3, .int x3)]) hx hb d_M_addExact_16 hl (by decide) rfl (fun ls hl => ?_)
  refine lv_aload_n hx hb d_M_addExact_18 rfl (lv_at hl 1 rfl) ?_
  refine lv_lload hx hb d_M_addExact_19 (lv_at hl 0 rfl) ?_
  refine lv_iload_n hx hb d_M_addExact_21 rfl (lv_at hl 3 rfl) ?_
  refine nf_callW (ex := (fun _ _ => False)) (As := [.int x3]) (st0 := [.int x3, .long r1, .ref (a 19)]) (rest := [.long r1, .ref (a 19)]) K hw (nf_invS hx hb K.2.2.2.1 (nf_Kg K nw_1066) (nf_Kg K nw_1067) (nf_Kg K nw_9) (nf_Kg K nw_1068) ⟨by decide, by decide⟩ rfl nl_M_power rfl d_M_addExact_22) (c_M_power l hfl x3) nw_1068 nw_9 rfl ⟨by decide, by decide⟩ (Nat.le_of_ble_eq_true rfl) hl.1 ⟨Nat.le_of_ble_eq_true rfl, Nat.le_of_ble_eq_true rfl⟩ h (fun _ _ h => h.elim) (fun r3 M4 H locs h hw => ?_)
  refine W.eq (g2 := F0 m 25 ls [.long r3, .long r1, .ref (a 19)]) rfl ?_
  obtain ⟨g5, h⟩ := h
  refine lv_ldiv hx hb d_M_addExact_25 g5 ?_
  refine lv_iconst (v := (1 : Int32)) hx hb d_M_addExact_26 (by decide) ?_
  refine nf_callW (ex := (fun _ _ => False)) (As := [.ref (a 19), .long (r1 / r3), .int (1 : Int32)]) (st0 := [.int (1 : Int32), .long (r1 / r3), .ref (a 19)]) (rest := []) K hw (nf_invV hx hb K.2.2.2.1 (nf_Kg K nw_1210) (nf_Kg K nw_1212) (nf_Kg K nx_M_addNumber) (nf_Kg K nw_1213) ⟨by decide, by decide⟩ (nf_rcv K hw 19 7 rfl rfl) rfl nl_M_addNumber rfl d_M_addExact_27) (c_M_addNumber l hfl (r1 / r3) (1 : Int32)) nw_1213 nw_9 rfl ⟨by decide, by decide⟩ (Nat.le_of_ble_eq_true rfl) hl.1 ⟨Nat.le_of_ble_eq_true rfl, Nat.le_of_ble_eq_true rfl⟩ h (fun _ _ h => h.elim) (fun r6 M7 H locs h hw => ?_)
  refine W.eq (g2 := F0 m 30 ls []) rfl ?_
  refine lv_iload_n hx hb d_M_addExact_30 rfl (lv_at hl 3 rfl) ?_
  refine nf_if_le hx hb d_M_addExact_31 (tgt := 52) (by decide) (fun hc => ?_) (fun hc => ?_)
  · have h := h.1 hc
    refine lv_aload_n hx hb d_M_addExact_34 rfl (lv_at hl 1 rfl) ?_
    refine lv_bipush (v := (46 : Int32)) hx hb d_M_addExact_35 (by decide) ?_
    refine nf_callW (ex := (fun _ _ => False)) (As := [.ref (a 19), .int (46 : Int32)]) (st0 := [.int (46 : Int32), .ref (a 19)]) (rest := []) K hw (nf_invV hx hb K.2.2.2.1 (nf_Kg K nw_1206) (nf_Kg K nw_1208) (nf_Kg K nx_M_add) (nf_Kg K nw_1209) ⟨by decide, by decide⟩ (nf_rcv K hw 19 7 rfl rfl) rfl nl_M_add rfl d_M_addExact_37) (c_M_add l hfl (46 : Int32)) nw_1209 nw_9 rfl ⟨by decide, by decide⟩ (Nat.le_of_ble_eq_true rfl) hl.1 ⟨Nat.le_of_ble_eq_true rfl, Nat.le_of_ble_eq_true rfl⟩ h (fun _ _ h => h.elim) (fun r8 M9 H locs h hw => ?_)
    refine W.eq (g2 := F0 m 40 ls []) rfl ?_
    refine lv_aload_n hx hb d_M_addExact_40 rfl (lv_at hl 1 rfl) ?_
    refine lv_lload hx hb d_M_addExact_41 (lv_at hl 0 rfl) ?_
    refine lv_iload_n hx hb d_M_addExact_43 rfl (lv_at hl 3 rfl) ?_
    refine nf_callW (ex := (fun _ _ => False)) (As := [.int x3]) (st0 := [.int x3, .long r1, .ref (a 19)]) (rest := [.long r1, .ref (a 19)]) K hw (nf_invS hx hb K.2.2.2.1 (nf_Kg K nw_1066) (nf_Kg K nw_1067) (nf_Kg K nw_9) (nf_Kg K nw_1068) ⟨by decide, by decide⟩ rfl nl_M_power rfl d_M_addExact_44) (c_M_power l hfl x3) nw_1068 nw_9 rfl ⟨by decide, by decide⟩ (Nat.le_of_ble_eq_true rfl) hl.1 ⟨Nat.le_of_ble_eq_true rfl, Nat.le_of_ble_eq_true rfl⟩ h (fun _ _ h => h.elim) (fun r10 M11 H locs h hw => ?_)
    refine W.eq (g2 := F0 m 47 ls [.long r10, .long r1, .ref (a 19)]) rfl ?_
    obtain ⟨g12, h⟩ := h
    refine lv_lrem hx hb d_M_addExact_47 g12 ?_
    refine lv_iload_n hx hb d_M_addExact_48 rfl (lv_at hl 3 rfl) ?_
    refine nf_callW (ex := (fun _ _ => False)) (As := [.ref (a 19), .long (r1 - r1 / r10 * r10), .int x3]) (st0 := [.int x3, .long (r1 - r1 / r10 * r10), .ref (a 19)]) (rest := []) K hw (nf_invV hx hb K.2.2.2.1 (nf_Kg K nw_1210) (nf_Kg K nw_1212) (nf_Kg K nx_M_addNumber) (nf_Kg K nw_1213) ⟨by decide, by decide⟩ (nf_rcv K hw 19 7 rfl rfl) rfl nl_M_addNumber rfl d_M_addExact_49) (c_M_addNumber l hfl (r1 - r1 / r10 * r10) x3) nw_1213 nw_9 rfl ⟨by decide, by decide⟩ (Nat.le_of_ble_eq_true rfl) hl.1 ⟨Nat.le_of_ble_eq_true rfl, Nat.le_of_ble_eq_true rfl⟩ h (fun _ _ h => h.elim) (fun r13 M14 H locs h hw => ?_)
    refine W.eq (g2 := F0 m 52 ls []) rfl ?_
    exact w_M_addExact_52 hfl K  M14 _ _ _ h (lv_sub hl [] rfl) hw
  · have h := h.2 hc
    exact w_M_addExact_52 hfl K  M7 _ _ _ h (lv_sub hl [] rfl) hw
theorem c_M_addExact (l : Launch) (hfl : l.flags = flags0) (x1 : Int64) (x3 : Int32) : nf_C nf_jN l nm_M_addExact nb_M_addExact 6 none rm_M_addExact (fun a => [.ref (a 19), .long x1, .int x3]) (fun M post ex => P_M_addExact x1 x3 M post) := by
  refine nf_start (plainFor_of_name (by decide +kernel)) (fun a => Nat.le_of_ble_eq_true rfl) ?_
  intro D a sz M post ex p e s m below meth c ls h K hl hw
  have hx := K.1
  have hb := K.2.1
  have hl : lv_has ls 6 [(0, .ref (a 19)), (1, .long x1), (3, .int x3)] := hl
  refine lv_lload_n hx hb d_M_addExact_0 rfl (lv_at hl 1 rfl) ?_
  refine lv_lconst (v := (0 : Int64)) hx hb d_M_addExact_1 (by decide) ?_
  refine nf_lc_ge hx hb d_M_addExact_2 d_M_addExact_3 (tgt := 12) (by decide) (fun hc => ?_) (fun hc => ?_)
  · have h := h.1 hc
    refine lv_aload_n hx hb d_M_addExact_6 rfl (lv_at hl 0 rfl) ?_
    refine lv_bipush (v := (45 : Int32)) hx hb d_M_addExact_7 (by decide) ?_
    refine nf_callW (ex := (fun _ _ => False)) (As := [.ref (a 19), .int (45 : Int32)]) (st0 := [.int (45 : Int32), .ref (a 19)]) (rest := []) K hw (nf_invV hx hb K.2.2.2.1 (nf_Kg K nw_1206) (nf_Kg K nw_1208) (nf_Kg K nx_M_add) (nf_Kg K nw_1209) ⟨by decide, by decide⟩ (nf_rcv K hw 19 7 rfl rfl) rfl nl_M_add rfl d_M_addExact_9) (c_M_add l hfl (45 : Int32)) nw_1209 nw_9 rfl ⟨by decide, by decide⟩ (Nat.le_of_ble_eq_true rfl) hl.1 ⟨Nat.le_of_ble_eq_true rfl, Nat.le_of_ble_eq_true rfl⟩ h (fun _ _ h => h.elim) (fun r1 M2 H locs h hw => ?_)
    refine W.eq (g2 := F0 m 12 ls []) rfl ?_
    exact w_M_addExact_12 hfl K x1 x3 M2 _ _ _ h (lv_sub hl [0, 1, 2] rfl) hw
  · have h := h.2 hc
    exact w_M_addExact_12 hfl K x1 x3 M _ _ _ h (lv_sub hl [0, 1, 2] rfl) hw
theorem d_M_width_0 : decode nb_M_width 0 = .ok (.iconst 1, 1) := by decide +kernel
theorem d_M_width_1 : decode nb_M_width 1 = .ok (.istore_n 2, 1) := by decide +kernel
theorem d_M_width_2 : decode nb_M_width 2 = .ok (.iconst 1, 1) := by decide +kernel
theorem d_M_width_3 : decode nb_M_width 3 = .ok (.istore_n 3, 1) := by decide +kernel
theorem d_M_width_4 : decode nb_M_width 4 = .ok (.iload_n 3, 1) := by decide +kernel
theorem d_M_width_5 : decode nb_M_width 5 = .ok (.bipush 18, 2) := by decide +kernel
theorem d_M_width_7 : decode nb_M_width 7 = .ok (.if_icmp .ge 26, 3) := by decide +kernel
theorem d_M_width_10 : decode nb_M_width 10 = .ok (.lload_n 0, 1) := by decide +kernel
theorem d_M_width_11 : decode nb_M_width 11 = .ok (.iload_n 3, 1) := by decide +kernel
theorem d_M_width_12 : decode nb_M_width 12 = .ok (.invokestatic 42, 3) := by decide +kernel
theorem d_M_width_15 : decode nb_M_width 15 = .ok (.lcmp, 1) := by decide +kernel
theorem d_M_width_16 : decode nb_M_width 16 = .ok (.ifCond .lt 9, 3) := by decide +kernel
theorem d_M_width_19 : decode nb_M_width 19 = .ok (.iload_n 3, 1) := by decide +kernel
theorem d_M_width_20 : decode nb_M_width 20 = .ok (.iconst 1, 1) := by decide +kernel
theorem d_M_width_21 : decode nb_M_width 21 = .ok (.iadd, 1) := by decide +kernel
theorem d_M_width_22 : decode nb_M_width 22 = .ok (.goto 4, 3) := by decide +kernel
theorem d_M_width_25 : decode nb_M_width 25 = .ok (.iload_n 2, 1) := by decide +kernel
theorem d_M_width_26 : decode nb_M_width 26 = .ok (.istore_n 2, 1) := by decide +kernel
theorem d_M_width_27 : decode nb_M_width 27 = .ok (.iinc 3 1, 3) := by decide +kernel
theorem d_M_width_30 : decode nb_M_width 30 = .ok (.goto (-26), 3) := by decide +kernel
theorem d_M_width_33 : decode nb_M_width 33 = .ok (.iload_n 2, 1) := by decide +kernel
theorem d_M_width_34 : decode nb_M_width 34 = .ok (.ireturn, 1) := by decide +kernel
abbrev rm_M_width : Room := ({ frames := 1, cells := 0, slots := 0, locals := 23 })
theorem w_M_width_26 {post : Int32 → nf_M → Prop} (hfl : l.flags = flags0) (K : nf_K p s m args meth c "NumberForgeModel" nb_M_width 4 (some FieldType.int) D a sz) (k4 : Int64 → Int32 → Int32 → nf_M → Prop) (hk4 : ∀ (x0 : Int64) (x2 : Int32) (x3 : Int32) (M : nf_M) (H : Heap) (locs : List Loc) (ls : Array Slot), k4 x0 x2 x3 M → lv_has ls 4 [(0, .long x0), (2, .int x2), (3, .int x3)] → nf_W D a s sz H locs M → W p l e rm_M_width s m args below meth c H locs 0 0 (nf_MQ below (nf_Q nf_jI D a post ex (nf_A a sz)) args s rm_M_width.cells rm_M_width.slots (nf_A a sz)) (F0 m 4 ls [])) : ∀ (x0 : Int64) (x3 : Int32) (xy0 : Int32) (M : nf_M) (H : Heap) (locs : List Loc) (ls : Array Slot), B_M_width_26 k4 post x0 x3 xy0 M → lv_has ls 4 [(0, .long x0), (3, .int x3)] → nf_W D a s sz H locs M → W p l e rm_M_width s m args below meth c H locs 0 0 (nf_MQ below (nf_Q nf_jI D a post ex (nf_A a sz)) args s rm_M_width.cells rm_M_width.slots (nf_A a sz)) (F0 m 26 ls [.int xy0]) := by
  have hx := K.1
  have hb := K.2.1
  intro x0 x3 xy0 M H locs ls h hl hw
  refine lv_istore_n (lv' := [(2, .int xy0), (0, .long x0), (3, .int x3)]) hx hb d_M_width_26 rfl hl (by decide) rfl (fun ls hl => ?_)
  refine lv_iinc (k := 2) (v := x3 + (1 : Int32)) (lv' := [(3, .int (x3 + (1 : Int32))), (2, .int xy0), (0, .long x0)]) hx hb d_M_width_27 hl rfl (nf_inc (by decide)) (by decide) rfl (fun ls hl => ?_)
  refine lv_goto hx hb d_M_width_30 (tgt := 4) (by decide) ?_
  exact hk4 x0 xy0 (x3 + (1 : Int32)) M _ _ _ h (lv_sub hl [2, 1, 0] rfl) hw
theorem w_M_width_4 {post : Int32 → nf_M → Prop} (hfl : l.flags = flags0) (K : nf_K p s m args meth c "NumberForgeModel" nb_M_width 4 (some FieldType.int) D a sz) : ∀ (n : Nat) (x0 : Int64) (x2 : Int32) (x3 : Int32) (M : nf_M) (H : Heap) (locs : List Loc) (ls : Array Slot), B_M_width_4 post n x0 x2 x3 M → lv_has ls 4 [(0, .long x0), (2, .int x2), (3, .int x3)] → nf_W D a s sz H locs M → W p l e rm_M_width s m args below meth c H locs 0 0 (nf_MQ below (nf_Q nf_jI D a post ex (nf_A a sz)) args s rm_M_width.cells rm_M_width.slots (nf_A a sz)) (F0 m 4 ls []) := by
  have hx := K.1
  have hb := K.2.1
  intro n
  induction n with
  | zero => intro x0 x2 x3 M H locs ls h hl hw; exact h.elim
  | succ n ih =>
    intro x0 x2 x3 M H locs ls h hl hw
    refine lv_iload_n hx hb d_M_width_4 rfl (lv_at hl 2 rfl) ?_
    refine lv_bipush (v := (18 : Int32)) hx hb d_M_width_5 (by decide) ?_
    refine nf_ic_ge hx hb d_M_width_7 (tgt := 33) (by decide) (fun hc => ?_) (fun hc => ?_)
    · have h := h.1 hc
      refine lv_lload_n hx hb d_M_width_10 rfl (lv_at hl 0 rfl) ?_
      refine lv_iload_n hx hb d_M_width_11 rfl (lv_at hl 2 rfl) ?_
      refine nf_callW (ex := (fun _ _ => False)) (As := [.int x3]) (st0 := [.int x3, .long x0]) (rest := [.long x0]) K hw (nf_invS hx hb K.2.2.2.1 (nf_Kg K nw_1066) (nf_Kg K nw_1067) (nf_Kg K nw_9) (nf_Kg K nw_1068) ⟨by decide, by decide⟩ rfl nl_M_power rfl d_M_width_12) (c_M_power l hfl x3) nw_1068 nw_9 rfl ⟨by decide, by decide⟩ (Nat.le_of_ble_eq_true rfl) hl.1 ⟨Nat.le_of_ble_eq_true rfl, Nat.le_of_ble_eq_true rfl⟩ h (fun _ _ h => h.elim) (fun r1 M2 H locs h hw => ?_)
      refine W.eq (g2 := F0 m 15 ls [.long r1, .long x0]) rfl ?_
      refine nf_lc_lt hx hb d_M_width_15 d_M_width_16 (tgt := 25) (by decide) (fun hc => ?_) (fun hc => ?_)
      · have h := h.1 hc
        refine lv_iload_n hx hb d_M_width_25 rfl (lv_at hl 1 rfl) ?_
        exact w_M_width_26 hfl K (fun x0 x2 x3 z => B_M_width_4 post n x0 x2 x3 z) (fun x0 x2 x3 z H locs ls hh hll hww => ih x0 x2 x3 z H locs ls hh hll hww) x0 x3 x2 M2 _ _ _ h (lv_sub hl [0, 2] rfl) hw
      · have h := h.2 hc
        refine lv_iload_n hx hb d_M_width_19 rfl (lv_at hl 2 rfl) ?_
        refine lv_iconst (v := (1 : Int32)) hx hb d_M_width_20 (by decide) ?_
        refine lv_iadd hx hb d_M_width_21 ?_
        refine lv_goto hx hb d_M_width_22 (tgt := 26) (by decide) ?_
        exact w_M_width_26 hfl K (fun x0 x2 x3 z => B_M_width_4 post n x0 x2 x3 z) (fun x0 x2 x3 z H locs ls hh hll hww => ih x0 x2 x3 z H locs ls hh hll hww) x0 x3 (x3 + (1 : Int32)) M2 _ _ _ h (lv_sub hl [0, 2] rfl) hw
    · have h := h.2 hc
      refine lv_iload_n hx hb d_M_width_33 rfl (lv_at hl 1 rfl) ?_
      exact nf_iret K hw d_M_width_34 rfl (Nat.le_of_ble_eq_true rfl) (Nat.le_of_ble_eq_true rfl) (r := x2) rfl h
theorem c_M_width (l : Launch) (hfl : l.flags = flags0) (x0 : Int64) : nf_C nf_jI l nm_M_width nb_M_width 4 (some FieldType.int) rm_M_width (fun a => [.long x0]) (fun M post ex => P_M_width x0 M post) := by
  refine nf_start (plainFor_of_name (by decide +kernel)) (fun a => Nat.le_of_ble_eq_true rfl) ?_
  intro D a sz M post ex p e s m below meth c ls h K hl hw
  have hx := K.1
  have hb := K.2.1
  have hl : lv_has ls 4 [(0, .long x0)] := hl
  refine lv_iconst (v := (1 : Int32)) hx hb d_M_width_0 (by decide) ?_
  refine lv_istore_n (lv' := [(2, .int (1 : Int32)), (0, .long x0)]) hx hb d_M_width_1 rfl hl (by decide) rfl (fun ls hl => ?_)
  refine lv_iconst (v := (1 : Int32)) hx hb d_M_width_2 (by decide) ?_
  refine lv_istore_n (lv' := [(3, .int (1 : Int32)), (2, .int (1 : Int32)), (0, .long x0)]) hx hb d_M_width_3 rfl hl (by decide) rfl (fun ls hl => ?_)
  obtain ⟨n, h⟩ := h
  exact w_M_width_4 hfl K n x0 (1 : Int32) (1 : Int32) M _ _ _ h (lv_sub hl [2, 1, 0] rfl) hw
theorem d_M_addReal_0 : decode nb_M_addReal 0 = .ok (.lload_n 1, 1) := by decide +kernel
theorem d_M_addReal_1 : decode nb_M_addReal 1 = .ok (.lstore 5, 2) := by decide +kernel
theorem d_M_addReal_3 : decode nb_M_addReal 3 = .ok (.iload_n 3, 1) := by decide +kernel
theorem d_M_addReal_4 : decode nb_M_addReal 4 = .ok (.istore 7, 2) := by decide +kernel
theorem d_M_addReal_6 : decode nb_M_addReal 6 = .ok (.lload 5, 2) := by decide +kernel
theorem d_M_addReal_8 : decode nb_M_addReal 8 = .ok (.ldc2_w 40, 3) := by decide +kernel
theorem d_M_addReal_11 : decode nb_M_addReal 11 = .ok (.lrem, 1) := by decide +kernel
theorem d_M_addReal_12 : decode nb_M_addReal 12 = .ok (.lconst 0, 1) := by decide +kernel
theorem d_M_addReal_13 : decode nb_M_addReal 13 = .ok (.lcmp, 1) := by decide +kernel
theorem d_M_addReal_14 : decode nb_M_addReal 14 = .ok (.ifCond .ne 17, 3) := by decide +kernel
theorem d_M_addReal_17 : decode nb_M_addReal 17 = .ok (.lload 5, 2) := by decide +kernel
theorem d_M_addReal_19 : decode nb_M_addReal 19 = .ok (.ldc2_w 40, 3) := by decide +kernel
theorem d_M_addReal_22 : decode nb_M_addReal 22 = .ok (.ldiv, 1) := by decide +kernel
theorem d_M_addReal_23 : decode nb_M_addReal 23 = .ok (.lstore 5, 2) := by decide +kernel
theorem d_M_addReal_25 : decode nb_M_addReal 25 = .ok (.iinc 7 1, 3) := by decide +kernel
theorem d_M_addReal_28 : decode nb_M_addReal 28 = .ok (.goto (-22), 3) := by decide +kernel
theorem d_M_addReal_31 : decode nb_M_addReal 31 = .ok (.lload 5, 2) := by decide +kernel
theorem d_M_addReal_33 : decode nb_M_addReal 33 = .ok (.invokestatic 258, 3) := by decide +kernel
theorem d_M_addReal_36 : decode nb_M_addReal 36 = .ok (.istore 8, 2) := by decide +kernel
theorem d_M_addReal_38 : decode nb_M_addReal 38 = .ok (.iload 4, 2) := by decide +kernel
theorem d_M_addReal_40 : decode nb_M_addReal 40 = .ok (.ifCond .eq 108, 3) := by decide +kernel
theorem d_M_addReal_43 : decode nb_M_addReal 43 = .ok (.aload_n 0, 1) := by decide +kernel
theorem d_M_addReal_44 : decode nb_M_addReal 44 = .ok (.iload 7, 2) := by decide +kernel
theorem d_M_addReal_46 : decode nb_M_addReal 46 = .ok (.ifCond .lt 14, 3) := by decide +kernel
theorem d_M_addReal_49 : decode nb_M_addReal 49 = .ok (.lload 5, 2) := by decide +kernel
theorem d_M_addReal_51 : decode nb_M_addReal 51 = .ok (.iload 7, 2) := by decide +kernel
theorem d_M_addReal_53 : decode nb_M_addReal 53 = .ok (.invokestatic 42, 3) := by decide +kernel
theorem d_M_addReal_56 : decode nb_M_addReal 56 = .ok (.lmul, 1) := by decide +kernel
theorem d_M_addReal_57 : decode nb_M_addReal 57 = .ok (.goto 24, 3) := by decide +kernel
theorem d_M_addReal_60 : decode nb_M_addReal 60 = .ok (.iload 7, 2) := by decide +kernel
theorem d_M_addReal_62 : decode nb_M_addReal 62 = .ok (.ineg, 1) := by decide +kernel
theorem d_M_addReal_63 : decode nb_M_addReal 63 = .ok (.bipush 19, 2) := by decide +kernel
theorem d_M_addReal_65 : decode nb_M_addReal 65 = .ok (.if_icmp .ge 15, 3) := by decide +kernel
theorem d_M_addReal_68 : decode nb_M_addReal 68 = .ok (.lload 5, 2) := by decide +kernel
theorem d_M_addReal_70 : decode nb_M_addReal 70 = .ok (.iload 7, 2) := by decide +kernel
theorem d_M_addReal_72 : decode nb_M_addReal 72 = .ok (.ineg, 1) := by decide +kernel
theorem d_M_addReal_73 : decode nb_M_addReal 73 = .ok (.invokestatic 42, 3) := by decide +kernel
theorem d_M_addReal_76 : decode nb_M_addReal 76 = .ok (.ldiv, 1) := by decide +kernel
theorem d_M_addReal_77 : decode nb_M_addReal 77 = .ok (.goto 4, 3) := by decide +kernel
theorem d_M_addReal_80 : decode nb_M_addReal 80 = .ok (.lconst 0, 1) := by decide +kernel
theorem d_M_addReal_81 : decode nb_M_addReal 81 = .ok (.iconst 1, 1) := by decide +kernel
theorem d_M_addReal_82 : decode nb_M_addReal 82 = .ok (.invokevirtual 255, 3) := by decide +kernel
theorem d_M_addReal_85 : decode nb_M_addReal 85 = .ok (.iload 7, 2) := by decide +kernel
theorem d_M_addReal_87 : decode nb_M_addReal 87 = .ok (.ifCond .ge 9, 3) := by decide +kernel
theorem d_M_addReal_90 : decode nb_M_addReal 90 = .ok (.aload_n 0, 1) := by decide +kernel
theorem d_M_addReal_91 : decode nb_M_addReal 91 = .ok (.bipush 46, 2) := by decide +kernel
theorem d_M_addReal_93 : decode nb_M_addReal 93 = .ok (.invokevirtual 252, 3) := by decide +kernel
theorem d_M_addReal_96 : decode nb_M_addReal 96 = .ok (.iload 7, 2) := by decide +kernel
theorem d_M_addReal_98 : decode nb_M_addReal 98 = .ok (.ineg, 1) := by decide +kernel
theorem d_M_addReal_99 : decode nb_M_addReal 99 = .ok (.iconst 1, 1) := by decide +kernel
theorem d_M_addReal_100 : decode nb_M_addReal 100 = .ok (.isub, 1) := by decide +kernel
theorem d_M_addReal_101 : decode nb_M_addReal 101 = .ok (.istore 9, 2) := by decide +kernel
theorem d_M_addReal_103 : decode nb_M_addReal 103 = .ok (.iload 9, 2) := by decide +kernel
theorem d_M_addReal_105 : decode nb_M_addReal 105 = .ok (.ifCond .lt 40, 3) := by decide +kernel
theorem d_M_addReal_108 : decode nb_M_addReal 108 = .ok (.aload_n 0, 1) := by decide +kernel
theorem d_M_addReal_109 : decode nb_M_addReal 109 = .ok (.bipush 48, 2) := by decide +kernel
theorem d_M_addReal_111 : decode nb_M_addReal 111 = .ok (.iload 9, 2) := by decide +kernel
theorem d_M_addReal_113 : decode nb_M_addReal 113 = .ok (.bipush 17, 2) := by decide +kernel
theorem d_M_addReal_115 : decode nb_M_addReal 115 = .ok (.if_icmp .le 7, 3) := by decide +kernel
theorem d_M_addReal_118 : decode nb_M_addReal 118 = .ok (.iconst 0, 1) := by decide +kernel
theorem d_M_addReal_119 : decode nb_M_addReal 119 = .ok (.goto 16, 3) := by decide +kernel
theorem d_M_addReal_122 : decode nb_M_addReal 122 = .ok (.lload 5, 2) := by decide +kernel
theorem d_M_addReal_124 : decode nb_M_addReal 124 = .ok (.iload 9, 2) := by decide +kernel
theorem d_M_addReal_126 : decode nb_M_addReal 126 = .ok (.invokestatic 42, 3) := by decide +kernel
theorem d_M_addReal_129 : decode nb_M_addReal 129 = .ok (.ldiv, 1) := by decide +kernel
theorem d_M_addReal_130 : decode nb_M_addReal 130 = .ok (.ldc2_w 40, 3) := by decide +kernel
theorem d_M_addReal_133 : decode nb_M_addReal 133 = .ok (.lrem, 1) := by decide +kernel
theorem d_M_addReal_134 : decode nb_M_addReal 134 = .ok (.l2i, 1) := by decide +kernel
theorem d_M_addReal_135 : decode nb_M_addReal 135 = .ok (.iadd, 1) := by decide +kernel
theorem d_M_addReal_136 : decode nb_M_addReal 136 = .ok (.invokevirtual 252, 3) := by decide +kernel
theorem d_M_addReal_139 : decode nb_M_addReal 139 = .ok (.iinc 9 (-1), 3) := by decide +kernel
theorem d_M_addReal_142 : decode nb_M_addReal 142 = .ok (.goto (-39), 3) := by decide +kernel
theorem d_M_addReal_145 : decode nb_M_addReal 145 = .ok (.goto 98, 3) := by decide +kernel
theorem d_M_addReal_148 : decode nb_M_addReal 148 = .ok (.aload_n 0, 1) := by decide +kernel
theorem d_M_addReal_149 : decode nb_M_addReal 149 = .ok (.lload 5, 2) := by decide +kernel
theorem d_M_addReal_151 : decode nb_M_addReal 151 = .ok (.iload 8, 2) := by decide +kernel
theorem d_M_addReal_153 : decode nb_M_addReal 153 = .ok (.iconst 1, 1) := by decide +kernel
theorem d_M_addReal_154 : decode nb_M_addReal 154 = .ok (.isub, 1) := by decide +kernel
theorem d_M_addReal_155 : decode nb_M_addReal 155 = .ok (.invokestatic 42, 3) := by decide +kernel
theorem d_M_addReal_158 : decode nb_M_addReal 158 = .ok (.ldiv, 1) := by decide +kernel
theorem d_M_addReal_159 : decode nb_M_addReal 159 = .ok (.iconst 1, 1) := by decide +kernel
theorem d_M_addReal_160 : decode nb_M_addReal 160 = .ok (.invokevirtual 255, 3) := by decide +kernel
theorem d_M_addReal_163 : decode nb_M_addReal 163 = .ok (.aload_n 0, 1) := by decide +kernel
theorem d_M_addReal_164 : decode nb_M_addReal 164 = .ok (.bipush 46, 2) := by decide +kernel
theorem d_M_addReal_166 : decode nb_M_addReal 166 = .ok (.invokevirtual 252, 3) := by decide +kernel
theorem d_M_addReal_169 : decode nb_M_addReal 169 = .ok (.aload_n 0, 1) := by decide +kernel
theorem d_M_addReal_170 : decode nb_M_addReal 170 = .ok (.lload 5, 2) := by decide +kernel
theorem d_M_addReal_172 : decode nb_M_addReal 172 = .ok (.iload 8, 2) := by decide +kernel
theorem d_M_addReal_174 : decode nb_M_addReal 174 = .ok (.iconst 1, 1) := by decide +kernel
theorem d_M_addReal_175 : decode nb_M_addReal 175 = .ok (.isub, 1) := by decide +kernel
theorem d_M_addReal_176 : decode nb_M_addReal 176 = .ok (.invokestatic 42, 3) := by decide +kernel
theorem d_M_addReal_179 : decode nb_M_addReal 179 = .ok (.lrem, 1) := by decide +kernel
theorem d_M_addReal_180 : decode nb_M_addReal 180 = .ok (.iload 8, 2) := by decide +kernel
theorem d_M_addReal_182 : decode nb_M_addReal 182 = .ok (.iconst 1, 1) := by decide +kernel
theorem d_M_addReal_183 : decode nb_M_addReal 183 = .ok (.if_icmp .le 10, 3) := by decide +kernel
theorem d_M_addReal_186 : decode nb_M_addReal 186 = .ok (.iload 8, 2) := by decide +kernel
theorem d_M_addReal_188 : decode nb_M_addReal 188 = .ok (.iconst 1, 1) := by decide +kernel
theorem d_M_addReal_189 : decode nb_M_addReal 189 = .ok (.isub, 1) := by decide +kernel
theorem d_M_addReal_190 : decode nb_M_addReal 190 = .ok (.goto 4, 3) := by decide +kernel
theorem d_M_addReal_193 : decode nb_M_addReal 193 = .ok (.iconst 1, 1) := by decide +kernel
theorem d_M_addReal_194 : decode nb_M_addReal 194 = .ok (.invokevirtual 255, 3) := by decide +kernel
theorem d_M_addReal_197 : decode nb_M_addReal 197 = .ok (.aload_n 0, 1) := by decide +kernel
theorem d_M_addReal_198 : decode nb_M_addReal 198 = .ok (.bipush 69, 2) := by decide +kernel
theorem d_M_addReal_200 : decode nb_M_addReal 200 = .ok (.invokevirtual 252, 3) := by decide +kernel
theorem d_M_addReal_203 : decode nb_M_addReal 203 = .ok (.iload 7, 2) := by decide +kernel
theorem d_M_addReal_205 : decode nb_M_addReal 205 = .ok (.iload 8, 2) := by decide +kernel
theorem d_M_addReal_207 : decode nb_M_addReal 207 = .ok (.iadd, 1) := by decide +kernel
theorem d_M_addReal_208 : decode nb_M_addReal 208 = .ok (.iconst 1, 1) := by decide +kernel
theorem d_M_addReal_209 : decode nb_M_addReal 209 = .ok (.isub, 1) := by decide +kernel
theorem d_M_addReal_210 : decode nb_M_addReal 210 = .ok (.istore 9, 2) := by decide +kernel
theorem d_M_addReal_212 : decode nb_M_addReal 212 = .ok (.iload 9, 2) := by decide +kernel
theorem d_M_addReal_214 : decode nb_M_addReal 214 = .ok (.ifCond .ge 9, 3) := by decide +kernel
theorem d_M_addReal_217 : decode nb_M_addReal 217 = .ok (.aload_n 0, 1) := by decide +kernel
theorem d_M_addReal_218 : decode nb_M_addReal 218 = .ok (.bipush 45, 2) := by decide +kernel
theorem d_M_addReal_220 : decode nb_M_addReal 220 = .ok (.invokevirtual 252, 3) := by decide +kernel
theorem d_M_addReal_223 : decode nb_M_addReal 223 = .ok (.aload_n 0, 1) := by decide +kernel
theorem d_M_addReal_224 : decode nb_M_addReal 224 = .ok (.iload 9, 2) := by decide +kernel
theorem d_M_addReal_226 : decode nb_M_addReal 226 = .ok (.ifCond .ge 10, 3) := by decide +kernel
theorem d_M_addReal_229 : decode nb_M_addReal 229 = .ok (.iload 9, 2) := by decide +kernel
theorem d_M_addReal_231 : decode nb_M_addReal 231 = .ok (.ineg, 1) := by decide +kernel
theorem d_M_addReal_232 : decode nb_M_addReal 232 = .ok (.i2l, 1) := by decide +kernel
theorem d_M_addReal_233 : decode nb_M_addReal 233 = .ok (.goto 6, 3) := by decide +kernel
theorem d_M_addReal_236 : decode nb_M_addReal 236 = .ok (.iload 9, 2) := by decide +kernel
theorem d_M_addReal_238 : decode nb_M_addReal 238 = .ok (.i2l, 1) := by decide +kernel
theorem d_M_addReal_239 : decode nb_M_addReal 239 = .ok (.iconst 1, 1) := by decide +kernel
theorem d_M_addReal_240 : decode nb_M_addReal 240 = .ok (.invokevirtual 255, 3) := by decide +kernel
theorem d_M_addReal_243 : decode nb_M_addReal 243 = .ok (.return_, 1) := by decide +kernel
abbrev rm_M_addReal : Room := ({ frames := 2, cells := 0, slots := 0, locals := 49 })
theorem w_M_addReal_135 {post : Unit → nf_M → Prop} (hfl : l.flags = flags0) (K : nf_K p s m args meth c "NumberForgeModel" nb_M_addReal 10 none D a sz) (k103 : Int64 → Int32 → nf_M → Prop) (hk103 : ∀ (x5 : Int64) (x9 : Int32) (M : nf_M) (H : Heap) (locs : List Loc) (ls : Array Slot), k103 x5 x9 M → lv_has ls 10 [(0, .ref (a 19)), (5, .long x5), (9, .int x9)] → nf_W D a s sz H locs M → W p l e rm_M_addReal s m args below meth c H locs 0 0 (nf_MQ below (nf_Q nf_jN D a post ex (nf_A a sz)) args s rm_M_addReal.cells rm_M_addReal.slots (nf_A a sz)) (F0 m 103 ls [])) : ∀ (x5 : Int64) (x9 : Int32) (xy0 : Int32) (xy1 : Int32) (M : nf_M) (H : Heap) (locs : List Loc) (ls : Array Slot), B_M_addReal_135 k103 post x5 x9 xy0 xy1 M → lv_has ls 10 [(0, .ref (a 19)), (5, .long x5), (9, .int x9)] → nf_W D a s sz H locs M → W p l e rm_M_addReal s m args below meth c H locs 0 0 (nf_MQ below (nf_Q nf_jN D a post ex (nf_A a sz)) args s rm_M_addReal.cells rm_M_addReal.slots (nf_A a sz)) (F0 m 135 ls [.int xy0, .int xy1, .ref (a 19)]) := by
  have hx := K.1
  have hb := K.2.1
  intro x5 x9 xy0 xy1 M H locs ls h hl hw
  refine lv_iadd hx hb d_M_addReal_135 ?_
  refine nf_callW (ex := (fun _ _ => False)) (As := [.ref (a 19), .int (xy1 + xy0)]) (st0 := [.int (xy1 + xy0), .ref (a 19)]) (rest := []) K hw (nf_invV hx hb K.2.2.2.1 (nf_Kg K nw_1206) (nf_Kg K nw_1208) (nf_Kg K nx_M_add) (nf_Kg K nw_1209) ⟨by decide, by decide⟩ (nf_rcv K hw 19 7 rfl rfl) rfl nl_M_add rfl d_M_addReal_136) (c_M_add l hfl (xy1 + xy0)) nw_1209 nw_9 rfl ⟨by decide, by decide⟩ (Nat.le_of_ble_eq_true rfl) hl.1 ⟨Nat.le_of_ble_eq_true rfl, Nat.le_of_ble_eq_true rfl⟩ h (fun _ _ h => h.elim) (fun r1 M2 H locs h hw => ?_)
  refine W.eq (g2 := F0 m 139 ls []) rfl ?_
  refine lv_iinc (k := 2) (v := x9 + (-1 : Int32)) (lv' := [(9, .int (x9 + (-1 : Int32))), (0, .ref (a 19)), (5, .long x5)]) hx hb d_M_addReal_139 hl rfl (nf_inc (by decide)) (by decide) rfl (fun ls hl => ?_)
  refine lv_goto hx hb d_M_addReal_142 (tgt := 103) (by decide) ?_
  exact hk103 x5 (x9 + (-1 : Int32)) M2 _ _ _ h (lv_sub hl [1, 2, 0] rfl) hw
theorem w_M_addReal_243 {post : Unit → nf_M → Prop} (hfl : l.flags = flags0) (K : nf_K p s m args meth c "NumberForgeModel" nb_M_addReal 10 none D a sz) : ∀ (M : nf_M) (H : Heap) (locs : List Loc) (ls : Array Slot), B_M_addReal_243 post  M → lv_has ls 10 [] → nf_W D a s sz H locs M → W p l e rm_M_addReal s m args below meth c H locs 0 0 (nf_MQ below (nf_Q nf_jN D a post ex (nf_A a sz)) args s rm_M_addReal.cells rm_M_addReal.slots (nf_A a sz)) (F0 m 243 ls []) := by
  have hx := K.1
  have hb := K.2.1
  intro  M H locs ls h hl hw
  exact nf_vret K hw d_M_addReal_243 (Nat.le_of_ble_eq_true rfl) (Nat.le_of_ble_eq_true rfl) (r := ()) rfl h
theorem w_M_addReal_103 {post : Unit → nf_M → Prop} (hfl : l.flags = flags0) (K : nf_K p s m args meth c "NumberForgeModel" nb_M_addReal 10 none D a sz) : ∀ (n : Nat) (x5 : Int64) (x9 : Int32) (M : nf_M) (H : Heap) (locs : List Loc) (ls : Array Slot), B_M_addReal_103 post n x5 x9 M → lv_has ls 10 [(0, .ref (a 19)), (5, .long x5), (9, .int x9)] → nf_W D a s sz H locs M → W p l e rm_M_addReal s m args below meth c H locs 0 0 (nf_MQ below (nf_Q nf_jN D a post ex (nf_A a sz)) args s rm_M_addReal.cells rm_M_addReal.slots (nf_A a sz)) (F0 m 103 ls []) := by
  have hx := K.1
  have hb := K.2.1
  intro n
  induction n with
  | zero => intro x5 x9 M H locs ls h hl hw; exact h.elim
  | succ n ih =>
    intro x5 x9 M H locs ls h hl hw
    refine lv_iload hx hb d_M_addReal_103 (lv_at hl 2 rfl) ?_
    refine nf_if_lt hx hb d_M_addReal_105 (tgt := 145) (by decide) (fun hc => ?_) (fun hc => ?_)
    · have h := h.1 hc
      refine lv_goto hx hb d_M_addReal_145 (tgt := 243) (by decide) ?_
      exact w_M_addReal_243 hfl K  M _ _ _ h (lv_sub hl [] rfl) hw
    · have h := h.2 hc
      refine lv_aload_n hx hb d_M_addReal_108 rfl (lv_at hl 0 rfl) ?_
      refine lv_bipush (v := (48 : Int32)) hx hb d_M_addReal_109 (by decide) ?_
      refine lv_iload hx hb d_M_addReal_111 (lv_at hl 2 rfl) ?_
      refine lv_bipush (v := (17 : Int32)) hx hb d_M_addReal_113 (by decide) ?_
      refine nf_ic_le hx hb d_M_addReal_115 (tgt := 122) (by decide) (fun hc => ?_) (fun hc => ?_)
      · have h := h.1 hc
        refine lv_iconst (v := (0 : Int32)) hx hb d_M_addReal_118 (by decide) ?_
        refine lv_goto hx hb d_M_addReal_119 (tgt := 135) (by decide) ?_
        exact w_M_addReal_135 hfl K (fun x5 x9 z => B_M_addReal_103 post n x5 x9 z) (fun x5 x9 z H locs ls hh hll hww => ih x5 x9 z H locs ls hh hll hww) x5 x9 (0 : Int32) (48 : Int32) M _ _ _ h (lv_sub hl [0, 1, 2] rfl) hw
      · have h := h.2 hc
        refine lv_lload hx hb d_M_addReal_122 (lv_at hl 1 rfl) ?_
        refine lv_iload hx hb d_M_addReal_124 (lv_at hl 2 rfl) ?_
        refine nf_callW (ex := (fun _ _ => False)) (As := [.int x9]) (st0 := [.int x9, .long x5, .int (48 : Int32), .ref (a 19)]) (rest := [.long x5, .int (48 : Int32), .ref (a 19)]) K hw (nf_invS hx hb K.2.2.2.1 (nf_Kg K nw_1066) (nf_Kg K nw_1067) (nf_Kg K nw_9) (nf_Kg K nw_1068) ⟨by decide, by decide⟩ rfl nl_M_power rfl d_M_addReal_126) (c_M_power l hfl x9) nw_1068 nw_9 rfl ⟨by decide, by decide⟩ (Nat.le_of_ble_eq_true rfl) hl.1 ⟨Nat.le_of_ble_eq_true rfl, Nat.le_of_ble_eq_true rfl⟩ h (fun _ _ h => h.elim) (fun r1 M2 H locs h hw => ?_)
        refine W.eq (g2 := F0 m 129 ls [.long r1, .long x5, .int (48 : Int32), .ref (a 19)]) rfl ?_
        obtain ⟨g3, h⟩ := h
        refine lv_ldiv hx hb d_M_addReal_129 g3 ?_
        refine lv_ldc2 (v := (10 : Int64)) hx hb K.2.2.2.1 (nf_Kg K nw_1038) d_M_addReal_130 ?_
        refine lv_lrem hx hb d_M_addReal_133 (by decide) ?_
        refine lv_l2i hx hb d_M_addReal_134 rfl ?_
        exact w_M_addReal_135 hfl K (fun x5 x9 z => B_M_addReal_103 post n x5 x9 z) (fun x5 x9 z H locs ls hh hll hww => ih x5 x9 z H locs ls hh hll hww) x5 x9 (((x5 / r1) - (x5 / r1) / (10 : Int64) * (10 : Int64)).toInt32) (48 : Int32) M2 _ _ _ h (lv_sub hl [0, 1, 2] rfl) hw
theorem w_M_addReal_96 {post : Unit → nf_M → Prop} (hfl : l.flags = flags0) (K : nf_K p s m args meth c "NumberForgeModel" nb_M_addReal 10 none D a sz) : ∀ (x5 : Int64) (x7 : Int32) (M : nf_M) (H : Heap) (locs : List Loc) (ls : Array Slot), B_M_addReal_96 post x5 x7 M → lv_has ls 10 [(0, .ref (a 19)), (5, .long x5), (7, .int x7)] → nf_W D a s sz H locs M → W p l e rm_M_addReal s m args below meth c H locs 0 0 (nf_MQ below (nf_Q nf_jN D a post ex (nf_A a sz)) args s rm_M_addReal.cells rm_M_addReal.slots (nf_A a sz)) (F0 m 96 ls []) := by
  have hx := K.1
  have hb := K.2.1
  intro x5 x7 M H locs ls h hl hw
  refine lv_iload hx hb d_M_addReal_96 (lv_at hl 2 rfl) ?_
  refine lv_ineg hx hb d_M_addReal_98 ?_
  refine lv_iconst (v := (1 : Int32)) hx hb d_M_addReal_99 (by decide) ?_
  refine lv_isub hx hb d_M_addReal_100 ?_
  refine lv_topi (fun t1 et1 => ?_)
  have h := h t1 et1
  refine lv_istore (lv' := [(9, .int t1), (0, .ref (a 19)), (5, .long x5), (7, .int x7)]) hx hb d_M_addReal_101 hl (by decide) rfl (fun ls hl => ?_)
  obtain ⟨n, h⟩ := h
  exact w_M_addReal_103 hfl K n x5 t1 M _ _ _ h (lv_sub hl [1, 2, 0] rfl) hw
theorem w_M_addReal_81 {post : Unit → nf_M → Prop} (hfl : l.flags = flags0) (K : nf_K p s m args meth c "NumberForgeModel" nb_M_addReal 10 none D a sz) : ∀ (x5 : Int64) (x7 : Int32) (xy0 : Int64) (M : nf_M) (H : Heap) (locs : List Loc) (ls : Array Slot), B_M_addReal_81 post x5 x7 xy0 M → lv_has ls 10 [(0, .ref (a 19)), (5, .long x5), (7, .int x7)] → nf_W D a s sz H locs M → W p l e rm_M_addReal s m args below meth c H locs 0 0 (nf_MQ below (nf_Q nf_jN D a post ex (nf_A a sz)) args s rm_M_addReal.cells rm_M_addReal.slots (nf_A a sz)) (F0 m 81 ls [.long xy0, .ref (a 19)]) := by
  have hx := K.1
  have hb := K.2.1
  intro x5 x7 xy0 M H locs ls h hl hw
  refine lv_iconst (v := (1 : Int32)) hx hb d_M_addReal_81 (by decide) ?_
  refine nf_callW (ex := (fun _ _ => False)) (As := [.ref (a 19), .long xy0, .int (1 : Int32)]) (st0 := [.int (1 : Int32), .long xy0, .ref (a 19)]) (rest := []) K hw (nf_invV hx hb K.2.2.2.1 (nf_Kg K nw_1210) (nf_Kg K nw_1212) (nf_Kg K nx_M_addNumber) (nf_Kg K nw_1213) ⟨by decide, by decide⟩ (nf_rcv K hw 19 7 rfl rfl) rfl nl_M_addNumber rfl d_M_addReal_82) (c_M_addNumber l hfl xy0 (1 : Int32)) nw_1213 nw_9 rfl ⟨by decide, by decide⟩ (Nat.le_of_ble_eq_true rfl) hl.1 ⟨Nat.le_of_ble_eq_true rfl, Nat.le_of_ble_eq_true rfl⟩ h (fun _ _ h => h.elim) (fun r1 M2 H locs h hw => ?_)
  refine W.eq (g2 := F0 m 85 ls []) rfl ?_
  refine lv_iload hx hb d_M_addReal_85 (lv_at hl 2 rfl) ?_
  refine nf_if_ge hx hb d_M_addReal_87 (tgt := 96) (by decide) (fun hc => ?_) (fun hc => ?_)
  · have h := h.1 hc
    refine lv_aload_n hx hb d_M_addReal_90 rfl (lv_at hl 0 rfl) ?_
    refine lv_bipush (v := (46 : Int32)) hx hb d_M_addReal_91 (by decide) ?_
    refine nf_callW (ex := (fun _ _ => False)) (As := [.ref (a 19), .int (46 : Int32)]) (st0 := [.int (46 : Int32), .ref (a 19)]) (rest := []) K hw (nf_invV hx hb K.2.2.2.1 (nf_Kg K nw_1206) (nf_Kg K nw_1208) (nf_Kg K nx_M_add) (nf_Kg K nw_1209) ⟨by decide, by decide⟩ (nf_rcv K hw 19 7 rfl rfl) rfl nl_M_add rfl d_M_addReal_93) (c_M_add l hfl (46 : Int32)) nw_1209 nw_9 rfl ⟨by decide, by decide⟩ (Nat.le_of_ble_eq_true rfl) hl.1 ⟨Nat.le_of_ble_eq_true rfl, Nat.le_of_ble_eq_true rfl⟩ h (fun _ _ h => h.elim) (fun r3 M4 H locs h hw => ?_)
    refine W.eq (g2 := F0 m 96 ls []) rfl ?_
    exact w_M_addReal_96 hfl K x5 x7 M4 _ _ _ h (lv_sub hl [0, 1, 2] rfl) hw
  · have h := h.2 hc
    exact w_M_addReal_96 hfl K x5 x7 M2 _ _ _ h (lv_sub hl [0, 1, 2] rfl) hw
theorem w_M_addReal_239 {post : Unit → nf_M → Prop} (hfl : l.flags = flags0) (K : nf_K p s m args meth c "NumberForgeModel" nb_M_addReal 10 none D a sz) : ∀ (xy0 : Int64) (M : nf_M) (H : Heap) (locs : List Loc) (ls : Array Slot), B_M_addReal_239 post xy0 M → lv_has ls 10 [] → nf_W D a s sz H locs M → W p l e rm_M_addReal s m args below meth c H locs 0 0 (nf_MQ below (nf_Q nf_jN D a post ex (nf_A a sz)) args s rm_M_addReal.cells rm_M_addReal.slots (nf_A a sz)) (F0 m 239 ls [.long xy0, .ref (a 19)]) := by
  have hx := K.1
  have hb := K.2.1
  intro xy0 M H locs ls h hl hw
  refine lv_iconst (v := (1 : Int32)) hx hb d_M_addReal_239 (by decide) ?_
  refine nf_callW (ex := (fun _ _ => False)) (As := [.ref (a 19), .long xy0, .int (1 : Int32)]) (st0 := [.int (1 : Int32), .long xy0, .ref (a 19)]) (rest := []) K hw (nf_invV hx hb K.2.2.2.1 (nf_Kg K nw_1210) (nf_Kg K nw_1212) (nf_Kg K nx_M_addNumber) (nf_Kg K nw_1213) ⟨by decide, by decide⟩ (nf_rcv K hw 19 7 rfl rfl) rfl nl_M_addNumber rfl d_M_addReal_240) (c_M_addNumber l hfl xy0 (1 : Int32)) nw_1213 nw_9 rfl ⟨by decide, by decide⟩ (Nat.le_of_ble_eq_true rfl) hl.1 ⟨Nat.le_of_ble_eq_true rfl, Nat.le_of_ble_eq_true rfl⟩ h (fun _ _ h => h.elim) (fun r1 M2 H locs h hw => ?_)
  refine W.eq (g2 := F0 m 243 ls []) rfl ?_
  exact w_M_addReal_243 hfl K  M2 _ _ _ h (lv_sub hl [] rfl) hw
theorem w_M_addReal_223 {post : Unit → nf_M → Prop} (hfl : l.flags = flags0) (K : nf_K p s m args meth c "NumberForgeModel" nb_M_addReal 10 none D a sz) : ∀ (x9 : Int32) (M : nf_M) (H : Heap) (locs : List Loc) (ls : Array Slot), B_M_addReal_223 post x9 M → lv_has ls 10 [(0, .ref (a 19)), (9, .int x9)] → nf_W D a s sz H locs M → W p l e rm_M_addReal s m args below meth c H locs 0 0 (nf_MQ below (nf_Q nf_jN D a post ex (nf_A a sz)) args s rm_M_addReal.cells rm_M_addReal.slots (nf_A a sz)) (F0 m 223 ls []) := by
  have hx := K.1
  have hb := K.2.1
  intro x9 M H locs ls h hl hw
  refine lv_aload_n hx hb d_M_addReal_223 rfl (lv_at hl 0 rfl) ?_
  refine lv_iload hx hb d_M_addReal_224 (lv_at hl 1 rfl) ?_
  refine nf_if_ge hx hb d_M_addReal_226 (tgt := 236) (by decide) (fun hc => ?_) (fun hc => ?_)
  · have h := h.1 hc
    refine lv_iload hx hb d_M_addReal_229 (lv_at hl 1 rfl) ?_
    refine lv_ineg hx hb d_M_addReal_231 ?_
    refine lv_i2l hx hb d_M_addReal_232 rfl ?_
    refine lv_goto hx hb d_M_addReal_233 (tgt := 239) (by decide) ?_
    exact w_M_addReal_239 hfl K ((-x9).toInt64) M _ _ _ h (lv_sub hl [] rfl) hw
  · have h := h.2 hc
    refine lv_iload hx hb d_M_addReal_236 (lv_at hl 1 rfl) ?_
    refine lv_i2l hx hb d_M_addReal_238 rfl ?_
    exact w_M_addReal_239 hfl K (x9.toInt64) M _ _ _ h (lv_sub hl [] rfl) hw
theorem w_M_addReal_194 {post : Unit → nf_M → Prop} (hfl : l.flags = flags0) (K : nf_K p s m args meth c "NumberForgeModel" nb_M_addReal 10 none D a sz) : ∀ (x7 : Int32) (x8 : Int32) (xy0 : Int32) (xy1 : Int64) (M : nf_M) (H : Heap) (locs : List Loc) (ls : Array Slot), B_M_addReal_194 post x7 x8 xy0 xy1 M → lv_has ls 10 [(0, .ref (a 19)), (7, .int x7), (8, .int x8)] → nf_W D a s sz H locs M → W p l e rm_M_addReal s m args below meth c H locs 0 0 (nf_MQ below (nf_Q nf_jN D a post ex (nf_A a sz)) args s rm_M_addReal.cells rm_M_addReal.slots (nf_A a sz)) (F0 m 194 ls [.int xy0, .long xy1, .ref (a 19)]) := by
  have hx := K.1
  have hb := K.2.1
  intro x7 x8 xy0 xy1 M H locs ls h hl hw
  refine nf_callW (ex := (fun _ _ => False)) (As := [.ref (a 19), .long xy1, .int xy0]) (st0 := [.int xy0, .long xy1, .ref (a 19)]) (rest := []) K hw (nf_invV hx hb K.2.2.2.1 (nf_Kg K nw_1210) (nf_Kg K nw_1212) (nf_Kg K nx_M_addNumber) (nf_Kg K nw_1213) ⟨by decide, by decide⟩ (nf_rcv K hw 19 7 rfl rfl) rfl nl_M_addNumber rfl d_M_addReal_194) (c_M_addNumber l hfl xy1 xy0) nw_1213 nw_9 rfl ⟨by decide, by decide⟩ (Nat.le_of_ble_eq_true rfl) hl.1 ⟨Nat.le_of_ble_eq_true rfl, Nat.le_of_ble_eq_true rfl⟩ h (fun _ _ h => h.elim) (fun r1 M2 H locs h hw => ?_)
  refine W.eq (g2 := F0 m 197 ls []) rfl ?_
  refine lv_aload_n hx hb d_M_addReal_197 rfl (lv_at hl 0 rfl) ?_
  refine lv_bipush (v := (69 : Int32)) hx hb d_M_addReal_198 (by decide) ?_
  refine nf_callW (ex := (fun _ _ => False)) (As := [.ref (a 19), .int (69 : Int32)]) (st0 := [.int (69 : Int32), .ref (a 19)]) (rest := []) K hw (nf_invV hx hb K.2.2.2.1 (nf_Kg K nw_1206) (nf_Kg K nw_1208) (nf_Kg K nx_M_add) (nf_Kg K nw_1209) ⟨by decide, by decide⟩ (nf_rcv K hw 19 7 rfl rfl) rfl nl_M_add rfl d_M_addReal_200) (c_M_add l hfl (69 : Int32)) nw_1209 nw_9 rfl ⟨by decide, by decide⟩ (Nat.le_of_ble_eq_true rfl) hl.1 ⟨Nat.le_of_ble_eq_true rfl, Nat.le_of_ble_eq_true rfl⟩ h (fun _ _ h => h.elim) (fun r3 M4 H locs h hw => ?_)
  refine W.eq (g2 := F0 m 203 ls []) rfl ?_
  refine lv_iload hx hb d_M_addReal_203 (lv_at hl 1 rfl) ?_
  refine lv_iload hx hb d_M_addReal_205 (lv_at hl 2 rfl) ?_
  refine lv_iadd hx hb d_M_addReal_207 ?_
  refine lv_iconst (v := (1 : Int32)) hx hb d_M_addReal_208 (by decide) ?_
  refine lv_isub hx hb d_M_addReal_209 ?_
  refine lv_topi (fun t5 et5 => ?_)
  have h := h t5 et5
  refine lv_istore (lv' := [(9, .int t5), (0, .ref (a 19)), (7, .int x7), (8, .int x8)]) hx hb d_M_addReal_210 hl (by decide) rfl (fun ls hl => ?_)
  refine lv_iload hx hb d_M_addReal_212 (lv_at hl 0 rfl) ?_
  refine nf_if_ge hx hb d_M_addReal_214 (tgt := 223) (by decide) (fun hc => ?_) (fun hc => ?_)
  · have h := h.1 hc
    refine lv_aload_n hx hb d_M_addReal_217 rfl (lv_at hl 1 rfl) ?_
    refine lv_bipush (v := (45 : Int32)) hx hb d_M_addReal_218 (by decide) ?_
    refine nf_callW (ex := (fun _ _ => False)) (As := [.ref (a 19), .int (45 : Int32)]) (st0 := [.int (45 : Int32), .ref (a 19)]) (rest := []) K hw (nf_invV hx hb K.2.2.2.1 (nf_Kg K nw_1206) (nf_Kg K nw_1208) (nf_Kg K nx_M_add) (nf_Kg K nw_1209) ⟨by decide, by decide⟩ (nf_rcv K hw 19 7 rfl rfl) rfl nl_M_add rfl d_M_addReal_220) (c_M_add l hfl (45 : Int32)) nw_1209 nw_9 rfl ⟨by decide, by decide⟩ (Nat.le_of_ble_eq_true rfl) hl.1 ⟨Nat.le_of_ble_eq_true rfl, Nat.le_of_ble_eq_true rfl⟩ h (fun _ _ h => h.elim) (fun r6 M7 H locs h hw => ?_)
    refine W.eq (g2 := F0 m 223 ls []) rfl ?_
    exact w_M_addReal_223 hfl K t5 M7 _ _ _ h (lv_sub hl [1, 0] rfl) hw
  · have h := h.2 hc
    exact w_M_addReal_223 hfl K t5 M4 _ _ _ h (lv_sub hl [1, 0] rfl) hw
theorem w_M_addReal_6 {post : Unit → nf_M → Prop} (hfl : l.flags = flags0) (K : nf_K p s m args meth c "NumberForgeModel" nb_M_addReal 10 none D a sz) : ∀ (n : Nat) (x4 : Int32) (x5 : Int64) (x7 : Int32) (M : nf_M) (H : Heap) (locs : List Loc) (ls : Array Slot), B_M_addReal_6 post n x4 x5 x7 M → lv_has ls 10 [(0, .ref (a 19)), (4, .int x4), (5, .long x5), (7, .int x7)] → nf_W D a s sz H locs M → W p l e rm_M_addReal s m args below meth c H locs 0 0 (nf_MQ below (nf_Q nf_jN D a post ex (nf_A a sz)) args s rm_M_addReal.cells rm_M_addReal.slots (nf_A a sz)) (F0 m 6 ls []) := by
  have hx := K.1
  have hb := K.2.1
  intro n
  induction n with
  | zero => intro x4 x5 x7 M H locs ls h hl hw; exact h.elim
  | succ n ih =>
    intro x4 x5 x7 M H locs ls h hl hw
    refine lv_lload hx hb d_M_addReal_6 (lv_at hl 2 rfl) ?_
    refine lv_ldc2 (v := (10 : Int64)) hx hb K.2.2.2.1 (nf_Kg K nw_1038) d_M_addReal_8 ?_
    refine lv_lrem hx hb d_M_addReal_11 (by decide) ?_
    refine lv_lconst (v := (0 : Int64)) hx hb d_M_addReal_12 (by decide) ?_
    refine nf_lc_ne hx hb d_M_addReal_13 d_M_addReal_14 (tgt := 31) (by decide) (fun hc => ?_) (fun hc => ?_)
    · have h := h.1 hc
      refine lv_lload hx hb d_M_addReal_17 (lv_at hl 2 rfl) ?_
      refine lv_ldc2 (v := (10 : Int64)) hx hb K.2.2.2.1 (nf_Kg K nw_1038) d_M_addReal_19 ?_
      refine lv_ldiv hx hb d_M_addReal_22 (by decide) ?_
      refine lv_topl (fun t1 et1 => ?_)
      have h := h t1 et1
      refine lv_lstore (lv' := [(5, .long t1), (0, .ref (a 19)), (4, .int x4), (7, .int x7)]) hx hb d_M_addReal_23 hl (by decide) rfl (fun ls hl => ?_)
      refine lv_iinc (k := 3) (v := x7 + (1 : Int32)) (lv' := [(7, .int (x7 + (1 : Int32))), (5, .long t1), (0, .ref (a 19)), (4, .int x4)]) hx hb d_M_addReal_25 hl rfl (nf_inc (by decide)) (by decide) rfl (fun ls hl => ?_)
      refine lv_goto hx hb d_M_addReal_28 (tgt := 6) (by decide) ?_
      exact ih x4 t1 (x7 + (1 : Int32)) M _ _ _ h (lv_sub hl [2, 3, 1, 0] rfl) hw
    · have h := h.2 hc
      refine lv_lload hx hb d_M_addReal_31 (lv_at hl 2 rfl) ?_
      refine nf_callW (ex := (fun _ _ => False)) (As := [.long x5]) (st0 := [.long x5]) (rest := []) K hw (nf_invS hx hb K.2.2.2.1 (nf_Kg K nw_1223) (nf_Kg K nw_1224) (nf_Kg K nw_9) (nf_Kg K nw_1225) ⟨by decide, by decide⟩ rfl nl_M_width rfl d_M_addReal_33) (c_M_width l hfl x5) nw_1225 nw_9 rfl ⟨by decide, by decide⟩ (Nat.le_of_ble_eq_true rfl) hl.1 ⟨Nat.le_of_ble_eq_true rfl, Nat.le_of_ble_eq_true rfl⟩ h (fun _ _ h => h.elim) (fun r2 M3 H locs h hw => ?_)
      refine W.eq (g2 := F0 m 36 ls [.int r2]) rfl ?_
      refine lv_istore (lv' := [(8, .int r2), (0, .ref (a 19)), (4, .int x4), (5, .long x5), (7, .int x7)]) hx hb d_M_addReal_36 hl (by decide) rfl (fun ls hl => ?_)
      refine lv_iload hx hb d_M_addReal_38 (lv_at hl 2 rfl) ?_
      refine nf_if_eq hx hb d_M_addReal_40 (tgt := 148) (by decide) (fun hc => ?_) (fun hc => ?_)
      · have h := h.1 hc
        refine lv_aload_n hx hb d_M_addReal_148 rfl (lv_at hl 1 rfl) ?_
        refine lv_lload hx hb d_M_addReal_149 (lv_at hl 3 rfl) ?_
        refine lv_iload hx hb d_M_addReal_151 (lv_at hl 0 rfl) ?_
        refine lv_iconst (v := (1 : Int32)) hx hb d_M_addReal_153 (by decide) ?_
        refine lv_isub hx hb d_M_addReal_154 ?_
        refine nf_callW (ex := (fun _ _ => False)) (As := [.int (r2 - (1 : Int32))]) (st0 := [.int (r2 - (1 : Int32)), .long x5, .ref (a 19)]) (rest := [.long x5, .ref (a 19)]) K hw (nf_invS hx hb K.2.2.2.1 (nf_Kg K nw_1066) (nf_Kg K nw_1067) (nf_Kg K nw_9) (nf_Kg K nw_1068) ⟨by decide, by decide⟩ rfl nl_M_power rfl d_M_addReal_155) (c_M_power l hfl (r2 - (1 : Int32))) nw_1068 nw_9 rfl ⟨by decide, by decide⟩ (Nat.le_of_ble_eq_true rfl) hl.1 ⟨Nat.le_of_ble_eq_true rfl, Nat.le_of_ble_eq_true rfl⟩ h (fun _ _ h => h.elim) (fun r4 M5 H locs h hw => ?_)
        refine W.eq (g2 := F0 m 158 ls [.long r4, .long x5, .ref (a 19)]) rfl ?_
        obtain ⟨g6, h⟩ := h
        refine lv_ldiv hx hb d_M_addReal_158 g6 ?_
        refine lv_iconst (v := (1 : Int32)) hx hb d_M_addReal_159 (by decide) ?_
        refine nf_callW (ex := (fun _ _ => False)) (As := [.ref (a 19), .long (x5 / r4), .int (1 : Int32)]) (st0 := [.int (1 : Int32), .long (x5 / r4), .ref (a 19)]) (rest := []) K hw (nf_invV hx hb K.2.2.2.1 (nf_Kg K nw_1210) (nf_Kg K nw_1212) (nf_Kg K nx_M_addNumber) (nf_Kg K nw_1213) ⟨by decide, by decide⟩ (nf_rcv K hw 19 7 rfl rfl) rfl nl_M_addNumber rfl d_M_addReal_160) (c_M_addNumber l hfl (x5 / r4) (1 : Int32)) nw_1213 nw_9 rfl ⟨by decide, by decide⟩ (Nat.le_of_ble_eq_true rfl) hl.1 ⟨Nat.le_of_ble_eq_true rfl, Nat.le_of_ble_eq_true rfl⟩ h (fun _ _ h => h.elim) (fun r7 M8 H locs h hw => ?_)
        refine W.eq (g2 := F0 m 163 ls []) rfl ?_
        refine lv_aload_n hx hb d_M_addReal_163 rfl (lv_at hl 1 rfl) ?_
        refine lv_bipush (v := (46 : Int32)) hx hb d_M_addReal_164 (by decide) ?_
        refine nf_callW (ex := (fun _ _ => False)) (As := [.ref (a 19), .int (46 : Int32)]) (st0 := [.int (46 : Int32), .ref (a 19)]) (rest := []) K hw (nf_invV hx hb K.2.2.2.1 (nf_Kg K nw_1206) (nf_Kg K nw_1208) (nf_Kg K nx_M_add) (nf_Kg K nw_1209) ⟨by decide, by decide⟩ (nf_rcv K hw 19 7 rfl rfl) rfl nl_M_add rfl d_M_addReal_166) (c_M_add l hfl (46 : Int32)) nw_1209 nw_9 rfl ⟨by decide, by decide⟩ (Nat.le_of_ble_eq_true rfl) hl.1 ⟨Nat.le_of_ble_eq_true rfl, Nat.le_of_ble_eq_true rfl⟩ h (fun _ _ h => h.elim) (fun r9 M10 H locs h hw => ?_)
        refine W.eq (g2 := F0 m 169 ls []) rfl ?_
        refine lv_aload_n hx hb d_M_addReal_169 rfl (lv_at hl 1 rfl) ?_
        refine lv_lload hx hb d_M_addReal_170 (lv_at hl 3 rfl) ?_
        refine lv_iload hx hb d_M_addReal_172 (lv_at hl 0 rfl) ?_
        refine lv_iconst (v := (1 : Int32)) hx hb d_M_addReal_174 (by decide) ?_
        refine lv_isub hx hb d_M_addReal_175 ?_
        refine nf_callW (ex := (fun _ _ => False)) (As := [.int (r2 - (1 : Int32))]) (st0 := [.int (r2 - (1 : Int32)), .long x5, .ref (a 19)]) (rest := [.long x5, .ref (a 19)]) K hw (nf_invS hx hb K.2.2.2.1 (nf_Kg K nw_1066) (nf_Kg K nw_1067) (nf_Kg K nw_9) (nf_Kg K nw_1068) ⟨by decide, by decide⟩ rfl nl_M_power rfl d_M_addReal_176) (c_M_power l hfl (r2 - (1 : Int32))) nw_1068 nw_9 rfl ⟨by decide, by decide⟩ (Nat.le_of_ble_eq_true rfl) hl.1 ⟨Nat.le_of_ble_eq_true rfl, Nat.le_of_ble_eq_true rfl⟩ h (fun _ _ h => h.elim) (fun r11 M12 H locs h hw => ?_)
        refine W.eq (g2 := F0 m 179 ls [.long r11, .long x5, .ref (a 19)]) rfl ?_
        obtain ⟨g13, h⟩ := h
        refine lv_lrem hx hb d_M_addReal_179 g13 ?_
        refine lv_iload hx hb d_M_addReal_180 (lv_at hl 0 rfl) ?_
        refine lv_iconst (v := (1 : Int32)) hx hb d_M_addReal_182 (by decide) ?_
        refine nf_ic_le hx hb d_M_addReal_183 (tgt := 193) (by decide) (fun hc => ?_) (fun hc => ?_)
        · have h := h.1 hc
          refine lv_iload hx hb d_M_addReal_186 (lv_at hl 0 rfl) ?_
          refine lv_iconst (v := (1 : Int32)) hx hb d_M_addReal_188 (by decide) ?_
          refine lv_isub hx hb d_M_addReal_189 ?_
          refine lv_goto hx hb d_M_addReal_190 (tgt := 194) (by decide) ?_
          exact w_M_addReal_194 hfl K x7 r2 (r2 - (1 : Int32)) (x5 - x5 / r11 * r11) M12 _ _ _ h (lv_sub hl [1, 4, 0] rfl) hw
        · have h := h.2 hc
          refine lv_iconst (v := (1 : Int32)) hx hb d_M_addReal_193 (by decide) ?_
          exact w_M_addReal_194 hfl K x7 r2 (1 : Int32) (x5 - x5 / r11 * r11) M12 _ _ _ h (lv_sub hl [1, 4, 0] rfl) hw
      · have h := h.2 hc
        refine lv_aload_n hx hb d_M_addReal_43 rfl (lv_at hl 1 rfl) ?_
        refine lv_iload hx hb d_M_addReal_44 (lv_at hl 4 rfl) ?_
        refine nf_if_lt hx hb d_M_addReal_46 (tgt := 60) (by decide) (fun hc => ?_) (fun hc => ?_)
        · have h := h.1 hc
          refine lv_iload hx hb d_M_addReal_60 (lv_at hl 4 rfl) ?_
          refine lv_ineg hx hb d_M_addReal_62 ?_
          refine lv_bipush (v := (19 : Int32)) hx hb d_M_addReal_63 (by decide) ?_
          refine nf_ic_ge hx hb d_M_addReal_65 (tgt := 80) (by decide) (fun hc => ?_) (fun hc => ?_)
          · have h := h.1 hc
            refine lv_lload hx hb d_M_addReal_68 (lv_at hl 3 rfl) ?_
            refine lv_iload hx hb d_M_addReal_70 (lv_at hl 4 rfl) ?_
            refine lv_ineg hx hb d_M_addReal_72 ?_
            refine nf_callW (ex := (fun _ _ => False)) (As := [.int (-x7)]) (st0 := [.int (-x7), .long x5, .ref (a 19)]) (rest := [.long x5, .ref (a 19)]) K hw (nf_invS hx hb K.2.2.2.1 (nf_Kg K nw_1066) (nf_Kg K nw_1067) (nf_Kg K nw_9) (nf_Kg K nw_1068) ⟨by decide, by decide⟩ rfl nl_M_power rfl d_M_addReal_73) (c_M_power l hfl (-x7)) nw_1068 nw_9 rfl ⟨by decide, by decide⟩ (Nat.le_of_ble_eq_true rfl) hl.1 ⟨Nat.le_of_ble_eq_true rfl, Nat.le_of_ble_eq_true rfl⟩ h (fun _ _ h => h.elim) (fun r14 M15 H locs h hw => ?_)
            refine W.eq (g2 := F0 m 76 ls [.long r14, .long x5, .ref (a 19)]) rfl ?_
            obtain ⟨g16, h⟩ := h
            refine lv_ldiv hx hb d_M_addReal_76 g16 ?_
            refine lv_goto hx hb d_M_addReal_77 (tgt := 81) (by decide) ?_
            exact w_M_addReal_81 hfl K x5 x7 (x5 / r14) M15 _ _ _ h (lv_sub hl [1, 3, 4] rfl) hw
          · have h := h.2 hc
            refine lv_lconst (v := (0 : Int64)) hx hb d_M_addReal_80 (by decide) ?_
            exact w_M_addReal_81 hfl K x5 x7 (0 : Int64) M3 _ _ _ h (lv_sub hl [1, 3, 4] rfl) hw
        · have h := h.2 hc
          refine lv_lload hx hb d_M_addReal_49 (lv_at hl 3 rfl) ?_
          refine lv_iload hx hb d_M_addReal_51 (lv_at hl 4 rfl) ?_
          refine nf_callW (ex := (fun _ _ => False)) (As := [.int x7]) (st0 := [.int x7, .long x5, .ref (a 19)]) (rest := [.long x5, .ref (a 19)]) K hw (nf_invS hx hb K.2.2.2.1 (nf_Kg K nw_1066) (nf_Kg K nw_1067) (nf_Kg K nw_9) (nf_Kg K nw_1068) ⟨by decide, by decide⟩ rfl nl_M_power rfl d_M_addReal_53) (c_M_power l hfl x7) nw_1068 nw_9 rfl ⟨by decide, by decide⟩ (Nat.le_of_ble_eq_true rfl) hl.1 ⟨Nat.le_of_ble_eq_true rfl, Nat.le_of_ble_eq_true rfl⟩ h (fun _ _ h => h.elim) (fun r17 M18 H locs h hw => ?_)
          refine W.eq (g2 := F0 m 56 ls [.long r17, .long x5, .ref (a 19)]) rfl ?_
          refine lv_lmul hx hb d_M_addReal_56 ?_
          refine lv_goto hx hb d_M_addReal_57 (tgt := 81) (by decide) ?_
          exact w_M_addReal_81 hfl K x5 x7 (x5 * r17) M18 _ _ _ h (lv_sub hl [1, 3, 4] rfl) hw
theorem c_M_addReal (l : Launch) (hfl : l.flags = flags0) (x1 : Int64) (x3 : Int32) (x4 : Int32) : nf_C nf_jN l nm_M_addReal nb_M_addReal 10 none rm_M_addReal (fun a => [.ref (a 19), .long x1, .int x3, .int x4]) (fun M post ex => P_M_addReal x1 x3 x4 M post) := by
  refine nf_start (plainFor_of_name (by decide +kernel)) (fun a => Nat.le_of_ble_eq_true rfl) ?_
  intro D a sz M post ex p e s m below meth c ls h K hl hw
  have hx := K.1
  have hb := K.2.1
  have hl : lv_has ls 10 [(0, .ref (a 19)), (1, .long x1), (3, .int x3), (4, .int x4)] := hl
  refine lv_lload_n hx hb d_M_addReal_0 rfl (lv_at hl 1 rfl) ?_
  refine lv_lstore (lv' := [(5, .long x1), (0, .ref (a 19)), (1, .long x1), (3, .int x3), (4, .int x4)]) hx hb d_M_addReal_1 hl (by decide) rfl (fun ls hl => ?_)
  refine lv_iload_n hx hb d_M_addReal_3 rfl (lv_at hl 3 rfl) ?_
  refine lv_istore (lv' := [(7, .int x3), (5, .long x1), (0, .ref (a 19)), (1, .long x1), (3, .int x3), (4, .int x4)]) hx hb d_M_addReal_4 hl (by decide) rfl (fun ls hl => ?_)
  obtain ⟨n, h⟩ := h
  exact w_M_addReal_6 hfl K n x4 x1 x3 M _ _ _ h (lv_sub hl [2, 5, 1, 0] rfl) hw
end NW8
