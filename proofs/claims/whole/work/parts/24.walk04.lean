/-! walks (printed by wip/whole/gen/drive.py) -/
section NW4
variable {p : Program} {l : Launch} {e : Env} {s : State} {m : MethodId} {args : Array Value} {below : List Frame} {meth : Method} {c : Code} {D : va_G} {a : Nat → Nat} {sz : Nat} {ex : Nat → nf_M → Prop}
theorem d_F_writeFloating_0 : decode nb_F_writeFloating 0 = .ok (.aload_n 1, 1) := by decide +kernel
theorem d_F_writeFloating_1 : decode nb_F_writeFloating 1 = .ok (.getfield 138, 3) := by decide +kernel
theorem d_F_writeFloating_4 : decode nb_F_writeFloating 4 = .ok (.dstore_n 2, 1) := by decide +kernel
theorem d_F_writeFloating_5 : decode nb_F_writeFloating 5 = .ok (.dload_n 2, 1) := by decide +kernel
theorem d_F_writeFloating_6 : decode nb_F_writeFloating 6 = .ok (.invokestatic 326, 3) := by decide +kernel
theorem d_F_writeFloating_9 : decode nb_F_writeFloating 9 = .ok (.ifCond .ne 9, 3) := by decide +kernel
theorem d_F_writeFloating_12 : decode nb_F_writeFloating 12 = .ok (.dload_n 2, 1) := by decide +kernel
theorem d_F_writeFloating_13 : decode nb_F_writeFloating 13 = .ok (.dconst 0, 1) := by decide +kernel
theorem d_F_writeFloating_14 : decode nb_F_writeFloating 14 = .ok (.dcmp .l, 1) := by decide +kernel
theorem d_F_writeFloating_15 : decode nb_F_writeFloating 15 = .ok (.ifCond .ne 58, 3) := by decide +kernel
theorem d_F_writeFloating_18 : decode nb_F_writeFloating 18 = .ok (.aload_n 0, 1) := by decide +kernel
theorem d_F_writeFloating_19 : decode nb_F_writeFloating 19 = .ok (.getfield 29, 3) := by decide +kernel
theorem d_F_writeFloating_22 : decode nb_F_writeFloating 22 = .ok (.invokevirtual 68, 3) := by decide +kernel
theorem d_F_writeFloating_25 : decode nb_F_writeFloating 25 = .ok (.aload_n 0, 1) := by decide +kernel
theorem d_F_writeFloating_26 : decode nb_F_writeFloating 26 = .ok (.getfield 29, 3) := by decide +kernel
theorem d_F_writeFloating_29 : decode nb_F_writeFloating 29 = .ok (.dload_n 2, 1) := by decide +kernel
theorem d_F_writeFloating_30 : decode nb_F_writeFloating 30 = .ok (.dconst 0, 1) := by decide +kernel
theorem d_F_writeFloating_31 : decode nb_F_writeFloating 31 = .ok (.dcmp .l, 1) := by decide +kernel
theorem d_F_writeFloating_32 : decode nb_F_writeFloating 32 = .ok (.ifCond .ne 22, 3) := by decide +kernel
theorem d_F_writeFloating_35 : decode nb_F_writeFloating 35 = .ok (.dload_n 2, 1) := by decide +kernel
theorem d_F_writeFloating_36 : decode nb_F_writeFloating 36 = .ok (.invokestatic 436, 3) := by decide +kernel
theorem d_F_writeFloating_39 : decode nb_F_writeFloating 39 = .ok (.ifCond .eq 9, 3) := by decide +kernel
theorem d_F_writeFloating_42 : decode nb_F_writeFloating 42 = .ok (.ldc_w 439, 3) := by decide +kernel
theorem d_F_writeFloating_45 : decode nb_F_writeFloating 45 = .ok (.goto 24, 3) := by decide +kernel
theorem d_F_writeFloating_48 : decode nb_F_writeFloating 48 = .ok (.ldc_w 441, 3) := by decide +kernel
theorem d_F_writeFloating_51 : decode nb_F_writeFloating 51 = .ok (.goto 18, 3) := by decide +kernel
theorem d_F_writeFloating_54 : decode nb_F_writeFloating 54 = .ok (.dload_n 2, 1) := by decide +kernel
theorem d_F_writeFloating_55 : decode nb_F_writeFloating 55 = .ok (.dconst 0, 1) := by decide +kernel
theorem d_F_writeFloating_56 : decode nb_F_writeFloating 56 = .ok (.dcmp .g, 1) := by decide +kernel
theorem d_F_writeFloating_57 : decode nb_F_writeFloating 57 = .ok (.ifCond .ge 9, 3) := by decide +kernel
theorem d_F_writeFloating_60 : decode nb_F_writeFloating 60 = .ok (.ldc_w 443, 3) := by decide +kernel
theorem d_F_writeFloating_63 : decode nb_F_writeFloating 63 = .ok (.goto 6, 3) := by decide +kernel
theorem d_F_writeFloating_66 : decode nb_F_writeFloating 66 = .ok (.ldc_w 445, 3) := by decide +kernel
theorem d_F_writeFloating_69 : decode nb_F_writeFloating 69 = .ok (.invokevirtual 447, 3) := by decide +kernel
theorem d_F_writeFloating_72 : decode nb_F_writeFloating 72 = .ok (.return_, 1) := by decide +kernel
theorem d_F_writeFloating_73 : decode nb_F_writeFloating 73 = .ok (.dload_n 2, 1) := by decide +kernel
theorem d_F_writeFloating_74 : decode nb_F_writeFloating 74 = .ok (.invokestatic 287, 3) := by decide +kernel
theorem d_F_writeFloating_77 : decode nb_F_writeFloating 77 = .ok (.dstore 4, 2) := by decide +kernel
theorem d_F_writeFloating_79 : decode nb_F_writeFloating 79 = .ok (.aload_n 0, 1) := by decide +kernel
theorem d_F_writeFloating_80 : decode nb_F_writeFloating 80 = .ok (.getfield 49, 3) := by decide +kernel
theorem d_F_writeFloating_83 : decode nb_F_writeFloating 83 = .ok (.dload 4, 2) := by decide +kernel
theorem d_F_writeFloating_85 : decode nb_F_writeFloating 85 = .ok (.aload_n 1, 1) := by decide +kernel
theorem d_F_writeFloating_86 : decode nb_F_writeFloating 86 = .ok (.getfield 135, 3) := by decide +kernel
theorem d_F_writeFloating_89 : decode nb_F_writeFloating 89 = .ok (.bipush 8, 2) := by decide +kernel
theorem d_F_writeFloating_91 : decode nb_F_writeFloating 91 = .ok (.if_icmp .ne 7, 3) := by decide +kernel
theorem d_F_writeFloating_94 : decode nb_F_writeFloating 94 = .ok (.iconst 1, 1) := by decide +kernel
theorem d_F_writeFloating_95 : decode nb_F_writeFloating 95 = .ok (.goto 4, 3) := by decide +kernel
theorem d_F_writeFloating_98 : decode nb_F_writeFloating 98 = .ok (.iconst 0, 1) := by decide +kernel
theorem d_F_writeFloating_99 : decode nb_F_writeFloating 99 = .ok (.invokevirtual 450, 3) := by decide +kernel
theorem d_F_writeFloating_102 : decode nb_F_writeFloating 102 = .ok (.aload_n 0, 1) := by decide +kernel
theorem d_F_writeFloating_103 : decode nb_F_writeFloating 103 = .ok (.getfield 29, 3) := by decide +kernel
theorem d_F_writeFloating_106 : decode nb_F_writeFloating 106 = .ok (.invokevirtual 68, 3) := by decide +kernel
theorem d_F_writeFloating_109 : decode nb_F_writeFloating 109 = .ok (.dload_n 2, 1) := by decide +kernel
theorem d_F_writeFloating_110 : decode nb_F_writeFloating 110 = .ok (.dconst 0, 1) := by decide +kernel
theorem d_F_writeFloating_111 : decode nb_F_writeFloating 111 = .ok (.dcmp .g, 1) := by decide +kernel
theorem d_F_writeFloating_112 : decode nb_F_writeFloating 112 = .ok (.ifCond .ge 12, 3) := by decide +kernel
theorem d_F_writeFloating_115 : decode nb_F_writeFloating 115 = .ok (.aload_n 0, 1) := by decide +kernel
theorem d_F_writeFloating_116 : decode nb_F_writeFloating 116 = .ok (.getfield 29, 3) := by decide +kernel
theorem d_F_writeFloating_119 : decode nb_F_writeFloating 119 = .ok (.bipush 45, 2) := by decide +kernel
theorem d_F_writeFloating_121 : decode nb_F_writeFloating 121 = .ok (.invokevirtual 64, 3) := by decide +kernel
theorem d_F_writeFloating_124 : decode nb_F_writeFloating 124 = .ok (.dload 4, 2) := by decide +kernel
theorem d_F_writeFloating_126 : decode nb_F_writeFloating 126 = .ok (.dconst 1, 1) := by decide +kernel
theorem d_F_writeFloating_127 : decode nb_F_writeFloating 127 = .ok (.bipush 6, 2) := by decide +kernel
theorem d_F_writeFloating_129 : decode nb_F_writeFloating 129 = .ok (.invokestatic 283, 3) := by decide +kernel
theorem d_F_writeFloating_132 : decode nb_F_writeFloating 132 = .ok (.ddiv, 1) := by decide +kernel
theorem d_F_writeFloating_133 : decode nb_F_writeFloating 133 = .ok (.dcmp .l, 1) := by decide +kernel
theorem d_F_writeFloating_134 : decode nb_F_writeFloating 134 = .ok (.ifCond .lt 58, 3) := by decide +kernel
theorem d_F_writeFloating_137 : decode nb_F_writeFloating 137 = .ok (.dload 4, 2) := by decide +kernel
theorem d_F_writeFloating_139 : decode nb_F_writeFloating 139 = .ok (.bipush 6, 2) := by decide +kernel
theorem d_F_writeFloating_141 : decode nb_F_writeFloating 141 = .ok (.invokestatic 283, 3) := by decide +kernel
theorem d_F_writeFloating_144 : decode nb_F_writeFloating 144 = .ok (.dcmp .g, 1) := by decide +kernel
theorem d_F_writeFloating_145 : decode nb_F_writeFloating 145 = .ok (.ifCond .ge 47, 3) := by decide +kernel
theorem d_F_writeFloating_148 : decode nb_F_writeFloating 148 = .ok (.aload_n 0, 1) := by decide +kernel
theorem d_F_writeFloating_149 : decode nb_F_writeFloating 149 = .ok (.getfield 29, 3) := by decide +kernel
theorem d_F_writeFloating_152 : decode nb_F_writeFloating 152 = .ok (.aload_n 0, 1) := by decide +kernel
theorem d_F_writeFloating_153 : decode nb_F_writeFloating 153 = .ok (.getfield 49, 3) := by decide +kernel
theorem d_F_writeFloating_156 : decode nb_F_writeFloating 156 = .ok (.getfield 454, 3) := by decide +kernel
theorem d_F_writeFloating_159 : decode nb_F_writeFloating 159 = .ok (.aload_n 0, 1) := by decide +kernel
theorem d_F_writeFloating_160 : decode nb_F_writeFloating 160 = .ok (.getfield 49, 3) := by decide +kernel
theorem d_F_writeFloating_163 : decode nb_F_writeFloating 163 = .ok (.getfield 457, 3) := by decide +kernel
theorem d_F_writeFloating_166 : decode nb_F_writeFloating 166 = .ok (.iconst 0, 1) := by decide +kernel
theorem d_F_writeFloating_167 : decode nb_F_writeFloating 167 = .ok (.invokestatic 368, 3) := by decide +kernel
theorem d_F_writeFloating_170 : decode nb_F_writeFloating 170 = .ok (.invokestatic 275, 3) := by decide +kernel
theorem d_F_writeFloating_173 : decode nb_F_writeFloating 173 = .ok (.lmul, 1) := by decide +kernel
theorem d_F_writeFloating_174 : decode nb_F_writeFloating 174 = .ok (.aload_n 0, 1) := by decide +kernel
theorem d_F_writeFloating_175 : decode nb_F_writeFloating 175 = .ok (.getfield 49, 3) := by decide +kernel
theorem d_F_writeFloating_178 : decode nb_F_writeFloating 178 = .ok (.getfield 457, 3) := by decide +kernel
theorem d_F_writeFloating_181 : decode nb_F_writeFloating 181 = .ok (.ineg, 1) := by decide +kernel
theorem d_F_writeFloating_182 : decode nb_F_writeFloating 182 = .ok (.iconst 0, 1) := by decide +kernel
theorem d_F_writeFloating_183 : decode nb_F_writeFloating 183 = .ok (.invokestatic 368, 3) := by decide +kernel
theorem d_F_writeFloating_186 : decode nb_F_writeFloating 186 = .ok (.invokevirtual 433, 3) := by decide +kernel
theorem d_F_writeFloating_189 : decode nb_F_writeFloating 189 = .ok (.goto 7, 3) := by decide +kernel
theorem d_F_writeFloating_192 : decode nb_F_writeFloating 192 = .ok (.aload_n 0, 1) := by decide +kernel
theorem d_F_writeFloating_193 : decode nb_F_writeFloating 193 = .ok (.invokevirtual 459, 3) := by decide +kernel
theorem d_F_writeFloating_196 : decode nb_F_writeFloating 196 = .ok (.return_, 1) := by decide +kernel
abbrev rm_F_writeFloating : Room := ({ frames := 7, cells := 1, slots := 6, locals := 183 })
theorem w_F_writeFloating_69 {post : Unit → nf_M → Prop} (hfl : l.flags = flags0) (K : nf_K p s m args meth c "NumberForge" nb_F_writeFloating 6 none D a sz) : ∀ (qy0 : Fin 5) (by1 : Bool) (M : nf_M) (H : Heap) (locs : List Loc) (ls : Array Slot), B_F_writeFloating_69 post ex qy0 by1 M → lv_has ls 6 [] → nf_W D a s sz H locs M → W p l e rm_F_writeFloating s m args below meth c H locs 0 0 (nf_MQ below (nf_Q nf_jN D a post ex (nf_A a sz)) args s rm_F_writeFloating.cells rm_F_writeFloating.slots (nf_A a sz)) (F0 m 69 ls [.ref (a (100 + (qy0 : Fin 5).val)), .ref (a (nf_ro by1))]) := by
  have hx := K.1
  have hb := K.2.1
  intro qy0 by1 M H locs ls h hl hw
  refine nf_callW (ex := (fun _ _ => False)) (As := [.ref (a (nf_ro by1)), .ref (a (100 + (qy0 : Fin 5).val))]) (st0 := [.ref (a (100 + (qy0 : Fin 5).val)), .ref (a (nf_ro by1))]) (rest := []) K hw (nf_invVN hx hb K.2.2.2.1 ((nf_Kr K nv_731).use rfl) (nf_Kg K nw_733) (nf_Kg K nx_R_addText) (nf_Kg K nw_734) ⟨by decide, by decide⟩ (nf_rcv K hw (nf_ro by1) 3 (nf_heR _ _ _) rfl) rfl nl_R_addText rfl d_F_writeFloating_69) (c_R_addText l hfl by1 qy0) nw_734 nw_3 rfl ⟨by decide, by decide⟩ (Nat.le_of_ble_eq_true rfl) hl.1 ⟨Nat.le_of_ble_eq_true rfl, Nat.le_of_ble_eq_true rfl⟩ h (fun _ _ h => h.elim) (fun r1 M2 H locs h hw => ?_)
  refine W.eq (g2 := F0 m 72 ls []) rfl ?_
  exact nf_vret K hw d_F_writeFloating_72 (Nat.le_of_ble_eq_true rfl) (Nat.le_of_ble_eq_true rfl) (r := ()) rfl h
theorem w_F_writeFloating_18 {post : Unit → nf_M → Prop} (hfl : l.flags = flags0) (K : nf_K p s m args meth c "NumberForge" nb_F_writeFloating 6 none D a sz) : ∀ (x2 : UInt64) (M : nf_M) (H : Heap) (locs : List Loc) (ls : Array Slot), B_F_writeFloating_18 post ex x2 M → lv_has ls 6 [(0, .ref (a 0)), (2, .double x2)] → nf_W D a s sz H locs M → W p l e rm_F_writeFloating s m args below meth c H locs 0 0 (nf_MQ below (nf_Q nf_jN D a post ex (nf_A a sz)) args s rm_F_writeFloating.cells rm_F_writeFloating.slots (nf_A a sz)) (F0 m 18 ls []) := by
  have hx := K.1
  have hb := K.2.1
  intro x2 M H locs ls h hl hw
  refine lv_aload_n hx hb d_F_writeFloating_18 rfl (lv_at hl 0 rfl) ?_
  refine nf_get (v := .ref (a (nf_ro true))) K hw 0 6 3 nw_171 rfl rfl ni_F (by decide) rfl rfl d_F_writeFloating_19 ?_
  refine nf_callW (ex := (fun _ _ => False)) (As := [.ref (a (nf_ro true))]) (st0 := [.ref (a (nf_ro true))]) (rest := []) K hw (nf_invVN hx hb K.2.2.2.1 ((nf_Kr K nv_205).use rfl) (nf_Kg K nw_207) (nf_Kg K nx_R_clear) (nf_Kg K nw_208) ⟨by decide, by decide⟩ (nf_rcv K hw (nf_ro true) 3 (nf_heR _ _ _) rfl) rfl nl_R_clear rfl d_F_writeFloating_22) (c_R_clear l hfl true) nw_208 nw_3 rfl ⟨by decide, by decide⟩ (Nat.le_of_ble_eq_true rfl) hl.1 ⟨Nat.le_of_ble_eq_true rfl, Nat.le_of_ble_eq_true rfl⟩ h (fun _ _ h => h.elim) (fun r1 M2 H locs h hw => ?_)
  refine W.eq (g2 := F0 m 25 ls []) rfl ?_
  refine lv_aload_n hx hb d_F_writeFloating_25 rfl (lv_at hl 0 rfl) ?_
  refine nf_get (v := .ref (a (nf_ro true))) K hw 0 6 3 nw_171 rfl rfl ni_F (by decide) rfl rfl d_F_writeFloating_26 ?_
  refine lv_dload_n hx hb d_F_writeFloating_29 rfl (lv_at hl 1 rfl) ?_
  refine lv_dconst0 hx hb d_F_writeFloating_30 ?_
  refine nf_dl_ne hx hb d_F_writeFloating_31 d_F_writeFloating_32 (tgt := 54) (by decide) (fun hc => ?_) (fun hc => ?_)
  · have h := h.1 hc
    refine lv_dload_n hx hb d_F_writeFloating_35 rfl (lv_at hl 1 rfl) ?_
    refine nf_callW (ex := (fun _ _ => False)) (As := [.double x2]) (st0 := [.double x2, .ref (a (nf_ro true))]) (rest := [.ref (a (nf_ro true))]) K hw (nf_invS hx hb K.2.2.2.1 (nf_Kg K nw_724) (nf_Kg K nw_725) (nf_Kg K nw_1) (nf_Kg K nw_726) ⟨by decide, by decide⟩ rfl nl_F_isMinusZero rfl d_F_writeFloating_36) (c_F_isMinusZero l hfl x2) nw_726 nw_1 rfl ⟨by decide, by decide⟩ (Nat.le_of_ble_eq_true rfl) hl.1 ⟨Nat.le_of_ble_eq_true rfl, Nat.le_of_ble_eq_true rfl⟩ h (fun _ _ h => h.elim) (fun r3 M4 H locs h hw => ?_)
    refine W.eq (g2 := F0 m 39 ls [.int r3, .ref (a (nf_ro true))]) rfl ?_
    refine nf_if_eq hx hb d_F_writeFloating_39 (tgt := 48) (by decide) (fun hc => ?_) (fun hc => ?_)
    · have h := h.1 hc
      refine nf_ldcwS K 1 rfl d_F_writeFloating_48 ?_
      refine W.eq (g2 := F0 m 51 ls [.ref (a (100 + ((1 : Fin 5) : Fin 5).val)), .ref (a (nf_ro true))]) rfl ?_
      refine lv_goto hx hb d_F_writeFloating_51 (tgt := 69) (by decide) ?_
      exact w_F_writeFloating_69 hfl K (1 : Fin 5) true M4 _ _ _ h (lv_sub hl [] rfl) hw
    · have h := h.2 hc
      refine nf_ldcwS K 0 rfl d_F_writeFloating_42 ?_
      refine W.eq (g2 := F0 m 45 ls [.ref (a (100 + ((0 : Fin 5) : Fin 5).val)), .ref (a (nf_ro true))]) rfl ?_
      refine lv_goto hx hb d_F_writeFloating_45 (tgt := 69) (by decide) ?_
      exact w_F_writeFloating_69 hfl K (0 : Fin 5) true M4 _ _ _ h (lv_sub hl [] rfl) hw
  · have h := h.2 hc
    refine lv_dload_n hx hb d_F_writeFloating_54 rfl (lv_at hl 1 rfl) ?_
    refine lv_dconst0 hx hb d_F_writeFloating_55 ?_
    refine nf_dg_ge hx hb d_F_writeFloating_56 d_F_writeFloating_57 (tgt := 66) (by decide) (fun hc => ?_) (fun hc => ?_)
    · have h := h.1 hc
      refine nf_ldcwS K 2 rfl d_F_writeFloating_60 ?_
      refine W.eq (g2 := F0 m 63 ls [.ref (a (100 + ((2 : Fin 5) : Fin 5).val)), .ref (a (nf_ro true))]) rfl ?_
      refine lv_goto hx hb d_F_writeFloating_63 (tgt := 69) (by decide) ?_
      exact w_F_writeFloating_69 hfl K (2 : Fin 5) true M2 _ _ _ h (lv_sub hl [] rfl) hw
    · have h := h.2 hc
      refine nf_ldcwS K 3 rfl d_F_writeFloating_66 ?_
      refine W.eq (g2 := F0 m 69 ls [.ref (a (100 + ((3 : Fin 5) : Fin 5).val)), .ref (a (nf_ro true))]) rfl ?_
      exact w_F_writeFloating_69 hfl K (3 : Fin 5) true M2 _ _ _ h (lv_sub hl [] rfl) hw
theorem w_F_writeFloating_196 {post : Unit → nf_M → Prop} (hfl : l.flags = flags0) (K : nf_K p s m args meth c "NumberForge" nb_F_writeFloating 6 none D a sz) : ∀ (M : nf_M) (H : Heap) (locs : List Loc) (ls : Array Slot), B_F_writeFloating_196 post ex  M → lv_has ls 6 [] → nf_W D a s sz H locs M → W p l e rm_F_writeFloating s m args below meth c H locs 1 6 (nf_MQ below (nf_Q nf_jN D a post ex (nf_A a sz)) args s rm_F_writeFloating.cells rm_F_writeFloating.slots (nf_A a sz)) (F0 m 196 ls []) := by
  have hx := K.1
  have hb := K.2.1
  intro  M H locs ls h hl hw
  exact nf_vret K hw d_F_writeFloating_196 (Nat.le_of_ble_eq_true rfl) (Nat.le_of_ble_eq_true rfl) (r := ()) rfl h
theorem w_F_writeFloating_192 {post : Unit → nf_M → Prop} (hfl : l.flags = flags0) (K : nf_K p s m args meth c "NumberForge" nb_F_writeFloating 6 none D a sz) : ∀ (M : nf_M) (H : Heap) (locs : List Loc) (ls : Array Slot), B_F_writeFloating_192 post ex  M → lv_has ls 6 [(0, .ref (a 0))] → nf_W D a s sz H locs M → W p l e rm_F_writeFloating s m args below meth c H locs 1 6 (nf_MQ below (nf_Q nf_jN D a post ex (nf_A a sz)) args s rm_F_writeFloating.cells rm_F_writeFloating.slots (nf_A a sz)) (F0 m 192 ls []) := by
  have hx := K.1
  have hb := K.2.1
  intro  M H locs ls h hl hw
  refine lv_aload_n hx hb d_F_writeFloating_192 rfl (lv_at hl 0 rfl) ?_
  refine nf_callW (ex := (fun _ _ => False)) (As := [.ref (a 0)]) (st0 := [.ref (a 0)]) (rest := []) K hw (nf_invV hx hb K.2.2.2.1 (nf_Kg K nw_815) (nf_Kg K nw_817) (nf_Kg K nx_F_writeWithPower) (nf_Kg K nw_818) ⟨by decide, by decide⟩ (nf_rcv K hw 0 6 rfl rfl) rfl nl_F_writeWithPower rfl d_F_writeFloating_193) (c_F_writeWithPower l hfl ) nw_818 nw_1 rfl ⟨by decide, by decide⟩ (Nat.le_of_ble_eq_true rfl) hl.1 ⟨Nat.le_of_ble_eq_true rfl, Nat.le_of_ble_eq_true rfl⟩ h (fun _ _ h => h.elim) (fun r1 M2 H locs h hw => ?_)
  refine W.eq (g2 := F0 m 196 ls []) rfl ?_
  exact w_F_writeFloating_196 hfl K  M2 _ _ _ h (lv_sub hl [] rfl) hw
theorem w_F_writeFloating_124 {post : Unit → nf_M → Prop} (hfl : l.flags = flags0) (K : nf_K p s m args meth c "NumberForge" nb_F_writeFloating 6 none D a sz) : ∀ (x4 : UInt64) (M : nf_M) (H : Heap) (locs : List Loc) (ls : Array Slot), B_F_writeFloating_124 post ex x4 M → lv_has ls 6 [(0, .ref (a 0)), (4, .double x4)] → nf_W D a s sz H locs M → W p l e rm_F_writeFloating s m args below meth c H locs 1 6 (nf_MQ below (nf_Q nf_jN D a post ex (nf_A a sz)) args s rm_F_writeFloating.cells rm_F_writeFloating.slots (nf_A a sz)) (F0 m 124 ls []) := by
  have hx := K.1
  have hb := K.2.1
  intro x4 M H locs ls h hl hw
  refine lv_dload hx hb d_F_writeFloating_124 (lv_at hl 1 rfl) ?_
  refine lv_dconst1 hx hb d_F_writeFloating_126 ?_
  refine lv_bipush (v := (6 : Int32)) hx hb d_F_writeFloating_127 (by decide) ?_
  refine nf_callW (ex := (fun _ _ => False)) (As := [.int (6 : Int32)]) (st0 := [.int (6 : Int32), .double (FP.dconst1), .double x4]) (rest := [.double (FP.dconst1), .double x4]) K hw (nf_invS hx hb K.2.2.2.1 (nf_Kg K nw_400) (nf_Kg K nw_401) (nf_Kg K nw_1) (nf_Kg K nw_402) ⟨by decide, by decide⟩ rfl nl_F_ten rfl d_F_writeFloating_129) (c_F_ten l hfl (6 : Int32)) nw_402 nw_1 rfl ⟨by decide, by decide⟩ (Nat.le_of_ble_eq_true rfl) hl.1 ⟨Nat.le_of_ble_eq_true rfl, Nat.le_of_ble_eq_true rfl⟩ h (fun _ _ h => h.elim) (fun r1 M2 H locs h hw => ?_)
  refine W.eq (g2 := F0 m 132 ls [.double r1, .double (FP.dconst1), .double x4]) rfl ?_
  obtain ⟨g3, h⟩ := h
  refine lv_ddiv hx hb d_F_writeFloating_132 g3 ?_
  refine nf_dl_lt hx hb d_F_writeFloating_133 d_F_writeFloating_134 (tgt := 192) (by decide) (fun hc => ?_) (fun hc => ?_)
  · have h := h.1 hc
    refine lv_dload hx hb d_F_writeFloating_137 (lv_at hl 1 rfl) ?_
    refine lv_bipush (v := (6 : Int32)) hx hb d_F_writeFloating_139 (by decide) ?_
    refine nf_callW (ex := (fun _ _ => False)) (As := [.int (6 : Int32)]) (st0 := [.int (6 : Int32), .double x4]) (rest := [.double x4]) K hw (nf_invS hx hb K.2.2.2.1 (nf_Kg K nw_400) (nf_Kg K nw_401) (nf_Kg K nw_1) (nf_Kg K nw_402) ⟨by decide, by decide⟩ rfl nl_F_ten rfl d_F_writeFloating_141) (c_F_ten l hfl (6 : Int32)) nw_402 nw_1 rfl ⟨by decide, by decide⟩ (Nat.le_of_ble_eq_true rfl) hl.1 ⟨Nat.le_of_ble_eq_true rfl, Nat.le_of_ble_eq_true rfl⟩ h (fun _ _ h => h.elim) (fun r4 M5 H locs h hw => ?_)
    refine W.eq (g2 := F0 m 144 ls [.double r4, .double x4]) rfl ?_
    refine nf_dg_ge hx hb d_F_writeFloating_144 d_F_writeFloating_145 (tgt := 192) (by decide) (fun hc => ?_) (fun hc => ?_)
    · have h := h.1 hc
      refine lv_aload_n hx hb d_F_writeFloating_148 rfl (lv_at hl 0 rfl) ?_
      refine nf_get (v := .ref (a (nf_ro true))) K hw 0 6 3 nw_171 rfl rfl ni_F (by decide) rfl rfl d_F_writeFloating_149 ?_
      refine lv_aload_n hx hb d_F_writeFloating_152 rfl (lv_at hl 0 rfl) ?_
      refine nf_get (v := .ref (a 8)) K hw 0 6 6 nw_174 rfl rfl ni_F (by decide) rfl rfl d_F_writeFloating_153 ?_
      refine nf_getN (v := .long (mg_L M5 8 0)) K hw 8 0 0 nv_146 rfl rfl ni_D (by decide) rfl rfl d_F_writeFloating_156 ?_
      refine lv_aload_n hx hb d_F_writeFloating_159 rfl (lv_at hl 0 rfl) ?_
      refine nf_get (v := .ref (a 8)) K hw 0 6 6 nw_174 rfl rfl ni_F (by decide) rfl rfl d_F_writeFloating_160 ?_
      refine nf_getN (v := .int (mg_I M5 8 1)) K hw 8 0 1 nv_148 rfl rfl ni_D (by decide) rfl rfl d_F_writeFloating_163 ?_
      refine lv_iconst (v := (0 : Int32)) hx hb d_F_writeFloating_166 (by decide) ?_
      refine nf_callW (ex := (fun _ _ => False)) (As := [.int (mg_I M5 8 1), .int (0 : Int32)]) (st0 := [.int (0 : Int32), .int (mg_I M5 8 1), .long (mg_L M5 8 0), .ref (a (nf_ro true))]) (rest := [.long (mg_L M5 8 0), .ref (a (nf_ro true))]) K hw (nf_invS hx hb K.2.2.2.1 (nf_Kg K nw_544) (nf_Kg K nw_64) (nf_Kg K nw_4) (nf_Kg K nw_65) ⟨by decide, by decide⟩ rfl nl_JM_max rfl d_F_writeFloating_167) (c_JM_max l hfl (mg_I M5 8 1) (0 : Int32)) nw_65 nw_4 rfl ⟨by decide, by decide⟩ (Nat.le_of_ble_eq_true rfl) hl.1 ⟨Nat.le_of_ble_eq_true rfl, Nat.le_of_ble_eq_true rfl⟩ h (fun _ _ h => h.elim) (fun r6 M7 H locs h hw => ?_)
      refine W.eq (g2 := F0 m 170 ls [.int r6, .long (mg_L M5 8 0), .ref (a (nf_ro true))]) rfl ?_
      refine nf_callW (ex := (fun _ _ => False)) (As := [.int r6]) (st0 := [.int r6, .long (mg_L M5 8 0), .ref (a (nf_ro true))]) (rest := [.long (mg_L M5 8 0), .ref (a (nf_ro true))]) K hw (nf_invS hx hb K.2.2.2.1 (nf_Kg K nw_548) (nf_Kg K nw_352) (nf_Kg K nw_1) (nf_Kg K nw_353) ⟨by decide, by decide⟩ rfl nl_F_power rfl d_F_writeFloating_170) (c_F_power l hfl r6) nw_353 nw_1 rfl ⟨by decide, by decide⟩ (Nat.le_of_ble_eq_true rfl) hl.1 ⟨Nat.le_of_ble_eq_true rfl, Nat.le_of_ble_eq_true rfl⟩ h (fun _ _ h => h.elim) (fun r8 M9 H locs h hw => ?_)
      refine W.eq (g2 := F0 m 173 ls [.long r8, .long (mg_L M5 8 0), .ref (a (nf_ro true))]) rfl ?_
      refine lv_lmul hx hb d_F_writeFloating_173 ?_
      refine lv_aload_n hx hb d_F_writeFloating_174 rfl (lv_at hl 0 rfl) ?_
      refine nf_get (v := .ref (a 8)) K hw 0 6 6 nw_174 rfl rfl ni_F (by decide) rfl rfl d_F_writeFloating_175 ?_
      refine nf_getN (v := .int (mg_I M9 8 1)) K hw 8 0 1 nv_148 rfl rfl ni_D (by decide) rfl rfl d_F_writeFloating_178 ?_
      refine lv_ineg hx hb d_F_writeFloating_181 ?_
      refine lv_iconst (v := (0 : Int32)) hx hb d_F_writeFloating_182 (by decide) ?_
      refine nf_callW (ex := (fun _ _ => False)) (As := [.int (-(mg_I M9 8 1)), .int (0 : Int32)]) (st0 := [.int (0 : Int32), .int (-(mg_I M9 8 1)), .long ((mg_L M5 8 0) * r8), .ref (a (nf_ro true))]) (rest := [.long ((mg_L M5 8 0) * r8), .ref (a (nf_ro true))]) K hw (nf_invS hx hb K.2.2.2.1 (nf_Kg K nw_544) (nf_Kg K nw_64) (nf_Kg K nw_4) (nf_Kg K nw_65) ⟨by decide, by decide⟩ rfl nl_JM_max rfl d_F_writeFloating_183) (c_JM_max l hfl (-(mg_I M9 8 1)) (0 : Int32)) nw_65 nw_4 rfl ⟨by decide, by decide⟩ (Nat.le_of_ble_eq_true rfl) hl.1 ⟨Nat.le_of_ble_eq_true rfl, Nat.le_of_ble_eq_true rfl⟩ h (fun _ _ h => h.elim) (fun r10 M11 H locs h hw => ?_)
      refine W.eq (g2 := F0 m 186 ls [.int r10, .long ((mg_L M5 8 0) * r8), .ref (a (nf_ro true))]) rfl ?_
      refine nf_callW (ex := (fun _ _ => False)) (As := [.ref (a (nf_ro true)), .long ((mg_L M5 8 0) * r8), .int r10]) (st0 := [.int r10, .long ((mg_L M5 8 0) * r8), .ref (a (nf_ro true))]) (rest := []) K hw (nf_invVN hx hb K.2.2.2.1 ((nf_Kr K nv_803).use rfl) (nf_Kg K nw_805) (nf_Kg K nx_R_addNumber) (nf_Kg K nw_806) ⟨by decide, by decide⟩ (nf_rcv K hw (nf_ro true) 3 (nf_heR _ _ _) rfl) rfl nl_R_addNumber rfl d_F_writeFloating_186) (c_R_addNumber l hfl true ((mg_L M5 8 0) * r8) r10) nw_806 nw_3 rfl ⟨by decide, by decide⟩ (Nat.le_of_ble_eq_true rfl) hl.1 ⟨Nat.le_of_ble_eq_true rfl, Nat.le_of_ble_eq_true rfl⟩ h (fun _ _ h => h.elim) (fun r12 M13 H locs h hw => ?_)
      refine W.eq (g2 := F0 m 189 ls []) rfl ?_
      refine lv_goto hx hb d_F_writeFloating_189 (tgt := 196) (by decide) ?_
      exact w_F_writeFloating_196 hfl K  M13 _ _ _ h (lv_sub hl [] rfl) hw
    · have h := h.2 hc
      exact w_F_writeFloating_192 hfl K  M5 _ _ _ h (lv_sub hl [0] rfl) hw
  · have h := h.2 hc
    exact w_F_writeFloating_192 hfl K  M2 _ _ _ h (lv_sub hl [0] rfl) hw
theorem w_F_writeFloating_99 {post : Unit → nf_M → Prop} (hfl : l.flags = flags0) (K : nf_K p s m args meth c "NumberForge" nb_F_writeFloating 6 none D a sz) : ∀ (x2 : UInt64) (x4 : UInt64) (xy0 : Int32) (xy1 : UInt64) (M : nf_M) (H : Heap) (locs : List Loc) (ls : Array Slot), B_F_writeFloating_99 post ex x2 x4 xy0 xy1 M → lv_has ls 6 [(0, .ref (a 0)), (2, .double x2), (4, .double x4)] → nf_W D a s sz H locs M → W p l e rm_F_writeFloating s m args below meth c H locs 0 0 (nf_MQ below (nf_Q nf_jN D a post ex (nf_A a sz)) args s rm_F_writeFloating.cells rm_F_writeFloating.slots (nf_A a sz)) (F0 m 99 ls [.int xy0, .double xy1, .ref (a 8)]) := by
  have hx := K.1
  have hb := K.2.1
  intro x2 x4 xy0 xy1 M H locs ls h hl hw
  refine nf_callW (ex := ex) (As := [.ref (a 8), .double xy1, .int xy0]) (st0 := [.int xy0, .double xy1, .ref (a 8)]) (rest := []) K hw (nf_invVN hx hb K.2.2.2.1 ((nf_Kr K nv_784).use rfl) (nf_Kg K nw_786) (nf_Kg K nx_D_find) (nf_Kg K nw_787) ⟨by decide, by decide⟩ (nf_rcv K hw 8 0 rfl rfl) rfl nl_D_find rfl d_F_writeFloating_99) (c_D_find l hfl xy1 xy0) nw_787 nw_7 rfl ⟨by decide, by decide⟩ (Nat.le_of_ble_eq_true rfl) hl.1 ⟨Nat.le_of_ble_eq_true rfl, Nat.le_of_ble_eq_true rfl⟩ h (fun _ _ h => h) (fun r1 M2 H locs h hw => ?_)
  refine W.eq (g2 := F0 m 102 ls []) rfl ?_
  refine W.widen (k := 1) (n := 6) (by decide) (by decide) ?_
  refine lv_aload_n hx hb d_F_writeFloating_102 rfl (lv_at hl 0 rfl) ?_
  refine nf_get (v := .ref (a (nf_ro true))) K hw 0 6 3 nw_171 rfl rfl ni_F (by decide) rfl rfl d_F_writeFloating_103 ?_
  refine nf_callW (ex := (fun _ _ => False)) (As := [.ref (a (nf_ro true))]) (st0 := [.ref (a (nf_ro true))]) (rest := []) K hw (nf_invVN hx hb K.2.2.2.1 ((nf_Kr K nv_205).use rfl) (nf_Kg K nw_207) (nf_Kg K nx_R_clear) (nf_Kg K nw_208) ⟨by decide, by decide⟩ (nf_rcv K hw (nf_ro true) 3 (nf_heR _ _ _) rfl) rfl nl_R_clear rfl d_F_writeFloating_106) (c_R_clear l hfl true) nw_208 nw_3 rfl ⟨by decide, by decide⟩ (Nat.le_of_ble_eq_true rfl) hl.1 ⟨Nat.le_of_ble_eq_true rfl, Nat.le_of_ble_eq_true rfl⟩ h (fun _ _ h => h.elim) (fun r3 M4 H locs h hw => ?_)
  refine W.eq (g2 := F0 m 109 ls []) rfl ?_
  refine lv_dload_n hx hb d_F_writeFloating_109 rfl (lv_at hl 1 rfl) ?_
  refine lv_dconst0 hx hb d_F_writeFloating_110 ?_
  refine nf_dg_ge hx hb d_F_writeFloating_111 d_F_writeFloating_112 (tgt := 124) (by decide) (fun hc => ?_) (fun hc => ?_)
  · have h := h.1 hc
    refine lv_aload_n hx hb d_F_writeFloating_115 rfl (lv_at hl 0 rfl) ?_
    refine nf_get (v := .ref (a (nf_ro true))) K hw 0 6 3 nw_171 rfl rfl ni_F (by decide) rfl rfl d_F_writeFloating_116 ?_
    refine lv_bipush (v := (45 : Int32)) hx hb d_F_writeFloating_119 (by decide) ?_
    refine nf_callW (ex := (fun _ _ => False)) (As := [.ref (a (nf_ro true)), .int (45 : Int32)]) (st0 := [.int (45 : Int32), .ref (a (nf_ro true))]) (rest := []) K hw (nf_invVN hx hb K.2.2.2.1 ((nf_Kr K nv_197).use rfl) (nf_Kg K nw_199) (nf_Kg K nx_R_add) (nf_Kg K nw_200) ⟨by decide, by decide⟩ (nf_rcv K hw (nf_ro true) 3 (nf_heR _ _ _) rfl) rfl nl_R_add rfl d_F_writeFloating_121) (c_R_add l hfl true (45 : Int32)) nw_200 nw_3 rfl ⟨by decide, by decide⟩ (Nat.le_of_ble_eq_true rfl) hl.1 ⟨Nat.le_of_ble_eq_true rfl, Nat.le_of_ble_eq_true rfl⟩ h (fun _ _ h => h.elim) (fun r5 M6 H locs h hw => ?_)
    refine W.eq (g2 := F0 m 124 ls []) rfl ?_
    exact w_F_writeFloating_124 hfl K x4 M6 _ _ _ h (lv_sub hl [0, 2] rfl) hw
  · have h := h.2 hc
    exact w_F_writeFloating_124 hfl K x4 M4 _ _ _ h (lv_sub hl [0, 2] rfl) hw
theorem c_F_writeFloating (l : Launch) (hfl : l.flags = flags0) (v1 : Fin 9) : nf_C nf_jN l nm_F_writeFloating nb_F_writeFloating 6 none rm_F_writeFloating (fun a => [.ref (a 0), .ref (a (10 + (v1 : Fin 9).val))]) (fun M post ex => P_F_writeFloating v1 M post ex) := by
  refine nf_start (plainFor_of_name (by decide +kernel)) (fun a => Nat.le_of_ble_eq_true rfl) ?_
  intro D a sz M post ex p e s m below meth c ls h K hl hw
  have hx := K.1
  have hb := K.2.1
  have hl : lv_has ls 6 [(0, .ref (a 0)), (1, .ref (a (10 + (v1 : Fin 9).val)))] := hl
  refine lv_aload_n hx hb d_F_writeFloating_0 rfl (lv_at hl 1 rfl) ?_
  refine nf_getN (v := .double (mg_R M v1)) K hw (10 + (v1 : Fin 9).val) 4 3 nv_47 (nf_heV _ _ _) rfl ni_V (by decide) rfl rfl d_F_writeFloating_1 ?_
  refine lv_topd (fun t1 et1 => ?_)
  have h := h t1 et1
  refine lv_dstore_n (lv' := [(2, .double t1), (0, .ref (a 0)), (1, .ref (a (10 + (v1 : Fin 9).val)))]) hx hb d_F_writeFloating_4 rfl hl (by decide) rfl (fun ls hl => ?_)
  refine lv_dload_n hx hb d_F_writeFloating_5 rfl (lv_at hl 0 rfl) ?_
  refine nf_callW (ex := (fun _ _ => False)) (As := [.double t1]) (st0 := [.double t1]) (rest := []) K hw (nf_invS hx hb K.2.2.2.1 (nf_Kg K nw_490) (nf_Kg K nw_491) (nf_Kg K nw_1) (nf_Kg K nw_492) ⟨by decide, by decide⟩ rfl nl_F_isInfinite rfl d_F_writeFloating_6) (c_F_isInfinite l hfl t1) nw_492 nw_1 rfl ⟨by decide, by decide⟩ (Nat.le_of_ble_eq_true rfl) hl.1 ⟨Nat.le_of_ble_eq_true rfl, Nat.le_of_ble_eq_true rfl⟩ h (fun _ _ h => h.elim) (fun r2 M3 H locs h hw => ?_)
  refine W.eq (g2 := F0 m 9 ls [.int r2]) rfl ?_
  refine nf_if_ne hx hb d_F_writeFloating_9 (tgt := 18) (by decide) (fun hc => ?_) (fun hc => ?_)
  · have h := h.1 hc
    refine lv_dload_n hx hb d_F_writeFloating_12 rfl (lv_at hl 0 rfl) ?_
    refine lv_dconst0 hx hb d_F_writeFloating_13 ?_
    refine nf_dl_ne hx hb d_F_writeFloating_14 d_F_writeFloating_15 (tgt := 73) (by decide) (fun hc => ?_) (fun hc => ?_)
    · have h := h.1 hc
      exact w_F_writeFloating_18 hfl K t1 M3 _ _ _ h (lv_sub hl [1, 0] rfl) hw
    · have h := h.2 hc
      refine lv_dload_n hx hb d_F_writeFloating_73 rfl (lv_at hl 0 rfl) ?_
      refine nf_callW (ex := (fun _ _ => False)) (As := [.double t1]) (st0 := [.double t1]) (rest := []) K hw (nf_invS hx hb K.2.2.2.1 (nf_Kg K nw_493) (nf_Kg K nw_494) (nf_Kg K nw_1) (nf_Kg K nw_495) ⟨by decide, by decide⟩ rfl nl_F_amount rfl d_F_writeFloating_74) (c_F_amount l hfl t1) nw_495 nw_1 rfl ⟨by decide, by decide⟩ (Nat.le_of_ble_eq_true rfl) hl.1 ⟨Nat.le_of_ble_eq_true rfl, Nat.le_of_ble_eq_true rfl⟩ h (fun _ _ h => h.elim) (fun r4 M5 H locs h hw => ?_)
      refine W.eq (g2 := F0 m 77 ls [.double r4]) rfl ?_
      refine lv_dstore (lv' := [(4, .double r4), (2, .double t1), (0, .ref (a 0)), (1, .ref (a (10 + (v1 : Fin 9).val)))]) hx hb d_F_writeFloating_77 hl (by decide) rfl (fun ls hl => ?_)
      refine lv_aload_n hx hb d_F_writeFloating_79 rfl (lv_at hl 2 rfl) ?_
      refine nf_get (v := .ref (a 8)) K hw 0 6 6 nw_174 rfl rfl ni_F (by decide) rfl rfl d_F_writeFloating_80 ?_
      refine lv_dload hx hb d_F_writeFloating_83 (lv_at hl 0 rfl) ?_
      refine lv_aload_n hx hb d_F_writeFloating_85 rfl (lv_at hl 3 rfl) ?_
      refine nf_getN (v := .int (mg_T M5 v1)) K hw (10 + (v1 : Fin 9).val) 4 0 nv_39 (nf_heV _ _ _) rfl ni_V (by decide) rfl rfl d_F_writeFloating_86 ?_
      refine lv_bipush (v := (8 : Int32)) hx hb d_F_writeFloating_89 (by decide) ?_
      refine nf_ic_ne hx hb d_F_writeFloating_91 (tgt := 98) (by decide) (fun hc => ?_) (fun hc => ?_)
      · have h := h.1 hc
        refine lv_iconst (v := (1 : Int32)) hx hb d_F_writeFloating_94 (by decide) ?_
        refine lv_goto hx hb d_F_writeFloating_95 (tgt := 99) (by decide) ?_
        exact w_F_writeFloating_99 hfl K t1 r4 (1 : Int32) r4 M5 _ _ _ h (lv_sub hl [2, 1, 0] rfl) hw
      · have h := h.2 hc
        refine lv_iconst (v := (0 : Int32)) hx hb d_F_writeFloating_98 (by decide) ?_
        exact w_F_writeFloating_99 hfl K t1 r4 (0 : Int32) r4 M5 _ _ _ h (lv_sub hl [2, 1, 0] rfl) hw
  · have h := h.2 hc
    exact w_F_writeFloating_18 hfl K t1 M3 _ _ _ h (lv_sub hl [1, 0] rfl) hw
theorem d_F_writeUnits_0 : decode nb_F_writeUnits 0 = .ok (.aload_n 0, 1) := by decide +kernel
theorem d_F_writeUnits_1 : decode nb_F_writeUnits 1 = .ok (.getfield 29, 3) := by decide +kernel
theorem d_F_writeUnits_4 : decode nb_F_writeUnits 4 = .ok (.invokevirtual 68, 3) := by decide +kernel
theorem d_F_writeUnits_7 : decode nb_F_writeUnits 7 = .ok (.aload_n 1, 1) := by decide +kernel
theorem d_F_writeUnits_8 : decode nb_F_writeUnits 8 = .ok (.getfield 110, 3) := by decide +kernel
theorem d_F_writeUnits_11 : decode nb_F_writeUnits 11 = .ok (.lconst 0, 1) := by decide +kernel
theorem d_F_writeUnits_12 : decode nb_F_writeUnits 12 = .ok (.lcmp, 1) := by decide +kernel
theorem d_F_writeUnits_13 : decode nb_F_writeUnits 13 = .ok (.ifCond .ge 12, 3) := by decide +kernel
theorem d_F_writeUnits_16 : decode nb_F_writeUnits 16 = .ok (.aload_n 0, 1) := by decide +kernel
theorem d_F_writeUnits_17 : decode nb_F_writeUnits 17 = .ok (.getfield 29, 3) := by decide +kernel
theorem d_F_writeUnits_20 : decode nb_F_writeUnits 20 = .ok (.bipush 45, 2) := by decide +kernel
theorem d_F_writeUnits_22 : decode nb_F_writeUnits 22 = .ok (.invokevirtual 64, 3) := by decide +kernel
theorem d_F_writeUnits_25 : decode nb_F_writeUnits 25 = .ok (.aload_n 0, 1) := by decide +kernel
theorem d_F_writeUnits_26 : decode nb_F_writeUnits 26 = .ok (.getfield 29, 3) := by decide +kernel
theorem d_F_writeUnits_29 : decode nb_F_writeUnits 29 = .ok (.aload_n 1, 1) := by decide +kernel
theorem d_F_writeUnits_30 : decode nb_F_writeUnits 30 = .ok (.getfield 110, 3) := by decide +kernel
theorem d_F_writeUnits_33 : decode nb_F_writeUnits 33 = .ok (.invokestatic 193, 3) := by decide +kernel
theorem d_F_writeUnits_36 : decode nb_F_writeUnits 36 = .ok (.aload_n 1, 1) := by decide +kernel
theorem d_F_writeUnits_37 : decode nb_F_writeUnits 37 = .ok (.getfield 176, 3) := by decide +kernel
theorem d_F_writeUnits_40 : decode nb_F_writeUnits 40 = .ok (.invokevirtual 433, 3) := by decide +kernel
theorem d_F_writeUnits_43 : decode nb_F_writeUnits 43 = .ok (.return_, 1) := by decide +kernel
abbrev rm_F_writeUnits : Room := ({ frames := 3, cells := 0, slots := 0, locals := 69 })
theorem w_F_writeUnits_25 {post : Unit → nf_M → Prop} (hfl : l.flags = flags0) (K : nf_K p s m args meth c "NumberForge" nb_F_writeUnits 2 none D a sz) : ∀ (v1 : Fin 9) (M : nf_M) (H : Heap) (locs : List Loc) (ls : Array Slot), B_F_writeUnits_25 post v1 M → lv_has ls 2 [(0, .ref (a 0)), (1, .ref (a (10 + (v1 : Fin 9).val)))] → nf_W D a s sz H locs M → W p l e rm_F_writeUnits s m args below meth c H locs 0 0 (nf_MQ below (nf_Q nf_jN D a post ex (nf_A a sz)) args s rm_F_writeUnits.cells rm_F_writeUnits.slots (nf_A a sz)) (F0 m 25 ls []) := by
  have hx := K.1
  have hb := K.2.1
  intro v1 M H locs ls h hl hw
  refine lv_aload_n hx hb d_F_writeUnits_25 rfl (lv_at hl 0 rfl) ?_
  refine nf_get (v := .ref (a (nf_ro true))) K hw 0 6 3 nw_171 rfl rfl ni_F (by decide) rfl rfl d_F_writeUnits_26 ?_
  refine lv_aload_n hx hb d_F_writeUnits_29 rfl (lv_at hl 1 rfl) ?_
  refine nf_getN (v := .long (mg_U M v1)) K hw (10 + (v1 : Fin 9).val) 4 1 nv_41 (nf_heV _ _ _) rfl ni_V (by decide) rfl rfl d_F_writeUnits_30 ?_
  refine nf_callW (ex := (fun _ _ => False)) (As := [.long (mg_U M v1)]) (st0 := [.long (mg_U M v1), .ref (a (nf_ro true))]) (rest := [.ref (a (nf_ro true))]) K hw (nf_invS hx hb K.2.2.2.1 (nf_Kg K nw_549) (nf_Kg K nw_550) (nf_Kg K nw_4) (nf_Kg K nw_551) ⟨by decide, by decide⟩ rfl nl_JM_abs_JJ rfl d_F_writeUnits_33) (c_JM_abs_JJ l hfl (mg_U M v1)) nw_551 nw_4 rfl ⟨by decide, by decide⟩ (Nat.le_of_ble_eq_true rfl) hl.1 ⟨Nat.le_of_ble_eq_true rfl, Nat.le_of_ble_eq_true rfl⟩ h (fun _ _ h => h.elim) (fun r1 M2 H locs h hw => ?_)
  refine W.eq (g2 := F0 m 36 ls [.long r1, .ref (a (nf_ro true))]) rfl ?_
  refine lv_aload_n hx hb d_F_writeUnits_36 rfl (lv_at hl 1 rfl) ?_
  refine nf_getN (v := .int (mg_S M2 v1)) K hw (10 + (v1 : Fin 9).val) 4 2 nv_45 (nf_heV _ _ _) rfl ni_V (by decide) rfl rfl d_F_writeUnits_37 ?_
  refine nf_callW (ex := (fun _ _ => False)) (As := [.ref (a (nf_ro true)), .long r1, .int (mg_S M2 v1)]) (st0 := [.int (mg_S M2 v1), .long r1, .ref (a (nf_ro true))]) (rest := []) K hw (nf_invVN hx hb K.2.2.2.1 ((nf_Kr K nv_803).use rfl) (nf_Kg K nw_805) (nf_Kg K nx_R_addNumber) (nf_Kg K nw_806) ⟨by decide, by decide⟩ (nf_rcv K hw (nf_ro true) 3 (nf_heR _ _ _) rfl) rfl nl_R_addNumber rfl d_F_writeUnits_40) (c_R_addNumber l hfl true r1 (mg_S M2 v1)) nw_806 nw_3 rfl ⟨by decide, by decide⟩ (Nat.le_of_ble_eq_true rfl) hl.1 ⟨Nat.le_of_ble_eq_true rfl, Nat.le_of_ble_eq_true rfl⟩ h (fun _ _ h => h.elim) (fun r3 M4 H locs h hw => ?_)
  refine W.eq (g2 := F0 m 43 ls []) rfl ?_
  exact nf_vret K hw d_F_writeUnits_43 (Nat.le_of_ble_eq_true rfl) (Nat.le_of_ble_eq_true rfl) (r := ()) rfl h
theorem c_F_writeUnits (l : Launch) (hfl : l.flags = flags0) (v1 : Fin 9) : nf_C nf_jN l nm_F_writeUnits nb_F_writeUnits 2 none rm_F_writeUnits (fun a => [.ref (a 0), .ref (a (10 + (v1 : Fin 9).val))]) (fun M post ex => P_F_writeUnits v1 M post) := by
  refine nf_start (plainFor_of_name (by decide +kernel)) (fun a => Nat.le_of_ble_eq_true rfl) ?_
  intro D a sz M post ex p e s m below meth c ls h K hl hw
  have hx := K.1
  have hb := K.2.1
  have hl : lv_has ls 2 [(0, .ref (a 0)), (1, .ref (a (10 + (v1 : Fin 9).val)))] := hl
  refine lv_aload_n hx hb d_F_writeUnits_0 rfl (lv_at hl 0 rfl) ?_
  refine nf_get (v := .ref (a (nf_ro true))) K hw 0 6 3 nw_171 rfl rfl ni_F (by decide) rfl rfl d_F_writeUnits_1 ?_
  refine nf_callW (ex := (fun _ _ => False)) (As := [.ref (a (nf_ro true))]) (st0 := [.ref (a (nf_ro true))]) (rest := []) K hw (nf_invVN hx hb K.2.2.2.1 ((nf_Kr K nv_205).use rfl) (nf_Kg K nw_207) (nf_Kg K nx_R_clear) (nf_Kg K nw_208) ⟨by decide, by decide⟩ (nf_rcv K hw (nf_ro true) 3 (nf_heR _ _ _) rfl) rfl nl_R_clear rfl d_F_writeUnits_4) (c_R_clear l hfl true) nw_208 nw_3 rfl ⟨by decide, by decide⟩ (Nat.le_of_ble_eq_true rfl) hl.1 ⟨Nat.le_of_ble_eq_true rfl, Nat.le_of_ble_eq_true rfl⟩ h (fun _ _ h => h.elim) (fun r1 M2 H locs h hw => ?_)
  refine W.eq (g2 := F0 m 7 ls []) rfl ?_
  refine lv_aload_n hx hb d_F_writeUnits_7 rfl (lv_at hl 1 rfl) ?_
  refine nf_getN (v := .long (mg_U M2 v1)) K hw (10 + (v1 : Fin 9).val) 4 1 nv_41 (nf_heV _ _ _) rfl ni_V (by decide) rfl rfl d_F_writeUnits_8 ?_
  refine lv_lconst (v := (0 : Int64)) hx hb d_F_writeUnits_11 (by decide) ?_
  refine nf_lc_ge hx hb d_F_writeUnits_12 d_F_writeUnits_13 (tgt := 25) (by decide) (fun hc => ?_) (fun hc => ?_)
  · have h := h.1 hc
    refine lv_aload_n hx hb d_F_writeUnits_16 rfl (lv_at hl 0 rfl) ?_
    refine nf_get (v := .ref (a (nf_ro true))) K hw 0 6 3 nw_171 rfl rfl ni_F (by decide) rfl rfl d_F_writeUnits_17 ?_
    refine lv_bipush (v := (45 : Int32)) hx hb d_F_writeUnits_20 (by decide) ?_
    refine nf_callW (ex := (fun _ _ => False)) (As := [.ref (a (nf_ro true)), .int (45 : Int32)]) (st0 := [.int (45 : Int32), .ref (a (nf_ro true))]) (rest := []) K hw (nf_invVN hx hb K.2.2.2.1 ((nf_Kr K nv_197).use rfl) (nf_Kg K nw_199) (nf_Kg K nx_R_add) (nf_Kg K nw_200) ⟨by decide, by decide⟩ (nf_rcv K hw (nf_ro true) 3 (nf_heR _ _ _) rfl) rfl nl_R_add rfl d_F_writeUnits_22) (c_R_add l hfl true (45 : Int32)) nw_200 nw_3 rfl ⟨by decide, by decide⟩ (Nat.le_of_ble_eq_true rfl) hl.1 ⟨Nat.le_of_ble_eq_true rfl, Nat.le_of_ble_eq_true rfl⟩ h (fun _ _ h => h.elim) (fun r3 M4 H locs h hw => ?_)
    refine W.eq (g2 := F0 m 25 ls []) rfl ?_
    exact w_F_writeUnits_25 hfl K v1 M4 _ _ _ h (lv_sub hl [0, 1] rfl) hw
  · have h := h.2 hc
    exact w_F_writeUnits_25 hfl K v1 M2 _ _ _ h (lv_sub hl [0, 1] rfl) hw
theorem d_F_write_0 : decode nb_F_write 0 = .ok (.aload_n 0, 1) := by decide +kernel
theorem d_F_write_1 : decode nb_F_write 1 = .ok (.iload_n 1, 1) := by decide +kernel
theorem d_F_write_2 : decode nb_F_write 2 = .ok (.invokevirtual 71, 3) := by decide +kernel
theorem d_F_write_5 : decode nb_F_write 5 = .ok (.astore_n 2, 1) := by decide +kernel
theorem d_F_write_6 : decode nb_F_write 6 = .ok (.aload_n 2, 1) := by decide +kernel
theorem d_F_write_7 : decode nb_F_write 7 = .ok (.invokestatic 121, 3) := by decide +kernel
theorem d_F_write_10 : decode nb_F_write 10 = .ok (.aload_n 2, 1) := by decide +kernel
theorem d_F_write_11 : decode nb_F_write 11 = .ok (.invokevirtual 124, 3) := by decide +kernel
theorem d_F_write_14 : decode nb_F_write 14 = .ok (.ifCond .eq 11, 3) := by decide +kernel
theorem d_F_write_17 : decode nb_F_write 17 = .ok (.aload_n 0, 1) := by decide +kernel
theorem d_F_write_18 : decode nb_F_write 18 = .ok (.aload_n 2, 1) := by decide +kernel
theorem d_F_write_19 : decode nb_F_write 19 = .ok (.invokevirtual 178, 3) := by decide +kernel
theorem d_F_write_22 : decode nb_F_write 22 = .ok (.goto 8, 3) := by decide +kernel
theorem d_F_write_25 : decode nb_F_write 25 = .ok (.aload_n 0, 1) := by decide +kernel
theorem d_F_write_26 : decode nb_F_write 26 = .ok (.aload_n 2, 1) := by decide +kernel
theorem d_F_write_27 : decode nb_F_write 27 = .ok (.invokevirtual 181, 3) := by decide +kernel
theorem d_F_write_30 : decode nb_F_write 30 = .ok (.aload_n 0, 1) := by decide +kernel
theorem d_F_write_31 : decode nb_F_write 31 = .ok (.getfield 29, 3) := by decide +kernel
theorem d_F_write_34 : decode nb_F_write 34 = .ok (.getfield 60, 3) := by decide +kernel
theorem d_F_write_37 : decode nb_F_write 37 = .ok (.ireturn, 1) := by decide +kernel
abbrev rm_F_write : Room := ({ frames := 8, cells := 3, slots := 18, locals := 208 })
theorem w_F_write_30 {post : Int32 → nf_M → Prop} (hfl : l.flags = flags0) (K : nf_K p s m args meth c "NumberForge" nb_F_write 3 (some FieldType.int) D a sz) : ∀ (M : nf_M) (H : Heap) (locs : List Loc) (ls : Array Slot), B_F_write_30 post ex  M → lv_has ls 3 [(0, .ref (a 0))] → nf_W D a s sz H locs M → W p l e rm_F_write s m args below meth c H locs 3 18 (nf_MQ below (nf_Q nf_jI D a post ex (nf_A a sz)) args s rm_F_write.cells rm_F_write.slots (nf_A a sz)) (F0 m 30 ls []) := by
  have hx := K.1
  have hb := K.2.1
  intro  M H locs ls h hl hw
  refine lv_aload_n hx hb d_F_write_30 rfl (lv_at hl 0 rfl) ?_
  refine nf_get (v := .ref (a (nf_ro true))) K hw 0 6 3 nw_171 rfl rfl ni_F (by decide) rfl rfl d_F_write_31 ?_
  refine nf_getN (v := .int (mg_N M true)) K hw (nf_ro true) 3 1 nv_68 (nf_heR _ _ _) rfl ni_R (by decide) rfl rfl d_F_write_34 ?_
  exact nf_iret K hw d_F_write_37 rfl (Nat.le_of_ble_eq_true rfl) (Nat.le_of_ble_eq_true rfl) (r := mg_N M true) rfl h
theorem c_F_write (l : Launch) (hfl : l.flags = flags0) (x1 : Int32) : nf_C nf_jI l nm_F_write nb_F_write 3 (some FieldType.int) rm_F_write (fun a => [.ref (a 0), .int x1]) (fun M post ex => P_F_write x1 M post ex) := by
  refine nf_start (plainFor_of_name (by decide +kernel)) (fun a => Nat.le_of_ble_eq_true rfl) ?_
  intro D a sz M post ex p e s m below meth c ls h K hl hw
  have hx := K.1
  have hb := K.2.1
  have hl : lv_has ls 3 [(0, .ref (a 0)), (1, .int x1)] := hl
  refine lv_aload_n hx hb d_F_write_0 rfl (lv_at hl 0 rfl) ?_
  refine lv_iload_n hx hb d_F_write_1 rfl (lv_at hl 1 rfl) ?_
  refine nf_callW (ex := ex) (As := [.ref (a 0), .int x1]) (st0 := [.int x1, .ref (a 0)]) (rest := []) K hw (nf_invV hx hb K.2.2.2.1 (nf_Kg K nw_243) (nf_Kg K nw_245) (nf_Kg K nx_F_register) (nf_Kg K nw_246) ⟨by decide, by decide⟩ (nf_rcv K hw 0 6 rfl rfl) rfl nl_F_register rfl d_F_write_2) (c_F_register l hfl x1) nw_246 nw_1 rfl ⟨by decide, by decide⟩ (Nat.le_of_ble_eq_true rfl) hl.1 ⟨Nat.le_of_ble_eq_true rfl, Nat.le_of_ble_eq_true rfl⟩ h (fun _ _ h => h) (fun r1 M2 H locs h hw => ?_)
  refine W.eq (g2 := F0 m 5 ls [.ref (a (10 + (r1 : Fin 9).val))]) rfl ?_
  refine W.widen (k := 1) (n := 6) (by decide) (by decide) ?_
  refine lv_astore_n (lv' := [(2, .ref (a (10 + (r1 : Fin 9).val))), (0, .ref (a 0)), (1, .int x1)]) hx hb d_F_write_5 rfl hl (by decide) rfl (fun ls hl => ?_)
  refine lv_aload_n hx hb d_F_write_6 rfl (lv_at hl 0 rfl) ?_
  refine nf_callW (ex := ex) (As := [.ref (a (10 + (r1 : Fin 9).val))]) (st0 := [.ref (a (10 + (r1 : Fin 9).val))]) (rest := []) K hw (nf_invS hx hb K.2.2.2.1 (nf_Kg K nw_449) (nf_Kg K nw_450) (nf_Kg K nw_1) (nf_Kg K nw_451) ⟨by decide, by decide⟩ rfl nl_F_checkFull rfl d_F_write_7) (c_F_checkFull l hfl r1) nw_451 nw_1 rfl ⟨by decide, by decide⟩ (Nat.le_of_ble_eq_true rfl) hl.1 ⟨Nat.le_of_ble_eq_true rfl, Nat.le_of_ble_eq_true rfl⟩ h (fun _ _ h => h) (fun r3 M4 H locs h hw => ?_)
  refine W.eq (g2 := F0 m 10 ls []) rfl ?_
  refine W.widen (k := 2) (n := 12) (by decide) (by decide) ?_
  refine lv_aload_n hx hb d_F_write_10 rfl (lv_at hl 0 rfl) ?_
  refine nf_callW (ex := (fun _ _ => False)) (As := [.ref (a (10 + (r1 : Fin 9).val))]) (st0 := [.ref (a (10 + (r1 : Fin 9).val))]) (rest := []) K hw (nf_invVN hx hb K.2.2.2.1 ((nf_Kr K nv_468).use rfl) (nf_Kg K nw_470) (nf_Kg K nx_V_isFloating) (nf_Kg K nw_471) ⟨by decide, by decide⟩ (nf_rcv K hw (10 + (r1 : Fin 9).val) 4 (nf_heV _ _ _) rfl) rfl nl_V_isFloating rfl d_F_write_11) (c_V_isFloating l hfl r1) nw_471 nw_2 rfl ⟨by decide, by decide⟩ (Nat.le_of_ble_eq_true rfl) hl.1 ⟨Nat.le_of_ble_eq_true rfl, Nat.le_of_ble_eq_true rfl⟩ h (fun _ _ h => h.elim) (fun r5 M6 H locs h hw => ?_)
  refine W.eq (g2 := F0 m 14 ls [.int r5]) rfl ?_
  refine nf_if_eq hx hb d_F_write_14 (tgt := 25) (by decide) (fun hc => ?_) (fun hc => ?_)
  · have h := h.1 hc
    refine lv_aload_n hx hb d_F_write_25 rfl (lv_at hl 1 rfl) ?_
    refine lv_aload_n hx hb d_F_write_26 rfl (lv_at hl 0 rfl) ?_
    refine nf_callW (ex := (fun _ _ => False)) (As := [.ref (a 0), .ref (a (10 + (r1 : Fin 9).val))]) (st0 := [.ref (a (10 + (r1 : Fin 9).val)), .ref (a 0)]) (rest := []) K hw (nf_invV hx hb K.2.2.2.1 (nf_Kg K nw_824) (nf_Kg K nw_826) (nf_Kg K nx_F_writeUnits) (nf_Kg K nw_827) ⟨by decide, by decide⟩ (nf_rcv K hw 0 6 rfl rfl) rfl nl_F_writeUnits rfl d_F_write_27) (c_F_writeUnits l hfl r1) nw_827 nw_1 rfl ⟨by decide, by decide⟩ (Nat.le_of_ble_eq_true rfl) hl.1 ⟨Nat.le_of_ble_eq_true rfl, Nat.le_of_ble_eq_true rfl⟩ h (fun _ _ h => h.elim) (fun r7 M8 H locs h hw => ?_)
    refine W.eq (g2 := F0 m 30 ls []) rfl ?_
    refine W.widen (k := 3) (n := 18) (by decide) (by decide) ?_
    exact w_F_write_30 hfl K  M8 _ _ _ h (lv_sub hl [1] rfl) hw
  · have h := h.2 hc
    refine lv_aload_n hx hb d_F_write_17 rfl (lv_at hl 1 rfl) ?_
    refine lv_aload_n hx hb d_F_write_18 rfl (lv_at hl 0 rfl) ?_
    refine nf_callW (ex := ex) (As := [.ref (a 0), .ref (a (10 + (r1 : Fin 9).val))]) (st0 := [.ref (a (10 + (r1 : Fin 9).val)), .ref (a 0)]) (rest := []) K hw (nf_invV hx hb K.2.2.2.1 (nf_Kg K nw_720) (nf_Kg K nw_722) (nf_Kg K nx_F_writeFloating) (nf_Kg K nw_723) ⟨by decide, by decide⟩ (nf_rcv K hw 0 6 rfl rfl) rfl nl_F_writeFloating rfl d_F_write_19) (c_F_writeFloating l hfl r1) nw_723 nw_1 rfl ⟨by decide, by decide⟩ (Nat.le_of_ble_eq_true rfl) hl.1 ⟨Nat.le_of_ble_eq_true rfl, Nat.le_of_ble_eq_true rfl⟩ h (fun _ _ h => h) (fun r9 M10 H locs h hw => ?_)
    refine W.eq (g2 := F0 m 22 ls []) rfl ?_
    refine W.widen (k := 3) (n := 18) (by decide) (by decide) ?_
    refine lv_goto hx hb d_F_write_22 (tgt := 30) (by decide) ?_
    exact w_F_write_30 hfl K  M10 _ _ _ h (lv_sub hl [1] rfl) hw
theorem d_P_isMark_0 : decode nb_P_isMark 0 = .ok (.iload_n 0, 1) := by decide +kernel
theorem d_P_isMark_1 : decode nb_P_isMark 1 = .ok (.bipush 35, 2) := by decide +kernel
theorem d_P_isMark_3 : decode nb_P_isMark 3 = .ok (.if_icmp .eq 21, 3) := by decide +kernel
theorem d_P_isMark_6 : decode nb_P_isMark 6 = .ok (.iload_n 0, 1) := by decide +kernel
theorem d_P_isMark_7 : decode nb_P_isMark 7 = .ok (.bipush 48, 2) := by decide +kernel
theorem d_P_isMark_9 : decode nb_P_isMark 9 = .ok (.if_icmp .eq 15, 3) := by decide +kernel
theorem d_P_isMark_12 : decode nb_P_isMark 12 = .ok (.iload_n 0, 1) := by decide +kernel
theorem d_P_isMark_13 : decode nb_P_isMark 13 = .ok (.bipush 44, 2) := by decide +kernel
theorem d_P_isMark_15 : decode nb_P_isMark 15 = .ok (.if_icmp .eq 9, 3) := by decide +kernel
theorem d_P_isMark_18 : decode nb_P_isMark 18 = .ok (.iload_n 0, 1) := by decide +kernel
theorem d_P_isMark_19 : decode nb_P_isMark 19 = .ok (.bipush 46, 2) := by decide +kernel
theorem d_P_isMark_21 : decode nb_P_isMark 21 = .ok (.if_icmp .ne 7, 3) := by decide +kernel
theorem d_P_isMark_24 : decode nb_P_isMark 24 = .ok (.iconst 1, 1) := by decide +kernel
theorem d_P_isMark_25 : decode nb_P_isMark 25 = .ok (.goto 4, 3) := by decide +kernel
theorem d_P_isMark_28 : decode nb_P_isMark 28 = .ok (.iconst 0, 1) := by decide +kernel
theorem d_P_isMark_29 : decode nb_P_isMark 29 = .ok (.ireturn, 1) := by decide +kernel
abbrev rm_P_isMark : Room := ({ frames := 0, cells := 0, slots := 0, locals := 0 })
theorem w_P_isMark_29 {post : Int32 → nf_M → Prop} (hfl : l.flags = flags0) (K : nf_K p s m args meth c "NumberForge$Picture" nb_P_isMark 1 (some FieldType.boolean) D a sz) : ∀ (xy0 : Int32) (M : nf_M) (H : Heap) (locs : List Loc) (ls : Array Slot), B_P_isMark_29 post xy0 M → lv_has ls 1 [] → nf_W D a s sz H locs M → W p l e rm_P_isMark s m args below meth c H locs 0 0 (nf_MQ below (nf_Q nf_jI D a post ex (nf_A a sz)) args s rm_P_isMark.cells rm_P_isMark.slots (nf_A a sz)) (F0 m 29 ls [.int xy0]) := by
  have hx := K.1
  have hb := K.2.1
  intro xy0 M H locs ls h hl hw
  obtain ⟨g1, h⟩ := h
  exact nf_iret K hw d_P_isMark_29 g1 (Nat.le_of_ble_eq_true rfl) (Nat.le_of_ble_eq_true rfl) (r := xy0) rfl h
theorem w_P_isMark_24 {post : Int32 → nf_M → Prop} (hfl : l.flags = flags0) (K : nf_K p s m args meth c "NumberForge$Picture" nb_P_isMark 1 (some FieldType.boolean) D a sz) : ∀ (M : nf_M) (H : Heap) (locs : List Loc) (ls : Array Slot), B_P_isMark_24 post  M → lv_has ls 1 [] → nf_W D a s sz H locs M → W p l e rm_P_isMark s m args below meth c H locs 0 0 (nf_MQ below (nf_Q nf_jI D a post ex (nf_A a sz)) args s rm_P_isMark.cells rm_P_isMark.slots (nf_A a sz)) (F0 m 24 ls []) := by
  have hx := K.1
  have hb := K.2.1
  intro  M H locs ls h hl hw
  refine lv_iconst (v := (1 : Int32)) hx hb d_P_isMark_24 (by decide) ?_
  refine lv_goto hx hb d_P_isMark_25 (tgt := 29) (by decide) ?_
  exact w_P_isMark_29 hfl K (1 : Int32) M _ _ _ h (lv_sub hl [] rfl) hw
theorem c_P_isMark (l : Launch) (hfl : l.flags = flags0) (x0 : Int32) : nf_C nf_jI l nm_P_isMark nb_P_isMark 1 (some FieldType.boolean) rm_P_isMark (fun a => [.int x0]) (fun M post ex => P_P_isMark x0 M post) := by
  refine nf_start (plainFor_of_name (by decide +kernel)) (fun a => Nat.le_of_ble_eq_true rfl) ?_
  intro D a sz M post ex p e s m below meth c ls h K hl hw
  have hx := K.1
  have hb := K.2.1
  have hl : lv_has ls 1 [(0, .int x0)] := hl
  refine lv_iload_n hx hb d_P_isMark_0 rfl (lv_at hl 0 rfl) ?_
  refine lv_bipush (v := (35 : Int32)) hx hb d_P_isMark_1 (by decide) ?_
  refine nf_ic_eq hx hb d_P_isMark_3 (tgt := 24) (by decide) (fun hc => ?_) (fun hc => ?_)
  · have h := h.1 hc
    exact w_P_isMark_24 hfl K  M _ _ _ h (lv_sub hl [] rfl) hw
  · have h := h.2 hc
    refine lv_iload_n hx hb d_P_isMark_6 rfl (lv_at hl 0 rfl) ?_
    refine lv_bipush (v := (48 : Int32)) hx hb d_P_isMark_7 (by decide) ?_
    refine nf_ic_eq hx hb d_P_isMark_9 (tgt := 24) (by decide) (fun hc => ?_) (fun hc => ?_)
    · have h := h.1 hc
      exact w_P_isMark_24 hfl K  M _ _ _ h (lv_sub hl [] rfl) hw
    · have h := h.2 hc
      refine lv_iload_n hx hb d_P_isMark_12 rfl (lv_at hl 0 rfl) ?_
      refine lv_bipush (v := (44 : Int32)) hx hb d_P_isMark_13 (by decide) ?_
      refine nf_ic_eq hx hb d_P_isMark_15 (tgt := 24) (by decide) (fun hc => ?_) (fun hc => ?_)
      · have h := h.1 hc
        exact w_P_isMark_24 hfl K  M _ _ _ h (lv_sub hl [] rfl) hw
      · have h := h.2 hc
        refine lv_iload_n hx hb d_P_isMark_18 rfl (lv_at hl 0 rfl) ?_
        refine lv_bipush (v := (46 : Int32)) hx hb d_P_isMark_19 (by decide) ?_
        refine nf_ic_ne hx hb d_P_isMark_21 (tgt := 28) (by decide) (fun hc => ?_) (fun hc => ?_)
        · have h := h.1 hc
          exact w_P_isMark_24 hfl K  M _ _ _ h (lv_sub hl [] rfl) hw
        · have h := h.2 hc
          refine lv_iconst (v := (0 : Int32)) hx hb d_P_isMark_28 (by decide) ?_
          exact w_P_isMark_29 hfl K (0 : Int32) M _ _ _ h (lv_sub hl [] rfl) hw
theorem d_P_endOfHead_0 : decode nb_P_endOfHead 0 = .ok (.iconst 0, 1) := by decide +kernel
theorem d_P_endOfHead_1 : decode nb_P_endOfHead 1 = .ok (.istore_n 1, 1) := by decide +kernel
theorem d_P_endOfHead_2 : decode nb_P_endOfHead 2 = .ok (.iload_n 1, 1) := by decide +kernel
theorem d_P_endOfHead_3 : decode nb_P_endOfHead 3 = .ok (.aload_n 0, 1) := by decide +kernel
theorem d_P_endOfHead_4 : decode nb_P_endOfHead 4 = .ok (.getfield 53, 3) := by decide +kernel
theorem d_P_endOfHead_7 : decode nb_P_endOfHead 7 = .ok (.if_icmp .ge 30, 3) := by decide +kernel
theorem d_P_endOfHead_10 : decode nb_P_endOfHead 10 = .ok (.aload_n 0, 1) := by decide +kernel
theorem d_P_endOfHead_11 : decode nb_P_endOfHead 11 = .ok (.iload_n 1, 1) := by decide +kernel
theorem d_P_endOfHead_12 : decode nb_P_endOfHead 12 = .ok (.invokevirtual 26, 3) := by decide +kernel
theorem d_P_endOfHead_15 : decode nb_P_endOfHead 15 = .ok (.invokestatic 56, 3) := by decide +kernel
theorem d_P_endOfHead_18 : decode nb_P_endOfHead 18 = .ok (.ifCond .ne 19, 3) := by decide +kernel
theorem d_P_endOfHead_21 : decode nb_P_endOfHead 21 = .ok (.aload_n 0, 1) := by decide +kernel
theorem d_P_endOfHead_22 : decode nb_P_endOfHead 22 = .ok (.iload_n 1, 1) := by decide +kernel
theorem d_P_endOfHead_23 : decode nb_P_endOfHead 23 = .ok (.invokevirtual 26, 3) := by decide +kernel
theorem d_P_endOfHead_26 : decode nb_P_endOfHead 26 = .ok (.bipush 37, 2) := by decide +kernel
theorem d_P_endOfHead_28 : decode nb_P_endOfHead 28 = .ok (.if_icmp .eq 9, 3) := by decide +kernel
theorem d_P_endOfHead_31 : decode nb_P_endOfHead 31 = .ok (.iinc 1 1, 3) := by decide +kernel
theorem d_P_endOfHead_34 : decode nb_P_endOfHead 34 = .ok (.goto (-32), 3) := by decide +kernel
theorem d_P_endOfHead_37 : decode nb_P_endOfHead 37 = .ok (.iload_n 1, 1) := by decide +kernel
theorem d_P_endOfHead_38 : decode nb_P_endOfHead 38 = .ok (.ireturn, 1) := by decide +kernel
abbrev rm_P_endOfHead : Room := ({ frames := 1, cells := 0, slots := 0, locals := 21 })
theorem w_P_endOfHead_37 {post : Int32 → nf_M → Prop} (hfl : l.flags = flags0) (K : nf_K p s m args meth c "NumberForge$Picture" nb_P_endOfHead 2 (some FieldType.int) D a sz) : ∀ (x1 : Int32) (M : nf_M) (H : Heap) (locs : List Loc) (ls : Array Slot), B_P_endOfHead_37 post x1 M → lv_has ls 2 [(1, .int x1)] → nf_W D a s sz H locs M → W p l e rm_P_endOfHead s m args below meth c H locs 0 0 (nf_MQ below (nf_Q nf_jI D a post ex (nf_A a sz)) args s rm_P_endOfHead.cells rm_P_endOfHead.slots (nf_A a sz)) (F0 m 37 ls []) := by
  have hx := K.1
  have hb := K.2.1
  intro x1 M H locs ls h hl hw
  refine lv_iload_n hx hb d_P_endOfHead_37 rfl (lv_at hl 0 rfl) ?_
  exact nf_iret K hw d_P_endOfHead_38 rfl (Nat.le_of_ble_eq_true rfl) (Nat.le_of_ble_eq_true rfl) (r := x1) rfl h
theorem w_P_endOfHead_2 {post : Int32 → nf_M → Prop} (hfl : l.flags = flags0) (K : nf_K p s m args meth c "NumberForge$Picture" nb_P_endOfHead 2 (some FieldType.int) D a sz) : ∀ (n : Nat) (b0 : Bool) (x1 : Int32) (M : nf_M) (H : Heap) (locs : List Loc) (ls : Array Slot), B_P_endOfHead_2 post n b0 x1 M → lv_has ls 2 [(0, .ref (a (nf_ro b0))), (1, .int x1)] → nf_W D a s sz H locs M → W p l e rm_P_endOfHead s m args below meth c H locs 0 0 (nf_MQ below (nf_Q nf_jI D a post ex (nf_A a sz)) args s rm_P_endOfHead.cells rm_P_endOfHead.slots (nf_A a sz)) (F0 m 2 ls []) := by
  have hx := K.1
  have hb := K.2.1
  intro n
  induction n with
  | zero => intro b0 x1 M H locs ls h hl hw; exact h.elim
  | succ n ih =>
    intro b0 x1 M H locs ls h hl hw
    refine lv_iload_n hx hb d_P_endOfHead_2 rfl (lv_at hl 1 rfl) ?_
    refine lv_aload_n hx hb d_P_endOfHead_3 rfl (lv_at hl 0 rfl) ?_
    refine nf_getN (v := .int (mg_N M b0)) K hw (nf_ro b0) 3 1 nv_69 (nf_heR _ _ _) rfl ni_R (by decide) rfl rfl d_P_endOfHead_4 ?_
    refine nf_ic_ge hx hb d_P_endOfHead_7 (tgt := 37) (by decide) (fun hc => ?_) (fun hc => ?_)
    · have h := h.1 hc
      refine lv_aload_n hx hb d_P_endOfHead_10 rfl (lv_at hl 0 rfl) ?_
      refine lv_iload_n hx hb d_P_endOfHead_11 rfl (lv_at hl 1 rfl) ?_
      refine nf_callW (ex := (fun _ _ => False)) (As := [.ref (a (nf_ro b0)), .int x1]) (st0 := [.int x1, .ref (a (nf_ro b0))]) (rest := []) K hw (nf_invVN hx hb K.2.2.2.1 ((nf_Kr K nv_842).use rfl) (nf_Kg K nw_231) (nf_Kg K nx_R_at) (nf_Kg K nw_232) ⟨by decide, by decide⟩ (nf_rcv K hw (nf_ro b0) 3 (nf_heR _ _ _) rfl) rfl nl_R_at rfl d_P_endOfHead_12) (c_R_at l hfl b0 x1) nw_232 nw_3 rfl ⟨by decide, by decide⟩ (Nat.le_of_ble_eq_true rfl) hl.1 ⟨Nat.le_of_ble_eq_true rfl, Nat.le_of_ble_eq_true rfl⟩ h (fun _ _ h => h.elim) (fun r1 M2 H locs h hw => ?_)
      refine W.eq (g2 := F0 m 15 ls [.int r1]) rfl ?_
      refine nf_callW (ex := (fun _ _ => False)) (As := [.int r1]) (st0 := [.int r1]) (rest := []) K hw (nf_invS hx hb K.2.2.2.1 (nf_Kg K nw_843) (nf_Kg K nw_844) (nf_Kg K nw_6) (nf_Kg K nw_845) ⟨by decide, by decide⟩ rfl nl_P_isMark rfl d_P_endOfHead_15) (c_P_isMark l hfl r1) nw_845 nw_6 rfl ⟨by decide, by decide⟩ (Nat.le_of_ble_eq_true rfl) hl.1 ⟨Nat.le_of_ble_eq_true rfl, Nat.le_of_ble_eq_true rfl⟩ h (fun _ _ h => h.elim) (fun r3 M4 H locs h hw => ?_)
      refine W.eq (g2 := F0 m 18 ls [.int r3]) rfl ?_
      refine nf_if_ne hx hb d_P_endOfHead_18 (tgt := 37) (by decide) (fun hc => ?_) (fun hc => ?_)
      · have h := h.1 hc
        refine lv_aload_n hx hb d_P_endOfHead_21 rfl (lv_at hl 0 rfl) ?_
        refine lv_iload_n hx hb d_P_endOfHead_22 rfl (lv_at hl 1 rfl) ?_
        refine nf_callW (ex := (fun _ _ => False)) (As := [.ref (a (nf_ro b0)), .int x1]) (st0 := [.int x1, .ref (a (nf_ro b0))]) (rest := []) K hw (nf_invVN hx hb K.2.2.2.1 ((nf_Kr K nv_842).use rfl) (nf_Kg K nw_231) (nf_Kg K nx_R_at) (nf_Kg K nw_232) ⟨by decide, by decide⟩ (nf_rcv K hw (nf_ro b0) 3 (nf_heR _ _ _) rfl) rfl nl_R_at rfl d_P_endOfHead_23) (c_R_at l hfl b0 x1) nw_232 nw_3 rfl ⟨by decide, by decide⟩ (Nat.le_of_ble_eq_true rfl) hl.1 ⟨Nat.le_of_ble_eq_true rfl, Nat.le_of_ble_eq_true rfl⟩ h (fun _ _ h => h.elim) (fun r5 M6 H locs h hw => ?_)
        refine W.eq (g2 := F0 m 26 ls [.int r5]) rfl ?_
        refine lv_bipush (v := (37 : Int32)) hx hb d_P_endOfHead_26 (by decide) ?_
        refine nf_ic_eq hx hb d_P_endOfHead_28 (tgt := 37) (by decide) (fun hc => ?_) (fun hc => ?_)
        · have h := h.1 hc
          exact w_P_endOfHead_37 hfl K x1 M6 _ _ _ h (lv_sub hl [1] rfl) hw
        · have h := h.2 hc
          refine lv_iinc (k := 1) (v := x1 + (1 : Int32)) (lv' := [(1, .int (x1 + (1 : Int32))), (0, .ref (a (nf_ro b0)))]) hx hb d_P_endOfHead_31 hl rfl (nf_inc (by decide)) (by decide) rfl (fun ls hl => ?_)
          refine lv_goto hx hb d_P_endOfHead_34 (tgt := 2) (by decide) ?_
          exact ih b0 (x1 + (1 : Int32)) M6 _ _ _ h (lv_sub hl [1, 0] rfl) hw
      · have h := h.2 hc
        exact w_P_endOfHead_37 hfl K x1 M4 _ _ _ h (lv_sub hl [1] rfl) hw
    · have h := h.2 hc
      exact w_P_endOfHead_37 hfl K x1 M _ _ _ h (lv_sub hl [1] rfl) hw
theorem c_P_endOfHead (l : Launch) (hfl : l.flags = flags0) (b0 : Bool) : nf_C nf_jI l nm_P_endOfHead nb_P_endOfHead 2 (some FieldType.int) rm_P_endOfHead (fun a => [.ref (a (nf_ro b0))]) (fun M post ex => P_P_endOfHead b0 M post) := by
  refine nf_start (plainFor_of_name (by decide +kernel)) (fun a => Nat.le_of_ble_eq_true rfl) ?_
  intro D a sz M post ex p e s m below meth c ls h K hl hw
  have hx := K.1
  have hb := K.2.1
  have hl : lv_has ls 2 [(0, .ref (a (nf_ro b0)))] := hl
  refine lv_iconst (v := (0 : Int32)) hx hb d_P_endOfHead_0 (by decide) ?_
  refine lv_istore_n (lv' := [(1, .int (0 : Int32)), (0, .ref (a (nf_ro b0)))]) hx hb d_P_endOfHead_1 rfl hl (by decide) rfl (fun ls hl => ?_)
  obtain ⟨n, h⟩ := h
  exact w_P_endOfHead_2 hfl K n b0 (0 : Int32) M _ _ _ h (lv_sub hl [1, 0] rfl) hw
theorem d_P_isWholeMark_0 : decode nb_P_isWholeMark 0 = .ok (.iload_n 1, 1) := by decide +kernel
theorem d_P_isWholeMark_1 : decode nb_P_isWholeMark 1 = .ok (.bipush 44, 2) := by decide +kernel
theorem d_P_isWholeMark_3 : decode nb_P_isWholeMark 3 = .ok (.if_icmp .eq 22, 3) := by decide +kernel
theorem d_P_isWholeMark_6 : decode nb_P_isWholeMark 6 = .ok (.iload_n 1, 1) := by decide +kernel
theorem d_P_isWholeMark_7 : decode nb_P_isWholeMark 7 = .ok (.bipush 48, 2) := by decide +kernel
theorem d_P_isWholeMark_9 : decode nb_P_isWholeMark 9 = .ok (.if_icmp .eq 16, 3) := by decide +kernel
theorem d_P_isWholeMark_12 : decode nb_P_isWholeMark 12 = .ok (.iload_n 1, 1) := by decide +kernel
theorem d_P_isWholeMark_13 : decode nb_P_isWholeMark 13 = .ok (.bipush 35, 2) := by decide +kernel
theorem d_P_isWholeMark_15 : decode nb_P_isWholeMark 15 = .ok (.if_icmp .ne 14, 3) := by decide +kernel
theorem d_P_isWholeMark_18 : decode nb_P_isWholeMark 18 = .ok (.aload_n 0, 1) := by decide +kernel
theorem d_P_isWholeMark_19 : decode nb_P_isWholeMark 19 = .ok (.getfield 42, 3) := by decide +kernel
theorem d_P_isWholeMark_22 : decode nb_P_isWholeMark 22 = .ok (.ifCond .ne 7, 3) := by decide +kernel
theorem d_P_isWholeMark_25 : decode nb_P_isWholeMark 25 = .ok (.iconst 1, 1) := by decide +kernel
theorem d_P_isWholeMark_26 : decode nb_P_isWholeMark 26 = .ok (.goto 4, 3) := by decide +kernel
theorem d_P_isWholeMark_29 : decode nb_P_isWholeMark 29 = .ok (.iconst 0, 1) := by decide +kernel
theorem d_P_isWholeMark_30 : decode nb_P_isWholeMark 30 = .ok (.ireturn, 1) := by decide +kernel
abbrev rm_P_isWholeMark : Room := ({ frames := 0, cells := 0, slots := 0, locals := 0 })
theorem w_P_isWholeMark_30 {post : Int32 → nf_M → Prop} (hfl : l.flags = flags0) (K : nf_K p s m args meth c "NumberForge$Picture" nb_P_isWholeMark 2 (some FieldType.boolean) D a sz) : ∀ (xy0 : Int32) (M : nf_M) (H : Heap) (locs : List Loc) (ls : Array Slot), B_P_isWholeMark_30 post xy0 M → lv_has ls 2 [] → nf_W D a s sz H locs M → W p l e rm_P_isWholeMark s m args below meth c H locs 0 0 (nf_MQ below (nf_Q nf_jI D a post ex (nf_A a sz)) args s rm_P_isWholeMark.cells rm_P_isWholeMark.slots (nf_A a sz)) (F0 m 30 ls [.int xy0]) := by
  have hx := K.1
  have hb := K.2.1
  intro xy0 M H locs ls h hl hw
  obtain ⟨g1, h⟩ := h
  exact nf_iret K hw d_P_isWholeMark_30 g1 (Nat.le_of_ble_eq_true rfl) (Nat.le_of_ble_eq_true rfl) (r := xy0) rfl h
theorem w_P_isWholeMark_25 {post : Int32 → nf_M → Prop} (hfl : l.flags = flags0) (K : nf_K p s m args meth c "NumberForge$Picture" nb_P_isWholeMark 2 (some FieldType.boolean) D a sz) : ∀ (M : nf_M) (H : Heap) (locs : List Loc) (ls : Array Slot), B_P_isWholeMark_25 post  M → lv_has ls 2 [] → nf_W D a s sz H locs M → W p l e rm_P_isWholeMark s m args below meth c H locs 0 0 (nf_MQ below (nf_Q nf_jI D a post ex (nf_A a sz)) args s rm_P_isWholeMark.cells rm_P_isWholeMark.slots (nf_A a sz)) (F0 m 25 ls []) := by
  have hx := K.1
  have hb := K.2.1
  intro  M H locs ls h hl hw
  refine lv_iconst (v := (1 : Int32)) hx hb d_P_isWholeMark_25 (by decide) ?_
  refine lv_goto hx hb d_P_isWholeMark_26 (tgt := 30) (by decide) ?_
  exact w_P_isWholeMark_30 hfl K (1 : Int32) M _ _ _ h (lv_sub hl [] rfl) hw
theorem w_P_isWholeMark_29 {post : Int32 → nf_M → Prop} (hfl : l.flags = flags0) (K : nf_K p s m args meth c "NumberForge$Picture" nb_P_isWholeMark 2 (some FieldType.boolean) D a sz) : ∀ (M : nf_M) (H : Heap) (locs : List Loc) (ls : Array Slot), B_P_isWholeMark_29 post  M → lv_has ls 2 [] → nf_W D a s sz H locs M → W p l e rm_P_isWholeMark s m args below meth c H locs 0 0 (nf_MQ below (nf_Q nf_jI D a post ex (nf_A a sz)) args s rm_P_isWholeMark.cells rm_P_isWholeMark.slots (nf_A a sz)) (F0 m 29 ls []) := by
  have hx := K.1
  have hb := K.2.1
  intro  M H locs ls h hl hw
  refine lv_iconst (v := (0 : Int32)) hx hb d_P_isWholeMark_29 (by decide) ?_
  exact w_P_isWholeMark_30 hfl K (0 : Int32) M _ _ _ h (lv_sub hl [] rfl) hw
theorem c_P_isWholeMark (l : Launch) (hfl : l.flags = flags0) (x1 : Int32) : nf_C nf_jI l nm_P_isWholeMark nb_P_isWholeMark 2 (some FieldType.boolean) rm_P_isWholeMark (fun a => [.ref (a 7), .int x1]) (fun M post ex => P_P_isWholeMark x1 M post) := by
  refine nf_start (plainFor_of_name (by decide +kernel)) (fun a => Nat.le_of_ble_eq_true rfl) ?_
  intro D a sz M post ex p e s m below meth c ls h K hl hw
  have hx := K.1
  have hb := K.2.1
  have hl : lv_has ls 2 [(0, .ref (a 7)), (1, .int x1)] := hl
  refine lv_iload_n hx hb d_P_isWholeMark_0 rfl (lv_at hl 1 rfl) ?_
  refine lv_bipush (v := (44 : Int32)) hx hb d_P_isWholeMark_1 (by decide) ?_
  refine nf_ic_eq hx hb d_P_isWholeMark_3 (tgt := 25) (by decide) (fun hc => ?_) (fun hc => ?_)
  · have h := h.1 hc
    exact w_P_isWholeMark_25 hfl K  M _ _ _ h (lv_sub hl [] rfl) hw
  · have h := h.2 hc
    refine lv_iload_n hx hb d_P_isWholeMark_6 rfl (lv_at hl 1 rfl) ?_
    refine lv_bipush (v := (48 : Int32)) hx hb d_P_isWholeMark_7 (by decide) ?_
    refine nf_ic_eq hx hb d_P_isWholeMark_9 (tgt := 25) (by decide) (fun hc => ?_) (fun hc => ?_)
    · have h := h.1 hc
      exact w_P_isWholeMark_25 hfl K  M _ _ _ h (lv_sub hl [] rfl) hw
    · have h := h.2 hc
      refine lv_iload_n hx hb d_P_isWholeMark_12 rfl (lv_at hl 1 rfl) ?_
      refine lv_bipush (v := (35 : Int32)) hx hb d_P_isWholeMark_13 (by decide) ?_
      refine nf_ic_ne hx hb d_P_isWholeMark_15 (tgt := 29) (by decide) (fun hc => ?_) (fun hc => ?_)
      · have h := h.1 hc
        refine lv_aload_n hx hb d_P_isWholeMark_18 rfl (lv_at hl 0 rfl) ?_
        refine nf_get (v := .int (mg_I M 7 3)) K hw 7 2 3 nw_114 rfl rfl ni_P (by decide) rfl rfl d_P_isWholeMark_19 ?_
        refine nf_if_ne hx hb d_P_isWholeMark_22 (tgt := 29) (by decide) (fun hc => ?_) (fun hc => ?_)
        · have h := h.1 hc
          exact w_P_isWholeMark_25 hfl K  M _ _ _ h (lv_sub hl [] rfl) hw
        · have h := h.2 hc
          exact w_P_isWholeMark_29 hfl K  M _ _ _ h (lv_sub hl [] rfl) hw
      · have h := h.2 hc
        exact w_P_isWholeMark_29 hfl K  M _ _ _ h (lv_sub hl [] rfl) hw
theorem d_P_parseWhole_0 : decode nb_P_parseWhole 0 = .ok (.aload_n 0, 1) := by decide +kernel
theorem d_P_parseWhole_1 : decode nb_P_parseWhole 1 = .ok (.iconst 0, 1) := by decide +kernel
theorem d_P_parseWhole_2 : decode nb_P_parseWhole 2 = .ok (.putfield 39, 3) := by decide +kernel
theorem d_P_parseWhole_5 : decode nb_P_parseWhole 5 = .ok (.aload_n 0, 1) := by decide +kernel
theorem d_P_parseWhole_6 : decode nb_P_parseWhole 6 = .ok (.iconst 0, 1) := by decide +kernel
theorem d_P_parseWhole_7 : decode nb_P_parseWhole 7 = .ok (.putfield 42, 3) := by decide +kernel
theorem d_P_parseWhole_10 : decode nb_P_parseWhole 10 = .ok (.aload_n 0, 1) := by decide +kernel
theorem d_P_parseWhole_11 : decode nb_P_parseWhole 11 = .ok (.iconst 0, 1) := by decide +kernel
theorem d_P_parseWhole_12 : decode nb_P_parseWhole 12 = .ok (.putfield 60, 3) := by decide +kernel
theorem d_P_parseWhole_15 : decode nb_P_parseWhole 15 = .ok (.iconst 0, 1) := by decide +kernel
theorem d_P_parseWhole_16 : decode nb_P_parseWhole 16 = .ok (.istore_n 2, 1) := by decide +kernel
theorem d_P_parseWhole_17 : decode nb_P_parseWhole 17 = .ok (.iconst 0, 1) := by decide +kernel
theorem d_P_parseWhole_18 : decode nb_P_parseWhole 18 = .ok (.istore_n 3, 1) := by decide +kernel
theorem d_P_parseWhole_19 : decode nb_P_parseWhole 19 = .ok (.aload_n 0, 1) := by decide +kernel
theorem d_P_parseWhole_20 : decode nb_P_parseWhole 20 = .ok (.getfield 13, 3) := by decide +kernel
theorem d_P_parseWhole_23 : decode nb_P_parseWhole 23 = .ok (.istore 4, 2) := by decide +kernel
theorem d_P_parseWhole_25 : decode nb_P_parseWhole 25 = .ok (.iload 4, 2) := by decide +kernel
theorem d_P_parseWhole_27 : decode nb_P_parseWhole 27 = .ok (.aload_n 1, 1) := by decide +kernel
theorem d_P_parseWhole_28 : decode nb_P_parseWhole 28 = .ok (.getfield 53, 3) := by decide +kernel
theorem d_P_parseWhole_31 : decode nb_P_parseWhole 31 = .ok (.if_icmp .ge 93, 3) := by decide +kernel
theorem d_P_parseWhole_34 : decode nb_P_parseWhole 34 = .ok (.aload_n 0, 1) := by decide +kernel
theorem d_P_parseWhole_35 : decode nb_P_parseWhole 35 = .ok (.aload_n 1, 1) := by decide +kernel
theorem d_P_parseWhole_36 : decode nb_P_parseWhole 36 = .ok (.iload 4, 2) := by decide +kernel
theorem d_P_parseWhole_38 : decode nb_P_parseWhole 38 = .ok (.invokevirtual 26, 3) := by decide +kernel
theorem d_P_parseWhole_41 : decode nb_P_parseWhole 41 = .ok (.invokevirtual 63, 3) := by decide +kernel
theorem d_P_parseWhole_44 : decode nb_P_parseWhole 44 = .ok (.ifCond .eq 80, 3) := by decide +kernel
theorem d_P_parseWhole_47 : decode nb_P_parseWhole 47 = .ok (.aload_n 1, 1) := by decide +kernel
theorem d_P_parseWhole_48 : decode nb_P_parseWhole 48 = .ok (.iload 4, 2) := by decide +kernel
theorem d_P_parseWhole_50 : decode nb_P_parseWhole 50 = .ok (.invokevirtual 26, 3) := by decide +kernel
theorem d_P_parseWhole_53 : decode nb_P_parseWhole 53 = .ok (.bipush 44, 2) := by decide +kernel
theorem d_P_parseWhole_55 : decode nb_P_parseWhole 55 = .ok (.if_icmp .ne 10, 3) := by decide +kernel
theorem d_P_parseWhole_58 : decode nb_P_parseWhole 58 = .ok (.iconst 1, 1) := by decide +kernel
theorem d_P_parseWhole_59 : decode nb_P_parseWhole 59 = .ok (.istore_n 3, 1) := by decide +kernel
theorem d_P_parseWhole_60 : decode nb_P_parseWhole 60 = .ok (.iconst 0, 1) := by decide +kernel
theorem d_P_parseWhole_61 : decode nb_P_parseWhole 61 = .ok (.istore_n 2, 1) := by decide +kernel
theorem d_P_parseWhole_62 : decode nb_P_parseWhole 62 = .ok (.goto 56, 3) := by decide +kernel
theorem d_P_parseWhole_65 : decode nb_P_parseWhole 65 = .ok (.iinc 2 1, 3) := by decide +kernel
theorem d_P_parseWhole_68 : decode nb_P_parseWhole 68 = .ok (.aload_n 0, 1) := by decide +kernel
theorem d_P_parseWhole_69 : decode nb_P_parseWhole 69 = .ok (.dup, 1) := by decide +kernel
theorem d_P_parseWhole_70 : decode nb_P_parseWhole 70 = .ok (.getfield 39, 3) := by decide +kernel
theorem d_P_parseWhole_73 : decode nb_P_parseWhole 73 = .ok (.aload_n 1, 1) := by decide +kernel
theorem d_P_parseWhole_74 : decode nb_P_parseWhole 74 = .ok (.iload 4, 2) := by decide +kernel
theorem d_P_parseWhole_76 : decode nb_P_parseWhole 76 = .ok (.invokevirtual 26, 3) := by decide +kernel
theorem d_P_parseWhole_79 : decode nb_P_parseWhole 79 = .ok (.bipush 35, 2) := by decide +kernel
theorem d_P_parseWhole_81 : decode nb_P_parseWhole 81 = .ok (.if_icmp .ne 7, 3) := by decide +kernel
theorem d_P_parseWhole_84 : decode nb_P_parseWhole 84 = .ok (.iconst 1, 1) := by decide +kernel
theorem d_P_parseWhole_85 : decode nb_P_parseWhole 85 = .ok (.goto 4, 3) := by decide +kernel
theorem d_P_parseWhole_88 : decode nb_P_parseWhole 88 = .ok (.iconst 0, 1) := by decide +kernel
theorem d_P_parseWhole_89 : decode nb_P_parseWhole 89 = .ok (.iadd, 1) := by decide +kernel
theorem d_P_parseWhole_90 : decode nb_P_parseWhole 90 = .ok (.putfield 39, 3) := by decide +kernel
theorem d_P_parseWhole_93 : decode nb_P_parseWhole 93 = .ok (.aload_n 0, 1) := by decide +kernel
theorem d_P_parseWhole_94 : decode nb_P_parseWhole 94 = .ok (.dup, 1) := by decide +kernel
theorem d_P_parseWhole_95 : decode nb_P_parseWhole 95 = .ok (.getfield 42, 3) := by decide +kernel
theorem d_P_parseWhole_98 : decode nb_P_parseWhole 98 = .ok (.aload_n 1, 1) := by decide +kernel
theorem d_P_parseWhole_99 : decode nb_P_parseWhole 99 = .ok (.iload 4, 2) := by decide +kernel
theorem d_P_parseWhole_101 : decode nb_P_parseWhole 101 = .ok (.invokevirtual 26, 3) := by decide +kernel
theorem d_P_parseWhole_104 : decode nb_P_parseWhole 104 = .ok (.bipush 48, 2) := by decide +kernel
theorem d_P_parseWhole_106 : decode nb_P_parseWhole 106 = .ok (.if_icmp .ne 7, 3) := by decide +kernel
theorem d_P_parseWhole_109 : decode nb_P_parseWhole 109 = .ok (.iconst 1, 1) := by decide +kernel
theorem d_P_parseWhole_110 : decode nb_P_parseWhole 110 = .ok (.goto 4, 3) := by decide +kernel
theorem d_P_parseWhole_113 : decode nb_P_parseWhole 113 = .ok (.iconst 0, 1) := by decide +kernel
theorem d_P_parseWhole_114 : decode nb_P_parseWhole 114 = .ok (.iadd, 1) := by decide +kernel
theorem d_P_parseWhole_115 : decode nb_P_parseWhole 115 = .ok (.putfield 42, 3) := by decide +kernel
theorem d_P_parseWhole_118 : decode nb_P_parseWhole 118 = .ok (.iinc 4 1, 3) := by decide +kernel
theorem d_P_parseWhole_121 : decode nb_P_parseWhole 121 = .ok (.goto (-96), 3) := by decide +kernel
theorem d_P_parseWhole_124 : decode nb_P_parseWhole 124 = .ok (.aload_n 0, 1) := by decide +kernel
theorem d_P_parseWhole_125 : decode nb_P_parseWhole 125 = .ok (.iload_n 3, 1) := by decide +kernel
theorem d_P_parseWhole_126 : decode nb_P_parseWhole 126 = .ok (.ifCond .eq 7, 3) := by decide +kernel
theorem d_P_parseWhole_129 : decode nb_P_parseWhole 129 = .ok (.iload_n 2, 1) := by decide +kernel
theorem d_P_parseWhole_130 : decode nb_P_parseWhole 130 = .ok (.goto 4, 3) := by decide +kernel
theorem d_P_parseWhole_133 : decode nb_P_parseWhole 133 = .ok (.iconst 0, 1) := by decide +kernel
theorem d_P_parseWhole_134 : decode nb_P_parseWhole 134 = .ok (.putfield 60, 3) := by decide +kernel
theorem d_P_parseWhole_137 : decode nb_P_parseWhole 137 = .ok (.iload 4, 2) := by decide +kernel
theorem d_P_parseWhole_139 : decode nb_P_parseWhole 139 = .ok (.ireturn, 1) := by decide +kernel
abbrev rm_P_parseWhole : Room := ({ frames := 1, cells := 0, slots := 0, locals := 21 })
theorem w_P_parseWhole_118 {post : Int32 → nf_M → Prop} (hfl : l.flags = flags0) (K : nf_K p s m args meth c "NumberForge$Picture" nb_P_parseWhole 5 (some FieldType.int) D a sz) (k25 : Bool → Int32 → Int32 → Int32 → nf_M → Prop) (hk25 : ∀ (b1 : Bool) (x2 : Int32) (x3 : Int32) (x4 : Int32) (M : nf_M) (H : Heap) (locs : List Loc) (ls : Array Slot), k25 b1 x2 x3 x4 M → lv_has ls 5 [(0, .ref (a 7)), (1, .ref (a (nf_ro b1))), (2, .int x2), (3, .int x3), (4, .int x4)] → nf_W D a s sz H locs M → W p l e rm_P_parseWhole s m args below meth c H locs 0 0 (nf_MQ below (nf_Q nf_jI D a post ex (nf_A a sz)) args s rm_P_parseWhole.cells rm_P_parseWhole.slots (nf_A a sz)) (F0 m 25 ls [])) : ∀ (b1 : Bool) (x2 : Int32) (x3 : Int32) (x4 : Int32) (M : nf_M) (H : Heap) (locs : List Loc) (ls : Array Slot), B_P_parseWhole_118 k25 post b1 x2 x3 x4 M → lv_has ls 5 [(0, .ref (a 7)), (1, .ref (a (nf_ro b1))), (2, .int x2), (3, .int x3), (4, .int x4)] → nf_W D a s sz H locs M → W p l e rm_P_parseWhole s m args below meth c H locs 0 0 (nf_MQ below (nf_Q nf_jI D a post ex (nf_A a sz)) args s rm_P_parseWhole.cells rm_P_parseWhole.slots (nf_A a sz)) (F0 m 118 ls []) := by
  have hx := K.1
  have hb := K.2.1
  intro b1 x2 x3 x4 M H locs ls h hl hw
  refine lv_iinc (k := 4) (v := x4 + (1 : Int32)) (lv' := [(4, .int (x4 + (1 : Int32))), (0, .ref (a 7)), (1, .ref (a (nf_ro b1))), (2, .int x2), (3, .int x3)]) hx hb d_P_parseWhole_118 hl rfl (nf_inc (by decide)) (by decide) rfl (fun ls hl => ?_)
  refine lv_goto hx hb d_P_parseWhole_121 (tgt := 25) (by decide) ?_
  exact hk25 b1 x2 x3 (x4 + (1 : Int32)) M _ _ _ h (lv_sub hl [1, 2, 3, 4, 0] rfl) hw
theorem w_P_parseWhole_114 {post : Int32 → nf_M → Prop} (hfl : l.flags = flags0) (K : nf_K p s m args meth c "NumberForge$Picture" nb_P_parseWhole 5 (some FieldType.int) D a sz) (k25 : Bool → Int32 → Int32 → Int32 → nf_M → Prop) (hk25 : ∀ (b1 : Bool) (x2 : Int32) (x3 : Int32) (x4 : Int32) (M : nf_M) (H : Heap) (locs : List Loc) (ls : Array Slot), k25 b1 x2 x3 x4 M → lv_has ls 5 [(0, .ref (a 7)), (1, .ref (a (nf_ro b1))), (2, .int x2), (3, .int x3), (4, .int x4)] → nf_W D a s sz H locs M → W p l e rm_P_parseWhole s m args below meth c H locs 0 0 (nf_MQ below (nf_Q nf_jI D a post ex (nf_A a sz)) args s rm_P_parseWhole.cells rm_P_parseWhole.slots (nf_A a sz)) (F0 m 25 ls [])) : ∀ (b1 : Bool) (x2 : Int32) (x3 : Int32) (x4 : Int32) (xy0 : Int32) (xy1 : Int32) (M : nf_M) (H : Heap) (locs : List Loc) (ls : Array Slot), B_P_parseWhole_114 k25 post b1 x2 x3 x4 xy0 xy1 M → lv_has ls 5 [(0, .ref (a 7)), (1, .ref (a (nf_ro b1))), (2, .int x2), (3, .int x3), (4, .int x4)] → nf_W D a s sz H locs M → W p l e rm_P_parseWhole s m args below meth c H locs 0 0 (nf_MQ below (nf_Q nf_jI D a post ex (nf_A a sz)) args s rm_P_parseWhole.cells rm_P_parseWhole.slots (nf_A a sz)) (F0 m 114 ls [.int xy0, .int xy1, .ref (a 7)]) := by
  have hx := K.1
  have hb := K.2.1
  intro b1 x2 x3 x4 xy0 xy1 M H locs ls h hl hw
  refine lv_iadd hx hb d_P_parseWhole_114 ?_
  refine lv_topi (fun t1 et1 => ?_)
  have h := h t1 et1
  refine nf_put (M' := ms_I M 7 3 t1) K hw 7 2 3 nw_114 rfl rfl rfl ni_P ny_P nq_P nn_P (by decide) rfl rfl rfl rfl (Nat.le_of_ble_eq_true rfl) d_P_parseWhole_115 (fun H locs hw => ?_)
  obtain ⟨M2, eM2⟩ : ∃ z, z = ms_I M 7 3 t1 := ⟨_, rfl⟩
  rw [← eM2] at hw
  have h := h M2 eM2
  exact w_P_parseWhole_118 hfl K k25 hk25 b1 x2 x3 x4 M2 _ _ _ h (lv_sub hl [0, 1, 2, 3, 4] rfl) hw
theorem w_P_parseWhole_89 {post : Int32 → nf_M → Prop} (hfl : l.flags = flags0) (K : nf_K p s m args meth c "NumberForge$Picture" nb_P_parseWhole 5 (some FieldType.int) D a sz) (k25 : Bool → Int32 → Int32 → Int32 → nf_M → Prop) (hk25 : ∀ (b1 : Bool) (x2 : Int32) (x3 : Int32) (x4 : Int32) (M : nf_M) (H : Heap) (locs : List Loc) (ls : Array Slot), k25 b1 x2 x3 x4 M → lv_has ls 5 [(0, .ref (a 7)), (1, .ref (a (nf_ro b1))), (2, .int x2), (3, .int x3), (4, .int x4)] → nf_W D a s sz H locs M → W p l e rm_P_parseWhole s m args below meth c H locs 0 0 (nf_MQ below (nf_Q nf_jI D a post ex (nf_A a sz)) args s rm_P_parseWhole.cells rm_P_parseWhole.slots (nf_A a sz)) (F0 m 25 ls [])) : ∀ (b1 : Bool) (x2 : Int32) (x3 : Int32) (x4 : Int32) (xy0 : Int32) (xy1 : Int32) (M : nf_M) (H : Heap) (locs : List Loc) (ls : Array Slot), B_P_parseWhole_89 k25 post b1 x2 x3 x4 xy0 xy1 M → lv_has ls 5 [(0, .ref (a 7)), (1, .ref (a (nf_ro b1))), (2, .int x2), (3, .int x3), (4, .int x4)] → nf_W D a s sz H locs M → W p l e rm_P_parseWhole s m args below meth c H locs 0 0 (nf_MQ below (nf_Q nf_jI D a post ex (nf_A a sz)) args s rm_P_parseWhole.cells rm_P_parseWhole.slots (nf_A a sz)) (F0 m 89 ls [.int xy0, .int xy1, .ref (a 7)]) := by
  have hx := K.1
  have hb := K.2.1
  intro b1 x2 x3 x4 xy0 xy1 M H locs ls h hl hw
  refine lv_iadd hx hb d_P_parseWhole_89 ?_
  refine lv_topi (fun t1 et1 => ?_)
  have h := h t1 et1
  refine nf_put (M' := ms_I M 7 2 t1) K hw 7 2 2 nw_113 rfl rfl rfl ni_P ny_P nq_P nn_P (by decide) rfl rfl rfl rfl (Nat.le_of_ble_eq_true rfl) d_P_parseWhole_90 (fun H locs hw => ?_)
  obtain ⟨M2, eM2⟩ : ∃ z, z = ms_I M 7 2 t1 := ⟨_, rfl⟩
  rw [← eM2] at hw
  have h := h M2 eM2
  refine lv_aload_n hx hb d_P_parseWhole_93 rfl (lv_at hl 0 rfl) ?_
  refine lv_dup hx hb d_P_parseWhole_94 rfl ?_
  refine nf_get (v := .int (mg_I M2 7 3)) K hw 7 2 3 nw_114 rfl rfl ni_P (by decide) rfl rfl d_P_parseWhole_95 ?_
  refine lv_aload_n hx hb d_P_parseWhole_98 rfl (lv_at hl 1 rfl) ?_
  refine lv_iload hx hb d_P_parseWhole_99 (lv_at hl 4 rfl) ?_
  refine nf_callW (ex := (fun _ _ => False)) (As := [.ref (a (nf_ro b1)), .int x4]) (st0 := [.int x4, .ref (a (nf_ro b1)), .int (mg_I M2 7 3), .ref (a 7)]) (rest := [.int (mg_I M2 7 3), .ref (a 7)]) K hw (nf_invVN hx hb K.2.2.2.1 ((nf_Kr K nv_842).use rfl) (nf_Kg K nw_231) (nf_Kg K nx_R_at) (nf_Kg K nw_232) ⟨by decide, by decide⟩ (nf_rcv K hw (nf_ro b1) 3 (nf_heR _ _ _) rfl) rfl nl_R_at rfl d_P_parseWhole_101) (c_R_at l hfl b1 x4) nw_232 nw_3 rfl ⟨by decide, by decide⟩ (Nat.le_of_ble_eq_true rfl) hl.1 ⟨Nat.le_of_ble_eq_true rfl, Nat.le_of_ble_eq_true rfl⟩ h (fun _ _ h => h.elim) (fun r3 M4 H locs h hw => ?_)
  refine W.eq (g2 := F0 m 104 ls [.int r3, .int (mg_I M2 7 3), .ref (a 7)]) rfl ?_
  refine lv_bipush (v := (48 : Int32)) hx hb d_P_parseWhole_104 (by decide) ?_
  refine nf_ic_ne hx hb d_P_parseWhole_106 (tgt := 113) (by decide) (fun hc => ?_) (fun hc => ?_)
  · have h := h.1 hc
    refine lv_iconst (v := (1 : Int32)) hx hb d_P_parseWhole_109 (by decide) ?_
    refine lv_goto hx hb d_P_parseWhole_110 (tgt := 114) (by decide) ?_
    exact w_P_parseWhole_114 hfl K k25 hk25 b1 x2 x3 x4 (1 : Int32) (mg_I M2 7 3) M4 _ _ _ h (lv_sub hl [0, 1, 2, 3, 4] rfl) hw
  · have h := h.2 hc
    refine lv_iconst (v := (0 : Int32)) hx hb d_P_parseWhole_113 (by decide) ?_
    exact w_P_parseWhole_114 hfl K k25 hk25 b1 x2 x3 x4 (0 : Int32) (mg_I M2 7 3) M4 _ _ _ h (lv_sub hl [0, 1, 2, 3, 4] rfl) hw
theorem w_P_parseWhole_134 {post : Int32 → nf_M → Prop} (hfl : l.flags = flags0) (K : nf_K p s m args meth c "NumberForge$Picture" nb_P_parseWhole 5 (some FieldType.int) D a sz) : ∀ (x4 : Int32) (xy0 : Int32) (M : nf_M) (H : Heap) (locs : List Loc) (ls : Array Slot), B_P_parseWhole_134 post x4 xy0 M → lv_has ls 5 [(4, .int x4)] → nf_W D a s sz H locs M → W p l e rm_P_parseWhole s m args below meth c H locs 0 0 (nf_MQ below (nf_Q nf_jI D a post ex (nf_A a sz)) args s rm_P_parseWhole.cells rm_P_parseWhole.slots (nf_A a sz)) (F0 m 134 ls [.int xy0, .ref (a 7)]) := by
  have hx := K.1
  have hb := K.2.1
  intro x4 xy0 M H locs ls h hl hw
  refine nf_put (M' := ms_I M 7 4 xy0) K hw 7 2 4 nw_115 rfl rfl rfl ni_P ny_P nq_P nn_P (by decide) rfl rfl rfl rfl (Nat.le_of_ble_eq_true rfl) d_P_parseWhole_134 (fun H locs hw => ?_)
  obtain ⟨M1, eM1⟩ : ∃ z, z = ms_I M 7 4 xy0 := ⟨_, rfl⟩
  rw [← eM1] at hw
  have h := h M1 eM1
  refine lv_iload hx hb d_P_parseWhole_137 (lv_at hl 0 rfl) ?_
  exact nf_iret K hw d_P_parseWhole_139 rfl (Nat.le_of_ble_eq_true rfl) (Nat.le_of_ble_eq_true rfl) (r := x4) rfl h
theorem w_P_parseWhole_124 {post : Int32 → nf_M → Prop} (hfl : l.flags = flags0) (K : nf_K p s m args meth c "NumberForge$Picture" nb_P_parseWhole 5 (some FieldType.int) D a sz) : ∀ (x2 : Int32) (x3 : Int32) (x4 : Int32) (M : nf_M) (H : Heap) (locs : List Loc) (ls : Array Slot), B_P_parseWhole_124 post x2 x3 x4 M → lv_has ls 5 [(0, .ref (a 7)), (2, .int x2), (3, .int x3), (4, .int x4)] → nf_W D a s sz H locs M → W p l e rm_P_parseWhole s m args below meth c H locs 0 0 (nf_MQ below (nf_Q nf_jI D a post ex (nf_A a sz)) args s rm_P_parseWhole.cells rm_P_parseWhole.slots (nf_A a sz)) (F0 m 124 ls []) := by
  have hx := K.1
  have hb := K.2.1
  intro x2 x3 x4 M H locs ls h hl hw
  refine lv_aload_n hx hb d_P_parseWhole_124 rfl (lv_at hl 0 rfl) ?_
  refine lv_iload_n hx hb d_P_parseWhole_125 rfl (lv_at hl 2 rfl) ?_
  refine nf_if_eq hx hb d_P_parseWhole_126 (tgt := 133) (by decide) (fun hc => ?_) (fun hc => ?_)
  · have h := h.1 hc
    refine lv_iconst (v := (0 : Int32)) hx hb d_P_parseWhole_133 (by decide) ?_
    exact w_P_parseWhole_134 hfl K x4 (0 : Int32) M _ _ _ h (lv_sub hl [3] rfl) hw
  · have h := h.2 hc
    refine lv_iload_n hx hb d_P_parseWhole_129 rfl (lv_at hl 1 rfl) ?_
    refine lv_goto hx hb d_P_parseWhole_130 (tgt := 134) (by decide) ?_
    exact w_P_parseWhole_134 hfl K x4 x2 M _ _ _ h (lv_sub hl [3] rfl) hw
theorem w_P_parseWhole_25 {post : Int32 → nf_M → Prop} (hfl : l.flags = flags0) (K : nf_K p s m args meth c "NumberForge$Picture" nb_P_parseWhole 5 (some FieldType.int) D a sz) : ∀ (n : Nat) (b1 : Bool) (x2 : Int32) (x3 : Int32) (x4 : Int32) (M : nf_M) (H : Heap) (locs : List Loc) (ls : Array Slot), B_P_parseWhole_25 post n b1 x2 x3 x4 M → lv_has ls 5 [(0, .ref (a 7)), (1, .ref (a (nf_ro b1))), (2, .int x2), (3, .int x3), (4, .int x4)] → nf_W D a s sz H locs M → W p l e rm_P_parseWhole s m args below meth c H locs 0 0 (nf_MQ below (nf_Q nf_jI D a post ex (nf_A a sz)) args s rm_P_parseWhole.cells rm_P_parseWhole.slots (nf_A a sz)) (F0 m 25 ls []) := by
  have hx := K.1
  have hb := K.2.1
  intro n
  induction n with
  | zero => intro b1 x2 x3 x4 M H locs ls h hl hw; exact h.elim
  | succ n ih =>
    intro b1 x2 x3 x4 M H locs ls h hl hw
    refine lv_iload hx hb d_P_parseWhole_25 (lv_at hl 4 rfl) ?_
    refine lv_aload_n hx hb d_P_parseWhole_27 rfl (lv_at hl 1 rfl) ?_
    refine nf_getN (v := .int (mg_N M b1)) K hw (nf_ro b1) 3 1 nv_69 (nf_heR _ _ _) rfl ni_R (by decide) rfl rfl d_P_parseWhole_28 ?_
    refine nf_ic_ge hx hb d_P_parseWhole_31 (tgt := 124) (by decide) (fun hc => ?_) (fun hc => ?_)
    · have h := h.1 hc
      refine lv_aload_n hx hb d_P_parseWhole_34 rfl (lv_at hl 0 rfl) ?_
      refine lv_aload_n hx hb d_P_parseWhole_35 rfl (lv_at hl 1 rfl) ?_
      refine lv_iload hx hb d_P_parseWhole_36 (lv_at hl 4 rfl) ?_
      refine nf_callW (ex := (fun _ _ => False)) (As := [.ref (a (nf_ro b1)), .int x4]) (st0 := [.int x4, .ref (a (nf_ro b1)), .ref (a 7)]) (rest := [.ref (a 7)]) K hw (nf_invVN hx hb K.2.2.2.1 ((nf_Kr K nv_842).use rfl) (nf_Kg K nw_231) (nf_Kg K nx_R_at) (nf_Kg K nw_232) ⟨by decide, by decide⟩ (nf_rcv K hw (nf_ro b1) 3 (nf_heR _ _ _) rfl) rfl nl_R_at rfl d_P_parseWhole_38) (c_R_at l hfl b1 x4) nw_232 nw_3 rfl ⟨by decide, by decide⟩ (Nat.le_of_ble_eq_true rfl) hl.1 ⟨Nat.le_of_ble_eq_true rfl, Nat.le_of_ble_eq_true rfl⟩ h (fun _ _ h => h.elim) (fun r1 M2 H locs h hw => ?_)
      refine W.eq (g2 := F0 m 41 ls [.int r1, .ref (a 7)]) rfl ?_
      refine nf_callW (ex := (fun _ _ => False)) (As := [.ref (a 7), .int r1]) (st0 := [.int r1, .ref (a 7)]) (rest := []) K hw (nf_invV hx hb K.2.2.2.1 (nf_Kg K nw_850) (nf_Kg K nw_852) (nf_Kg K nx_P_isWholeMark) (nf_Kg K nw_853) ⟨by decide, by decide⟩ (nf_rcv K hw 7 2 rfl rfl) rfl nl_P_isWholeMark rfl d_P_parseWhole_41) (c_P_isWholeMark l hfl r1) nw_853 nw_6 rfl ⟨by decide, by decide⟩ (Nat.le_of_ble_eq_true rfl) hl.1 ⟨Nat.le_of_ble_eq_true rfl, Nat.le_of_ble_eq_true rfl⟩ h (fun _ _ h => h.elim) (fun r3 M4 H locs h hw => ?_)
      refine W.eq (g2 := F0 m 44 ls [.int r3]) rfl ?_
      refine nf_if_eq hx hb d_P_parseWhole_44 (tgt := 124) (by decide) (fun hc => ?_) (fun hc => ?_)
      · have h := h.1 hc
        exact w_P_parseWhole_124 hfl K x2 x3 x4 M4 _ _ _ h (lv_sub hl [0, 2, 3, 4] rfl) hw
      · have h := h.2 hc
        refine lv_aload_n hx hb d_P_parseWhole_47 rfl (lv_at hl 1 rfl) ?_
        refine lv_iload hx hb d_P_parseWhole_48 (lv_at hl 4 rfl) ?_
        refine nf_callW (ex := (fun _ _ => False)) (As := [.ref (a (nf_ro b1)), .int x4]) (st0 := [.int x4, .ref (a (nf_ro b1))]) (rest := []) K hw (nf_invVN hx hb K.2.2.2.1 ((nf_Kr K nv_842).use rfl) (nf_Kg K nw_231) (nf_Kg K nx_R_at) (nf_Kg K nw_232) ⟨by decide, by decide⟩ (nf_rcv K hw (nf_ro b1) 3 (nf_heR _ _ _) rfl) rfl nl_R_at rfl d_P_parseWhole_50) (c_R_at l hfl b1 x4) nw_232 nw_3 rfl ⟨by decide, by decide⟩ (Nat.le_of_ble_eq_true rfl) hl.1 ⟨Nat.le_of_ble_eq_true rfl, Nat.le_of_ble_eq_true rfl⟩ h (fun _ _ h => h.elim) (fun r5 M6 H locs h hw => ?_)
        refine W.eq (g2 := F0 m 53 ls [.int r5]) rfl ?_
        refine lv_bipush (v := (44 : Int32)) hx hb d_P_parseWhole_53 (by decide) ?_
        refine nf_ic_ne hx hb d_P_parseWhole_55 (tgt := 65) (by decide) (fun hc => ?_) (fun hc => ?_)
        · have h := h.1 hc
          refine lv_iconst (v := (1 : Int32)) hx hb d_P_parseWhole_58 (by decide) ?_
          refine lv_istore_n (lv' := [(3, .int (1 : Int32)), (0, .ref (a 7)), (1, .ref (a (nf_ro b1))), (2, .int x2), (4, .int x4)]) hx hb d_P_parseWhole_59 rfl hl (by decide) rfl (fun ls hl => ?_)
          refine lv_iconst (v := (0 : Int32)) hx hb d_P_parseWhole_60 (by decide) ?_
          refine lv_istore_n (lv' := [(2, .int (0 : Int32)), (3, .int (1 : Int32)), (0, .ref (a 7)), (1, .ref (a (nf_ro b1))), (4, .int x4)]) hx hb d_P_parseWhole_61 rfl hl (by decide) rfl (fun ls hl => ?_)
          refine lv_goto hx hb d_P_parseWhole_62 (tgt := 118) (by decide) ?_
          exact w_P_parseWhole_118 hfl K (fun b1 x2 x3 x4 z => B_P_parseWhole_25 post n b1 x2 x3 x4 z) (fun b1 x2 x3 x4 z H locs ls hh hll hww => ih b1 x2 x3 x4 z H locs ls hh hll hww) b1 (0 : Int32) (1 : Int32) x4 M6 _ _ _ h (lv_sub hl [2, 3, 0, 1, 4] rfl) hw
        · have h := h.2 hc
          refine lv_iinc (k := 2) (v := x2 + (1 : Int32)) (lv' := [(2, .int (x2 + (1 : Int32))), (0, .ref (a 7)), (1, .ref (a (nf_ro b1))), (3, .int x3), (4, .int x4)]) hx hb d_P_parseWhole_65 hl rfl (nf_inc (by decide)) (by decide) rfl (fun ls hl => ?_)
          refine lv_aload_n hx hb d_P_parseWhole_68 rfl (lv_at hl 1 rfl) ?_
          refine lv_dup hx hb d_P_parseWhole_69 rfl ?_
          refine nf_get (v := .int (mg_I M6 7 2)) K hw 7 2 2 nw_113 rfl rfl ni_P (by decide) rfl rfl d_P_parseWhole_70 ?_
          refine lv_aload_n hx hb d_P_parseWhole_73 rfl (lv_at hl 2 rfl) ?_
          refine lv_iload hx hb d_P_parseWhole_74 (lv_at hl 4 rfl) ?_
          refine nf_callW (ex := (fun _ _ => False)) (As := [.ref (a (nf_ro b1)), .int x4]) (st0 := [.int x4, .ref (a (nf_ro b1)), .int (mg_I M6 7 2), .ref (a 7)]) (rest := [.int (mg_I M6 7 2), .ref (a 7)]) K hw (nf_invVN hx hb K.2.2.2.1 ((nf_Kr K nv_842).use rfl) (nf_Kg K nw_231) (nf_Kg K nx_R_at) (nf_Kg K nw_232) ⟨by decide, by decide⟩ (nf_rcv K hw (nf_ro b1) 3 (nf_heR _ _ _) rfl) rfl nl_R_at rfl d_P_parseWhole_76) (c_R_at l hfl b1 x4) nw_232 nw_3 rfl ⟨by decide, by decide⟩ (Nat.le_of_ble_eq_true rfl) hl.1 ⟨Nat.le_of_ble_eq_true rfl, Nat.le_of_ble_eq_true rfl⟩ h (fun _ _ h => h.elim) (fun r7 M8 H locs h hw => ?_)
          refine W.eq (g2 := F0 m 79 ls [.int r7, .int (mg_I M6 7 2), .ref (a 7)]) rfl ?_
          refine lv_bipush (v := (35 : Int32)) hx hb d_P_parseWhole_79 (by decide) ?_
          refine nf_ic_ne hx hb d_P_parseWhole_81 (tgt := 88) (by decide) (fun hc => ?_) (fun hc => ?_)
          · have h := h.1 hc
            refine lv_iconst (v := (1 : Int32)) hx hb d_P_parseWhole_84 (by decide) ?_
            refine lv_goto hx hb d_P_parseWhole_85 (tgt := 89) (by decide) ?_
            exact w_P_parseWhole_89 hfl K (fun b1 x2 x3 x4 z => B_P_parseWhole_25 post n b1 x2 x3 x4 z) (fun b1 x2 x3 x4 z H locs ls hh hll hww => ih b1 x2 x3 x4 z H locs ls hh hll hww) b1 (x2 + (1 : Int32)) x3 x4 (1 : Int32) (mg_I M6 7 2) M8 _ _ _ h (lv_sub hl [1, 2, 0, 3, 4] rfl) hw
          · have h := h.2 hc
            refine lv_iconst (v := (0 : Int32)) hx hb d_P_parseWhole_88 (by decide) ?_
            exact w_P_parseWhole_89 hfl K (fun b1 x2 x3 x4 z => B_P_parseWhole_25 post n b1 x2 x3 x4 z) (fun b1 x2 x3 x4 z H locs ls hh hll hww => ih b1 x2 x3 x4 z H locs ls hh hll hww) b1 (x2 + (1 : Int32)) x3 x4 (0 : Int32) (mg_I M6 7 2) M8 _ _ _ h (lv_sub hl [1, 2, 0, 3, 4] rfl) hw
    · have h := h.2 hc
      exact w_P_parseWhole_124 hfl K x2 x3 x4 M _ _ _ h (lv_sub hl [0, 2, 3, 4] rfl) hw
theorem c_P_parseWhole (l : Launch) (hfl : l.flags = flags0) (b1 : Bool) : nf_C nf_jI l nm_P_parseWhole nb_P_parseWhole 5 (some FieldType.int) rm_P_parseWhole (fun a => [.ref (a 7), .ref (a (nf_ro b1))]) (fun M post ex => P_P_parseWhole b1 M post) := by
  refine nf_start (plainFor_of_name (by decide +kernel)) (fun a => Nat.le_of_ble_eq_true rfl) ?_
  intro D a sz M post ex p e s m below meth c ls h K hl hw
  have hx := K.1
  have hb := K.2.1
  have hl : lv_has ls 5 [(0, .ref (a 7)), (1, .ref (a (nf_ro b1)))] := hl
  refine lv_aload_n hx hb d_P_parseWhole_0 rfl (lv_at hl 0 rfl) ?_
  refine lv_iconst (v := (0 : Int32)) hx hb d_P_parseWhole_1 (by decide) ?_
  refine nf_put (M' := ms_I M 7 2 (0 : Int32)) K hw 7 2 2 nw_113 rfl rfl rfl ni_P ny_P nq_P nn_P (by decide) rfl rfl rfl rfl (Nat.le_of_ble_eq_true rfl) d_P_parseWhole_2 (fun H locs hw => ?_)
  obtain ⟨M1, eM1⟩ : ∃ z, z = ms_I M 7 2 (0 : Int32) := ⟨_, rfl⟩
  rw [← eM1] at hw
  have h := h M1 eM1
  refine lv_aload_n hx hb d_P_parseWhole_5 rfl (lv_at hl 0 rfl) ?_
  refine lv_iconst (v := (0 : Int32)) hx hb d_P_parseWhole_6 (by decide) ?_
  refine nf_put (M' := ms_I M1 7 3 (0 : Int32)) K hw 7 2 3 nw_114 rfl rfl rfl ni_P ny_P nq_P nn_P (by decide) rfl rfl rfl rfl (Nat.le_of_ble_eq_true rfl) d_P_parseWhole_7 (fun H locs hw => ?_)
  obtain ⟨M2, eM2⟩ : ∃ z, z = ms_I M1 7 3 (0 : Int32) := ⟨_, rfl⟩
  rw [← eM2] at hw
  have h := h M2 eM2
  refine lv_aload_n hx hb d_P_parseWhole_10 rfl (lv_at hl 0 rfl) ?_
  refine lv_iconst (v := (0 : Int32)) hx hb d_P_parseWhole_11 (by decide) ?_
  refine nf_put (M' := ms_I M2 7 4 (0 : Int32)) K hw 7 2 4 nw_115 rfl rfl rfl ni_P ny_P nq_P nn_P (by decide) rfl rfl rfl rfl (Nat.le_of_ble_eq_true rfl) d_P_parseWhole_12 (fun H locs hw => ?_)
  obtain ⟨M3, eM3⟩ : ∃ z, z = ms_I M2 7 4 (0 : Int32) := ⟨_, rfl⟩
  rw [← eM3] at hw
  have h := h M3 eM3
  refine lv_iconst (v := (0 : Int32)) hx hb d_P_parseWhole_15 (by decide) ?_
  refine lv_istore_n (lv' := [(2, .int (0 : Int32)), (0, .ref (a 7)), (1, .ref (a (nf_ro b1)))]) hx hb d_P_parseWhole_16 rfl hl (by decide) rfl (fun ls hl => ?_)
  refine lv_iconst (v := (0 : Int32)) hx hb d_P_parseWhole_17 (by decide) ?_
  refine lv_istore_n (lv' := [(3, .int (0 : Int32)), (2, .int (0 : Int32)), (0, .ref (a 7)), (1, .ref (a (nf_ro b1)))]) hx hb d_P_parseWhole_18 rfl hl (by decide) rfl (fun ls hl => ?_)
  refine lv_aload_n hx hb d_P_parseWhole_19 rfl (lv_at hl 2 rfl) ?_
  refine nf_get (v := .int (mg_I M3 7 0)) K hw 7 2 0 nw_111 rfl rfl ni_P (by decide) rfl rfl d_P_parseWhole_20 ?_
  refine lv_topi (fun t4 et4 => ?_)
  have h := h t4 et4
  refine lv_istore (lv' := [(4, .int t4), (3, .int (0 : Int32)), (2, .int (0 : Int32)), (0, .ref (a 7)), (1, .ref (a (nf_ro b1)))]) hx hb d_P_parseWhole_23 hl (by decide) rfl (fun ls hl => ?_)
  obtain ⟨n, h⟩ := h
  exact w_P_parseWhole_25 hfl K n b1 (0 : Int32) (0 : Int32) t4 M3 _ _ _ h (lv_sub hl [3, 4, 2, 1, 0] rfl) hw
theorem d_P_countOf_0 : decode nb_P_countOf 0 = .ok (.iconst 0, 1) := by decide +kernel
theorem d_P_countOf_1 : decode nb_P_countOf 1 = .ok (.istore_n 3, 1) := by decide +kernel
theorem d_P_countOf_2 : decode nb_P_countOf 2 = .ok (.iload_n 3, 1) := by decide +kernel
theorem d_P_countOf_3 : decode nb_P_countOf 3 = .ok (.aload_n 0, 1) := by decide +kernel
theorem d_P_countOf_4 : decode nb_P_countOf 4 = .ok (.getfield 53, 3) := by decide +kernel
theorem d_P_countOf_7 : decode nb_P_countOf 7 = .ok (.if_icmp .ge 20, 3) := by decide +kernel
theorem d_P_countOf_10 : decode nb_P_countOf 10 = .ok (.aload_n 0, 1) := by decide +kernel
theorem d_P_countOf_11 : decode nb_P_countOf 11 = .ok (.iload_n 2, 1) := by decide +kernel
theorem d_P_countOf_12 : decode nb_P_countOf 12 = .ok (.iload_n 3, 1) := by decide +kernel
theorem d_P_countOf_13 : decode nb_P_countOf 13 = .ok (.iadd, 1) := by decide +kernel
theorem d_P_countOf_14 : decode nb_P_countOf 14 = .ok (.invokevirtual 26, 3) := by decide +kernel
theorem d_P_countOf_17 : decode nb_P_countOf 17 = .ok (.iload_n 1, 1) := by decide +kernel
theorem d_P_countOf_18 : decode nb_P_countOf 18 = .ok (.if_icmp .ne 9, 3) := by decide +kernel
theorem d_P_countOf_21 : decode nb_P_countOf 21 = .ok (.iinc 3 1, 3) := by decide +kernel
theorem d_P_countOf_24 : decode nb_P_countOf 24 = .ok (.goto (-22), 3) := by decide +kernel
theorem d_P_countOf_27 : decode nb_P_countOf 27 = .ok (.iload_n 3, 1) := by decide +kernel
theorem d_P_countOf_28 : decode nb_P_countOf 28 = .ok (.ireturn, 1) := by decide +kernel
abbrev rm_P_countOf : Room := ({ frames := 1, cells := 0, slots := 0, locals := 21 })
theorem w_P_countOf_27 {post : Int32 → nf_M → Prop} (hfl : l.flags = flags0) (K : nf_K p s m args meth c "NumberForge$Picture" nb_P_countOf 4 (some FieldType.int) D a sz) : ∀ (x3 : Int32) (M : nf_M) (H : Heap) (locs : List Loc) (ls : Array Slot), B_P_countOf_27 post x3 M → lv_has ls 4 [(3, .int x3)] → nf_W D a s sz H locs M → W p l e rm_P_countOf s m args below meth c H locs 0 0 (nf_MQ below (nf_Q nf_jI D a post ex (nf_A a sz)) args s rm_P_countOf.cells rm_P_countOf.slots (nf_A a sz)) (F0 m 27 ls []) := by
  have hx := K.1
  have hb := K.2.1
  intro x3 M H locs ls h hl hw
  refine lv_iload_n hx hb d_P_countOf_27 rfl (lv_at hl 0 rfl) ?_
  exact nf_iret K hw d_P_countOf_28 rfl (Nat.le_of_ble_eq_true rfl) (Nat.le_of_ble_eq_true rfl) (r := x3) rfl h
theorem w_P_countOf_2 {post : Int32 → nf_M → Prop} (hfl : l.flags = flags0) (K : nf_K p s m args meth c "NumberForge$Picture" nb_P_countOf 4 (some FieldType.int) D a sz) : ∀ (n : Nat) (b0 : Bool) (x1 : Int32) (x2 : Int32) (x3 : Int32) (M : nf_M) (H : Heap) (locs : List Loc) (ls : Array Slot), B_P_countOf_2 post n b0 x1 x2 x3 M → lv_has ls 4 [(0, .ref (a (nf_ro b0))), (1, .int x1), (2, .int x2), (3, .int x3)] → nf_W D a s sz H locs M → W p l e rm_P_countOf s m args below meth c H locs 0 0 (nf_MQ below (nf_Q nf_jI D a post ex (nf_A a sz)) args s rm_P_countOf.cells rm_P_countOf.slots (nf_A a sz)) (F0 m 2 ls []) := by
  have hx := K.1
  have hb := K.2.1
  intro n
  induction n with
  | zero => intro b0 x1 x2 x3 M H locs ls h hl hw; exact h.elim
  | succ n ih =>
    intro b0 x1 x2 x3 M H locs ls h hl hw
    refine lv_iload_n hx hb d_P_countOf_2 rfl (lv_at hl 3 rfl) ?_
    refine lv_aload_n hx hb d_P_countOf_3 rfl (lv_at hl 0 rfl) ?_
    refine nf_getN (v := .int (mg_N M b0)) K hw (nf_ro b0) 3 1 nv_69 (nf_heR _ _ _) rfl ni_R (by decide) rfl rfl d_P_countOf_4 ?_
    refine nf_ic_ge hx hb d_P_countOf_7 (tgt := 27) (by decide) (fun hc => ?_) (fun hc => ?_)
    · have h := h.1 hc
      refine lv_aload_n hx hb d_P_countOf_10 rfl (lv_at hl 0 rfl) ?_
      refine lv_iload_n hx hb d_P_countOf_11 rfl (lv_at hl 2 rfl) ?_
      refine lv_iload_n hx hb d_P_countOf_12 rfl (lv_at hl 3 rfl) ?_
      refine lv_iadd hx hb d_P_countOf_13 ?_
      refine nf_callW (ex := (fun _ _ => False)) (As := [.ref (a (nf_ro b0)), .int (x2 + x3)]) (st0 := [.int (x2 + x3), .ref (a (nf_ro b0))]) (rest := []) K hw (nf_invVN hx hb K.2.2.2.1 ((nf_Kr K nv_842).use rfl) (nf_Kg K nw_231) (nf_Kg K nx_R_at) (nf_Kg K nw_232) ⟨by decide, by decide⟩ (nf_rcv K hw (nf_ro b0) 3 (nf_heR _ _ _) rfl) rfl nl_R_at rfl d_P_countOf_14) (c_R_at l hfl b0 (x2 + x3)) nw_232 nw_3 rfl ⟨by decide, by decide⟩ (Nat.le_of_ble_eq_true rfl) hl.1 ⟨Nat.le_of_ble_eq_true rfl, Nat.le_of_ble_eq_true rfl⟩ h (fun _ _ h => h.elim) (fun r1 M2 H locs h hw => ?_)
      refine W.eq (g2 := F0 m 17 ls [.int r1]) rfl ?_
      refine lv_iload_n hx hb d_P_countOf_17 rfl (lv_at hl 1 rfl) ?_
      refine nf_ic_ne hx hb d_P_countOf_18 (tgt := 27) (by decide) (fun hc => ?_) (fun hc => ?_)
      · have h := h.1 hc
        refine lv_iinc (k := 3) (v := x3 + (1 : Int32)) (lv' := [(3, .int (x3 + (1 : Int32))), (0, .ref (a (nf_ro b0))), (1, .int x1), (2, .int x2)]) hx hb d_P_countOf_21 hl rfl (nf_inc (by decide)) (by decide) rfl (fun ls hl => ?_)
        refine lv_goto hx hb d_P_countOf_24 (tgt := 2) (by decide) ?_
        exact ih b0 x1 x2 (x3 + (1 : Int32)) M2 _ _ _ h (lv_sub hl [1, 2, 3, 0] rfl) hw
      · have h := h.2 hc
        exact w_P_countOf_27 hfl K x3 M2 _ _ _ h (lv_sub hl [3] rfl) hw
    · have h := h.2 hc
      exact w_P_countOf_27 hfl K x3 M _ _ _ h (lv_sub hl [3] rfl) hw
theorem c_P_countOf (l : Launch) (hfl : l.flags = flags0) (b0 : Bool) (x1 : Int32) (x2 : Int32) : nf_C nf_jI l nm_P_countOf nb_P_countOf 4 (some FieldType.int) rm_P_countOf (fun a => [.ref (a (nf_ro b0)), .int x1, .int x2]) (fun M post ex => P_P_countOf b0 x1 x2 M post) := by
  refine nf_start (plainFor_of_name (by decide +kernel)) (fun a => Nat.le_of_ble_eq_true rfl) ?_
  intro D a sz M post ex p e s m below meth c ls h K hl hw
  have hx := K.1
  have hb := K.2.1
  have hl : lv_has ls 4 [(0, .ref (a (nf_ro b0))), (1, .int x1), (2, .int x2)] := hl
  refine lv_iconst (v := (0 : Int32)) hx hb d_P_countOf_0 (by decide) ?_
  refine lv_istore_n (lv' := [(3, .int (0 : Int32)), (0, .ref (a (nf_ro b0))), (1, .int x1), (2, .int x2)]) hx hb d_P_countOf_1 rfl hl (by decide) rfl (fun ls hl => ?_)
  obtain ⟨n, h⟩ := h
  exact w_P_countOf_2 hfl K n b0 x1 x2 (0 : Int32) M _ _ _ h (lv_sub hl [1, 2, 3, 0] rfl) hw
theorem d_P_isDigitMark_0 : decode nb_P_isDigitMark 0 = .ok (.aload_n 0, 1) := by decide +kernel
theorem d_P_isDigitMark_1 : decode nb_P_isDigitMark 1 = .ok (.iload_n 1, 1) := by decide +kernel
theorem d_P_isDigitMark_2 : decode nb_P_isDigitMark 2 = .ok (.invokevirtual 26, 3) := by decide +kernel
theorem d_P_isDigitMark_5 : decode nb_P_isDigitMark 5 = .ok (.bipush 35, 2) := by decide +kernel
theorem d_P_isDigitMark_7 : decode nb_P_isDigitMark 7 = .ok (.if_icmp .eq 13, 3) := by decide +kernel
theorem d_P_isDigitMark_10 : decode nb_P_isDigitMark 10 = .ok (.aload_n 0, 1) := by decide +kernel
theorem d_P_isDigitMark_11 : decode nb_P_isDigitMark 11 = .ok (.iload_n 1, 1) := by decide +kernel
theorem d_P_isDigitMark_12 : decode nb_P_isDigitMark 12 = .ok (.invokevirtual 26, 3) := by decide +kernel
theorem d_P_isDigitMark_15 : decode nb_P_isDigitMark 15 = .ok (.bipush 48, 2) := by decide +kernel
theorem d_P_isDigitMark_17 : decode nb_P_isDigitMark 17 = .ok (.if_icmp .ne 7, 3) := by decide +kernel
theorem d_P_isDigitMark_20 : decode nb_P_isDigitMark 20 = .ok (.iconst 1, 1) := by decide +kernel
theorem d_P_isDigitMark_21 : decode nb_P_isDigitMark 21 = .ok (.goto 4, 3) := by decide +kernel
theorem d_P_isDigitMark_24 : decode nb_P_isDigitMark 24 = .ok (.iconst 0, 1) := by decide +kernel
theorem d_P_isDigitMark_25 : decode nb_P_isDigitMark 25 = .ok (.ireturn, 1) := by decide +kernel
abbrev rm_P_isDigitMark : Room := ({ frames := 1, cells := 0, slots := 0, locals := 21 })
theorem w_P_isDigitMark_25 {post : Int32 → nf_M → Prop} (hfl : l.flags = flags0) (K : nf_K p s m args meth c "NumberForge$Picture" nb_P_isDigitMark 2 (some FieldType.boolean) D a sz) : ∀ (xy0 : Int32) (M : nf_M) (H : Heap) (locs : List Loc) (ls : Array Slot), B_P_isDigitMark_25 post xy0 M → lv_has ls 2 [] → nf_W D a s sz H locs M → W p l e rm_P_isDigitMark s m args below meth c H locs 0 0 (nf_MQ below (nf_Q nf_jI D a post ex (nf_A a sz)) args s rm_P_isDigitMark.cells rm_P_isDigitMark.slots (nf_A a sz)) (F0 m 25 ls [.int xy0]) := by
  have hx := K.1
  have hb := K.2.1
  intro xy0 M H locs ls h hl hw
  obtain ⟨g1, h⟩ := h
  exact nf_iret K hw d_P_isDigitMark_25 g1 (Nat.le_of_ble_eq_true rfl) (Nat.le_of_ble_eq_true rfl) (r := xy0) rfl h
theorem w_P_isDigitMark_20 {post : Int32 → nf_M → Prop} (hfl : l.flags = flags0) (K : nf_K p s m args meth c "NumberForge$Picture" nb_P_isDigitMark 2 (some FieldType.boolean) D a sz) : ∀ (M : nf_M) (H : Heap) (locs : List Loc) (ls : Array Slot), B_P_isDigitMark_20 post  M → lv_has ls 2 [] → nf_W D a s sz H locs M → W p l e rm_P_isDigitMark s m args below meth c H locs 0 0 (nf_MQ below (nf_Q nf_jI D a post ex (nf_A a sz)) args s rm_P_isDigitMark.cells rm_P_isDigitMark.slots (nf_A a sz)) (F0 m 20 ls []) := by
  have hx := K.1
  have hb := K.2.1
  intro  M H locs ls h hl hw
  refine lv_iconst (v := (1 : Int32)) hx hb d_P_isDigitMark_20 (by decide) ?_
  refine lv_goto hx hb d_P_isDigitMark_21 (tgt := 25) (by decide) ?_
  exact w_P_isDigitMark_25 hfl K (1 : Int32) M _ _ _ h (lv_sub hl [] rfl) hw
theorem c_P_isDigitMark (l : Launch) (hfl : l.flags = flags0) (b0 : Bool) (x1 : Int32) : nf_C nf_jI l nm_P_isDigitMark nb_P_isDigitMark 2 (some FieldType.boolean) rm_P_isDigitMark (fun a => [.ref (a (nf_ro b0)), .int x1]) (fun M post ex => P_P_isDigitMark b0 x1 M post) := by
  refine nf_start (plainFor_of_name (by decide +kernel)) (fun a => Nat.le_of_ble_eq_true rfl) ?_
  intro D a sz M post ex p e s m below meth c ls h K hl hw
  have hx := K.1
  have hb := K.2.1
  have hl : lv_has ls 2 [(0, .ref (a (nf_ro b0))), (1, .int x1)] := hl
  refine lv_aload_n hx hb d_P_isDigitMark_0 rfl (lv_at hl 0 rfl) ?_
  refine lv_iload_n hx hb d_P_isDigitMark_1 rfl (lv_at hl 1 rfl) ?_
  refine nf_callW (ex := (fun _ _ => False)) (As := [.ref (a (nf_ro b0)), .int x1]) (st0 := [.int x1, .ref (a (nf_ro b0))]) (rest := []) K hw (nf_invVN hx hb K.2.2.2.1 ((nf_Kr K nv_842).use rfl) (nf_Kg K nw_231) (nf_Kg K nx_R_at) (nf_Kg K nw_232) ⟨by decide, by decide⟩ (nf_rcv K hw (nf_ro b0) 3 (nf_heR _ _ _) rfl) rfl nl_R_at rfl d_P_isDigitMark_2) (c_R_at l hfl b0 x1) nw_232 nw_3 rfl ⟨by decide, by decide⟩ (Nat.le_of_ble_eq_true rfl) hl.1 ⟨Nat.le_of_ble_eq_true rfl, Nat.le_of_ble_eq_true rfl⟩ h (fun _ _ h => h.elim) (fun r1 M2 H locs h hw => ?_)
  refine W.eq (g2 := F0 m 5 ls [.int r1]) rfl ?_
  refine lv_bipush (v := (35 : Int32)) hx hb d_P_isDigitMark_5 (by decide) ?_
  refine nf_ic_eq hx hb d_P_isDigitMark_7 (tgt := 20) (by decide) (fun hc => ?_) (fun hc => ?_)
  · have h := h.1 hc
    exact w_P_isDigitMark_20 hfl K  M2 _ _ _ h (lv_sub hl [] rfl) hw
  · have h := h.2 hc
    refine lv_aload_n hx hb d_P_isDigitMark_10 rfl (lv_at hl 0 rfl) ?_
    refine lv_iload_n hx hb d_P_isDigitMark_11 rfl (lv_at hl 1 rfl) ?_
    refine nf_callW (ex := (fun _ _ => False)) (As := [.ref (a (nf_ro b0)), .int x1]) (st0 := [.int x1, .ref (a (nf_ro b0))]) (rest := []) K hw (nf_invVN hx hb K.2.2.2.1 ((nf_Kr K nv_842).use rfl) (nf_Kg K nw_231) (nf_Kg K nx_R_at) (nf_Kg K nw_232) ⟨by decide, by decide⟩ (nf_rcv K hw (nf_ro b0) 3 (nf_heR _ _ _) rfl) rfl nl_R_at rfl d_P_isDigitMark_12) (c_R_at l hfl b0 x1) nw_232 nw_3 rfl ⟨by decide, by decide⟩ (Nat.le_of_ble_eq_true rfl) hl.1 ⟨Nat.le_of_ble_eq_true rfl, Nat.le_of_ble_eq_true rfl⟩ h (fun _ _ h => h.elim) (fun r3 M4 H locs h hw => ?_)
    refine W.eq (g2 := F0 m 15 ls [.int r3]) rfl ?_
    refine lv_bipush (v := (48 : Int32)) hx hb d_P_isDigitMark_15 (by decide) ?_
    refine nf_ic_ne hx hb d_P_isDigitMark_17 (tgt := 24) (by decide) (fun hc => ?_) (fun hc => ?_)
    · have h := h.1 hc
      exact w_P_isDigitMark_20 hfl K  M4 _ _ _ h (lv_sub hl [] rfl) hw
    · have h := h.2 hc
      refine lv_iconst (v := (0 : Int32)) hx hb d_P_isDigitMark_24 (by decide) ?_
      exact w_P_isDigitMark_25 hfl K (0 : Int32) M4 _ _ _ h (lv_sub hl [] rfl) hw
theorem d_P_haveCommasDigits_0 : decode nb_P_haveCommasDigits 0 = .ok (.aload_n 0, 1) := by decide +kernel
theorem d_P_haveCommasDigits_1 : decode nb_P_haveCommasDigits 1 = .ok (.getfield 13, 3) := by decide +kernel
theorem d_P_haveCommasDigits_4 : decode nb_P_haveCommasDigits 4 = .ok (.istore_n 3, 1) := by decide +kernel
theorem d_P_haveCommasDigits_5 : decode nb_P_haveCommasDigits 5 = .ok (.iload_n 3, 1) := by decide +kernel
theorem d_P_haveCommasDigits_6 : decode nb_P_haveCommasDigits 6 = .ok (.iload_n 2, 1) := by decide +kernel
theorem d_P_haveCommasDigits_7 : decode nb_P_haveCommasDigits 7 = .ok (.if_icmp .ge 41, 3) := by decide +kernel
theorem d_P_haveCommasDigits_10 : decode nb_P_haveCommasDigits 10 = .ok (.aload_n 1, 1) := by decide +kernel
theorem d_P_haveCommasDigits_11 : decode nb_P_haveCommasDigits 11 = .ok (.iload_n 3, 1) := by decide +kernel
theorem d_P_haveCommasDigits_12 : decode nb_P_haveCommasDigits 12 = .ok (.invokevirtual 26, 3) := by decide +kernel
theorem d_P_haveCommasDigits_15 : decode nb_P_haveCommasDigits 15 = .ok (.bipush 44, 2) := by decide +kernel
theorem d_P_haveCommasDigits_17 : decode nb_P_haveCommasDigits 17 = .ok (.if_icmp .ne 25, 3) := by decide +kernel
theorem d_P_haveCommasDigits_20 : decode nb_P_haveCommasDigits 20 = .ok (.aload_n 1, 1) := by decide +kernel
theorem d_P_haveCommasDigits_21 : decode nb_P_haveCommasDigits 21 = .ok (.iload_n 3, 1) := by decide +kernel
theorem d_P_haveCommasDigits_22 : decode nb_P_haveCommasDigits 22 = .ok (.iconst 1, 1) := by decide +kernel
theorem d_P_haveCommasDigits_23 : decode nb_P_haveCommasDigits 23 = .ok (.isub, 1) := by decide +kernel
theorem d_P_haveCommasDigits_24 : decode nb_P_haveCommasDigits 24 = .ok (.invokestatic 66, 3) := by decide +kernel
theorem d_P_haveCommasDigits_27 : decode nb_P_haveCommasDigits 27 = .ok (.ifCond .eq 13, 3) := by decide +kernel
theorem d_P_haveCommasDigits_30 : decode nb_P_haveCommasDigits 30 = .ok (.aload_n 1, 1) := by decide +kernel
theorem d_P_haveCommasDigits_31 : decode nb_P_haveCommasDigits 31 = .ok (.iload_n 3, 1) := by decide +kernel
theorem d_P_haveCommasDigits_32 : decode nb_P_haveCommasDigits 32 = .ok (.iconst 1, 1) := by decide +kernel
theorem d_P_haveCommasDigits_33 : decode nb_P_haveCommasDigits 33 = .ok (.iadd, 1) := by decide +kernel
theorem d_P_haveCommasDigits_34 : decode nb_P_haveCommasDigits 34 = .ok (.invokestatic 66, 3) := by decide +kernel
theorem d_P_haveCommasDigits_37 : decode nb_P_haveCommasDigits 37 = .ok (.ifCond .ne 5, 3) := by decide +kernel
theorem d_P_haveCommasDigits_40 : decode nb_P_haveCommasDigits 40 = .ok (.iconst 0, 1) := by decide +kernel
theorem d_P_haveCommasDigits_41 : decode nb_P_haveCommasDigits 41 = .ok (.ireturn, 1) := by decide +kernel
theorem d_P_haveCommasDigits_42 : decode nb_P_haveCommasDigits 42 = .ok (.iinc 3 1, 3) := by decide +kernel
theorem d_P_haveCommasDigits_45 : decode nb_P_haveCommasDigits 45 = .ok (.goto (-40), 3) := by decide +kernel
theorem d_P_haveCommasDigits_48 : decode nb_P_haveCommasDigits 48 = .ok (.iconst 1, 1) := by decide +kernel
theorem d_P_haveCommasDigits_49 : decode nb_P_haveCommasDigits 49 = .ok (.ireturn, 1) := by decide +kernel
abbrev rm_P_haveCommasDigits : Room := ({ frames := 2, cells := 0, slots := 0, locals := 42 })
theorem w_P_haveCommasDigits_40 {post : Int32 → nf_M → Prop} (hfl : l.flags = flags0) (K : nf_K p s m args meth c "NumberForge$Picture" nb_P_haveCommasDigits 4 (some FieldType.boolean) D a sz) : ∀ (M : nf_M) (H : Heap) (locs : List Loc) (ls : Array Slot), B_P_haveCommasDigits_40 post  M → lv_has ls 4 [] → nf_W D a s sz H locs M → W p l e rm_P_haveCommasDigits s m args below meth c H locs 0 0 (nf_MQ below (nf_Q nf_jI D a post ex (nf_A a sz)) args s rm_P_haveCommasDigits.cells rm_P_haveCommasDigits.slots (nf_A a sz)) (F0 m 40 ls []) := by
  have hx := K.1
  have hb := K.2.1
  intro  M H locs ls h hl hw
  refine lv_iconst (v := (0 : Int32)) hx hb d_P_haveCommasDigits_40 (by decide) ?_
  exact nf_iret K hw d_P_haveCommasDigits_41 rfl (Nat.le_of_ble_eq_true rfl) (Nat.le_of_ble_eq_true rfl) (r := (0 : Int32)) rfl h
theorem w_P_haveCommasDigits_42 {post : Int32 → nf_M → Prop} (hfl : l.flags = flags0) (K : nf_K p s m args meth c "NumberForge$Picture" nb_P_haveCommasDigits 4 (some FieldType.boolean) D a sz) (k5 : Bool → Int32 → Int32 → nf_M → Prop) (hk5 : ∀ (b1 : Bool) (x2 : Int32) (x3 : Int32) (M : nf_M) (H : Heap) (locs : List Loc) (ls : Array Slot), k5 b1 x2 x3 M → lv_has ls 4 [(1, .ref (a (nf_ro b1))), (2, .int x2), (3, .int x3)] → nf_W D a s sz H locs M → W p l e rm_P_haveCommasDigits s m args below meth c H locs 0 0 (nf_MQ below (nf_Q nf_jI D a post ex (nf_A a sz)) args s rm_P_haveCommasDigits.cells rm_P_haveCommasDigits.slots (nf_A a sz)) (F0 m 5 ls [])) : ∀ (b1 : Bool) (x2 : Int32) (x3 : Int32) (M : nf_M) (H : Heap) (locs : List Loc) (ls : Array Slot), B_P_haveCommasDigits_42 k5 post b1 x2 x3 M → lv_has ls 4 [(1, .ref (a (nf_ro b1))), (2, .int x2), (3, .int x3)] → nf_W D a s sz H locs M → W p l e rm_P_haveCommasDigits s m args below meth c H locs 0 0 (nf_MQ below (nf_Q nf_jI D a post ex (nf_A a sz)) args s rm_P_haveCommasDigits.cells rm_P_haveCommasDigits.slots (nf_A a sz)) (F0 m 42 ls []) := by
  have hx := K.1
  have hb := K.2.1
  intro b1 x2 x3 M H locs ls h hl hw
  refine lv_iinc (k := 2) (v := x3 + (1 : Int32)) (lv' := [(3, .int (x3 + (1 : Int32))), (1, .ref (a (nf_ro b1))), (2, .int x2)]) hx hb d_P_haveCommasDigits_42 hl rfl (nf_inc (by decide)) (by decide) rfl (fun ls hl => ?_)
  refine lv_goto hx hb d_P_haveCommasDigits_45 (tgt := 5) (by decide) ?_
  exact hk5 b1 x2 (x3 + (1 : Int32)) M _ _ _ h (lv_sub hl [1, 2, 0] rfl) hw
theorem w_P_haveCommasDigits_5 {post : Int32 → nf_M → Prop} (hfl : l.flags = flags0) (K : nf_K p s m args meth c "NumberForge$Picture" nb_P_haveCommasDigits 4 (some FieldType.boolean) D a sz) : ∀ (n : Nat) (b1 : Bool) (x2 : Int32) (x3 : Int32) (M : nf_M) (H : Heap) (locs : List Loc) (ls : Array Slot), B_P_haveCommasDigits_5 post n b1 x2 x3 M → lv_has ls 4 [(1, .ref (a (nf_ro b1))), (2, .int x2), (3, .int x3)] → nf_W D a s sz H locs M → W p l e rm_P_haveCommasDigits s m args below meth c H locs 0 0 (nf_MQ below (nf_Q nf_jI D a post ex (nf_A a sz)) args s rm_P_haveCommasDigits.cells rm_P_haveCommasDigits.slots (nf_A a sz)) (F0 m 5 ls []) := by
  have hx := K.1
  have hb := K.2.1
  intro n
  induction n with
  | zero => intro b1 x2 x3 M H locs ls h hl hw; exact h.elim
  | succ n ih =>
    intro b1 x2 x3 M H locs ls h hl hw
    refine lv_iload_n hx hb d_P_haveCommasDigits_5 rfl (lv_at hl 2 rfl) ?_
    refine lv_iload_n hx hb d_P_haveCommasDigits_6 rfl (lv_at hl 1 rfl) ?_
    refine nf_ic_ge hx hb d_P_haveCommasDigits_7 (tgt := 48) (by decide) (fun hc => ?_) (fun hc => ?_)
    · have h := h.1 hc
      refine lv_aload_n hx hb d_P_haveCommasDigits_10 rfl (lv_at hl 0 rfl) ?_
      refine lv_iload_n hx hb d_P_haveCommasDigits_11 rfl (lv_at hl 2 rfl) ?_
      refine nf_callW (ex := (fun _ _ => False)) (As := [.ref (a (nf_ro b1)), .int x3]) (st0 := [.int x3, .ref (a (nf_ro b1))]) (rest := []) K hw (nf_invVN hx hb K.2.2.2.1 ((nf_Kr K nv_842).use rfl) (nf_Kg K nw_231) (nf_Kg K nx_R_at) (nf_Kg K nw_232) ⟨by decide, by decide⟩ (nf_rcv K hw (nf_ro b1) 3 (nf_heR _ _ _) rfl) rfl nl_R_at rfl d_P_haveCommasDigits_12) (c_R_at l hfl b1 x3) nw_232 nw_3 rfl ⟨by decide, by decide⟩ (Nat.le_of_ble_eq_true rfl) hl.1 ⟨Nat.le_of_ble_eq_true rfl, Nat.le_of_ble_eq_true rfl⟩ h (fun _ _ h => h.elim) (fun r1 M2 H locs h hw => ?_)
      refine W.eq (g2 := F0 m 15 ls [.int r1]) rfl ?_
      refine lv_bipush (v := (44 : Int32)) hx hb d_P_haveCommasDigits_15 (by decide) ?_
      refine nf_ic_ne hx hb d_P_haveCommasDigits_17 (tgt := 42) (by decide) (fun hc => ?_) (fun hc => ?_)
      · have h := h.1 hc
        refine lv_aload_n hx hb d_P_haveCommasDigits_20 rfl (lv_at hl 0 rfl) ?_
        refine lv_iload_n hx hb d_P_haveCommasDigits_21 rfl (lv_at hl 2 rfl) ?_
        refine lv_iconst (v := (1 : Int32)) hx hb d_P_haveCommasDigits_22 (by decide) ?_
        refine lv_isub hx hb d_P_haveCommasDigits_23 ?_
        refine nf_callW (ex := (fun _ _ => False)) (As := [.ref (a (nf_ro b1)), .int (x3 - (1 : Int32))]) (st0 := [.int (x3 - (1 : Int32)), .ref (a (nf_ro b1))]) (rest := []) K hw (nf_invS hx hb K.2.2.2.1 (nf_Kg K nw_861) (nf_Kg K nw_862) (nf_Kg K nw_6) (nf_Kg K nw_863) ⟨by decide, by decide⟩ rfl nl_P_isDigitMark rfl d_P_haveCommasDigits_24) (c_P_isDigitMark l hfl b1 (x3 - (1 : Int32))) nw_863 nw_6 rfl ⟨by decide, by decide⟩ (Nat.le_of_ble_eq_true rfl) hl.1 ⟨Nat.le_of_ble_eq_true rfl, Nat.le_of_ble_eq_true rfl⟩ h (fun _ _ h => h.elim) (fun r3 M4 H locs h hw => ?_)
        refine W.eq (g2 := F0 m 27 ls [.int r3]) rfl ?_
        refine nf_if_eq hx hb d_P_haveCommasDigits_27 (tgt := 40) (by decide) (fun hc => ?_) (fun hc => ?_)
        · have h := h.1 hc
          exact w_P_haveCommasDigits_40 hfl K  M4 _ _ _ h (lv_sub hl [] rfl) hw
        · have h := h.2 hc
          refine lv_aload_n hx hb d_P_haveCommasDigits_30 rfl (lv_at hl 0 rfl) ?_
          refine lv_iload_n hx hb d_P_haveCommasDigits_31 rfl (lv_at hl 2 rfl) ?_
          refine lv_iconst (v := (1 : Int32)) hx hb d_P_haveCommasDigits_32 (by decide) ?_
          refine lv_iadd hx hb d_P_haveCommasDigits_33 ?_
          refine nf_callW (ex := (fun _ _ => False)) (As := [.ref (a (nf_ro b1)), .int (x3 + (1 : Int32))]) (st0 := [.int (x3 + (1 : Int32)), .ref (a (nf_ro b1))]) (rest := []) K hw (nf_invS hx hb K.2.2.2.1 (nf_Kg K nw_861) (nf_Kg K nw_862) (nf_Kg K nw_6) (nf_Kg K nw_863) ⟨by decide, by decide⟩ rfl nl_P_isDigitMark rfl d_P_haveCommasDigits_34) (c_P_isDigitMark l hfl b1 (x3 + (1 : Int32))) nw_863 nw_6 rfl ⟨by decide, by decide⟩ (Nat.le_of_ble_eq_true rfl) hl.1 ⟨Nat.le_of_ble_eq_true rfl, Nat.le_of_ble_eq_true rfl⟩ h (fun _ _ h => h.elim) (fun r5 M6 H locs h hw => ?_)
          refine W.eq (g2 := F0 m 37 ls [.int r5]) rfl ?_
          refine nf_if_ne hx hb d_P_haveCommasDigits_37 (tgt := 42) (by decide) (fun hc => ?_) (fun hc => ?_)
          · have h := h.1 hc
            exact w_P_haveCommasDigits_40 hfl K  M6 _ _ _ h (lv_sub hl [] rfl) hw
          · have h := h.2 hc
            exact w_P_haveCommasDigits_42 hfl K (fun b1 x2 x3 z => B_P_haveCommasDigits_5 post n b1 x2 x3 z) (fun b1 x2 x3 z H locs ls hh hll hww => ih b1 x2 x3 z H locs ls hh hll hww) b1 x2 x3 M6 _ _ _ h (lv_sub hl [0, 1, 2] rfl) hw
      · have h := h.2 hc
        exact w_P_haveCommasDigits_42 hfl K (fun b1 x2 x3 z => B_P_haveCommasDigits_5 post n b1 x2 x3 z) (fun b1 x2 x3 z H locs ls hh hll hww => ih b1 x2 x3 z H locs ls hh hll hww) b1 x2 x3 M2 _ _ _ h (lv_sub hl [0, 1, 2] rfl) hw
    · have h := h.2 hc
      refine lv_iconst (v := (1 : Int32)) hx hb d_P_haveCommasDigits_48 (by decide) ?_
      exact nf_iret K hw d_P_haveCommasDigits_49 rfl (Nat.le_of_ble_eq_true rfl) (Nat.le_of_ble_eq_true rfl) (r := (1 : Int32)) rfl h
theorem c_P_haveCommasDigits (l : Launch) (hfl : l.flags = flags0) (b1 : Bool) (x2 : Int32) : nf_C nf_jI l nm_P_haveCommasDigits nb_P_haveCommasDigits 4 (some FieldType.boolean) rm_P_haveCommasDigits (fun a => [.ref (a 7), .ref (a (nf_ro b1)), .int x2]) (fun M post ex => P_P_haveCommasDigits b1 x2 M post) := by
  refine nf_start (plainFor_of_name (by decide +kernel)) (fun a => Nat.le_of_ble_eq_true rfl) ?_
  intro D a sz M post ex p e s m below meth c ls h K hl hw
  have hx := K.1
  have hb := K.2.1
  have hl : lv_has ls 4 [(0, .ref (a 7)), (1, .ref (a (nf_ro b1))), (2, .int x2)] := hl
  refine lv_aload_n hx hb d_P_haveCommasDigits_0 rfl (lv_at hl 0 rfl) ?_
  refine nf_get (v := .int (mg_I M 7 0)) K hw 7 2 0 nw_111 rfl rfl ni_P (by decide) rfl rfl d_P_haveCommasDigits_1 ?_
  refine lv_topi (fun t1 et1 => ?_)
  have h := h t1 et1
  refine lv_istore_n (lv' := [(3, .int t1), (0, .ref (a 7)), (1, .ref (a (nf_ro b1))), (2, .int x2)]) hx hb d_P_haveCommasDigits_4 rfl hl (by decide) rfl (fun ls hl => ?_)
  obtain ⟨n, h⟩ := h
  exact w_P_haveCommasDigits_5 hfl K n b1 x2 t1 M _ _ _ h (lv_sub hl [2, 3, 0] rfl) hw
theorem d_P_isTail_0 : decode nb_P_isTail 0 = .ok (.aload_n 0, 1) := by decide +kernel
theorem d_P_isTail_1 : decode nb_P_isTail 1 = .ok (.iconst 0, 1) := by decide +kernel
theorem d_P_isTail_2 : decode nb_P_isTail 2 = .ok (.putfield 69, 3) := by decide +kernel
theorem d_P_isTail_5 : decode nb_P_isTail 5 = .ok (.aload_n 0, 1) := by decide +kernel
theorem d_P_isTail_6 : decode nb_P_isTail 6 = .ok (.getfield 36, 3) := by decide +kernel
theorem d_P_isTail_9 : decode nb_P_isTail 9 = .ok (.istore_n 2, 1) := by decide +kernel
theorem d_P_isTail_10 : decode nb_P_isTail 10 = .ok (.iload_n 2, 1) := by decide +kernel
theorem d_P_isTail_11 : decode nb_P_isTail 11 = .ok (.aload_n 1, 1) := by decide +kernel
theorem d_P_isTail_12 : decode nb_P_isTail 12 = .ok (.getfield 53, 3) := by decide +kernel
theorem d_P_isTail_15 : decode nb_P_isTail 15 = .ok (.if_icmp .ge 48, 3) := by decide +kernel
theorem d_P_isTail_18 : decode nb_P_isTail 18 = .ok (.aload_n 1, 1) := by decide +kernel
theorem d_P_isTail_19 : decode nb_P_isTail 19 = .ok (.iload_n 2, 1) := by decide +kernel
theorem d_P_isTail_20 : decode nb_P_isTail 20 = .ok (.invokevirtual 26, 3) := by decide +kernel
theorem d_P_isTail_23 : decode nb_P_isTail 23 = .ok (.invokestatic 56, 3) := by decide +kernel
theorem d_P_isTail_26 : decode nb_P_isTail 26 = .ok (.ifCond .eq 5, 3) := by decide +kernel
theorem d_P_isTail_29 : decode nb_P_isTail 29 = .ok (.iconst 0, 1) := by decide +kernel
theorem d_P_isTail_30 : decode nb_P_isTail 30 = .ok (.ireturn, 1) := by decide +kernel
theorem d_P_isTail_31 : decode nb_P_isTail 31 = .ok (.aload_n 0, 1) := by decide +kernel
theorem d_P_isTail_32 : decode nb_P_isTail 32 = .ok (.aload_n 0, 1) := by decide +kernel
theorem d_P_isTail_33 : decode nb_P_isTail 33 = .ok (.getfield 69, 3) := by decide +kernel
theorem d_P_isTail_36 : decode nb_P_isTail 36 = .ok (.ifCond .ne 13, 3) := by decide +kernel
theorem d_P_isTail_39 : decode nb_P_isTail 39 = .ok (.aload_n 1, 1) := by decide +kernel
theorem d_P_isTail_40 : decode nb_P_isTail 40 = .ok (.iload_n 2, 1) := by decide +kernel
theorem d_P_isTail_41 : decode nb_P_isTail 41 = .ok (.invokevirtual 26, 3) := by decide +kernel
theorem d_P_isTail_44 : decode nb_P_isTail 44 = .ok (.bipush 37, 2) := by decide +kernel
theorem d_P_isTail_46 : decode nb_P_isTail 46 = .ok (.if_icmp .ne 7, 3) := by decide +kernel
theorem d_P_isTail_49 : decode nb_P_isTail 49 = .ok (.iconst 1, 1) := by decide +kernel
theorem d_P_isTail_50 : decode nb_P_isTail 50 = .ok (.goto 4, 3) := by decide +kernel
theorem d_P_isTail_53 : decode nb_P_isTail 53 = .ok (.iconst 0, 1) := by decide +kernel
theorem d_P_isTail_54 : decode nb_P_isTail 54 = .ok (.putfield 69, 3) := by decide +kernel
theorem d_P_isTail_57 : decode nb_P_isTail 57 = .ok (.iinc 2 1, 3) := by decide +kernel
theorem d_P_isTail_60 : decode nb_P_isTail 60 = .ok (.goto (-50), 3) := by decide +kernel
theorem d_P_isTail_63 : decode nb_P_isTail 63 = .ok (.iconst 1, 1) := by decide +kernel
theorem d_P_isTail_64 : decode nb_P_isTail 64 = .ok (.ireturn, 1) := by decide +kernel
abbrev rm_P_isTail : Room := ({ frames := 1, cells := 0, slots := 0, locals := 21 })
theorem w_P_isTail_54 {post : Int32 → nf_M → Prop} (hfl : l.flags = flags0) (K : nf_K p s m args meth c "NumberForge$Picture" nb_P_isTail 3 (some FieldType.boolean) D a sz) (k10 : Bool → Int32 → nf_M → Prop) (hk10 : ∀ (b1 : Bool) (x2 : Int32) (M : nf_M) (H : Heap) (locs : List Loc) (ls : Array Slot), k10 b1 x2 M → lv_has ls 3 [(0, .ref (a 7)), (1, .ref (a (nf_ro b1))), (2, .int x2)] → nf_W D a s sz H locs M → W p l e rm_P_isTail s m args below meth c H locs 0 0 (nf_MQ below (nf_Q nf_jI D a post ex (nf_A a sz)) args s rm_P_isTail.cells rm_P_isTail.slots (nf_A a sz)) (F0 m 10 ls [])) : ∀ (b1 : Bool) (x2 : Int32) (xy0 : Int32) (M : nf_M) (H : Heap) (locs : List Loc) (ls : Array Slot), B_P_isTail_54 k10 post b1 x2 xy0 M → lv_has ls 3 [(0, .ref (a 7)), (1, .ref (a (nf_ro b1))), (2, .int x2)] → nf_W D a s sz H locs M → W p l e rm_P_isTail s m args below meth c H locs 0 0 (nf_MQ below (nf_Q nf_jI D a post ex (nf_A a sz)) args s rm_P_isTail.cells rm_P_isTail.slots (nf_A a sz)) (F0 m 54 ls [.int xy0, .ref (a 7)]) := by
  have hx := K.1
  have hb := K.2.1
  intro b1 x2 xy0 M H locs ls h hl hw
  obtain ⟨g1, h⟩ := h
  refine nf_put (M' := ms_I M 7 7 xy0) K hw 7 2 7 nw_120 rfl rfl rfl ni_P ny_P nq_P nn_P (by decide) rfl rfl g1.1 g1.2 (Nat.le_of_ble_eq_true rfl) d_P_isTail_54 (fun H locs hw => ?_)
  obtain ⟨M2, eM2⟩ : ∃ z, z = ms_I M 7 7 xy0 := ⟨_, rfl⟩
  rw [← eM2] at hw
  have h := h M2 eM2
  refine lv_iinc (k := 2) (v := x2 + (1 : Int32)) (lv' := [(2, .int (x2 + (1 : Int32))), (0, .ref (a 7)), (1, .ref (a (nf_ro b1)))]) hx hb d_P_isTail_57 hl rfl (nf_inc (by decide)) (by decide) rfl (fun ls hl => ?_)
  refine lv_goto hx hb d_P_isTail_60 (tgt := 10) (by decide) ?_
  exact hk10 b1 (x2 + (1 : Int32)) M2 _ _ _ h (lv_sub hl [1, 2, 0] rfl) hw
theorem w_P_isTail_49 {post : Int32 → nf_M → Prop} (hfl : l.flags = flags0) (K : nf_K p s m args meth c "NumberForge$Picture" nb_P_isTail 3 (some FieldType.boolean) D a sz) (k10 : Bool → Int32 → nf_M → Prop) (hk10 : ∀ (b1 : Bool) (x2 : Int32) (M : nf_M) (H : Heap) (locs : List Loc) (ls : Array Slot), k10 b1 x2 M → lv_has ls 3 [(0, .ref (a 7)), (1, .ref (a (nf_ro b1))), (2, .int x2)] → nf_W D a s sz H locs M → W p l e rm_P_isTail s m args below meth c H locs 0 0 (nf_MQ below (nf_Q nf_jI D a post ex (nf_A a sz)) args s rm_P_isTail.cells rm_P_isTail.slots (nf_A a sz)) (F0 m 10 ls [])) : ∀ (b1 : Bool) (x2 : Int32) (M : nf_M) (H : Heap) (locs : List Loc) (ls : Array Slot), B_P_isTail_49 k10 post b1 x2 M → lv_has ls 3 [(0, .ref (a 7)), (1, .ref (a (nf_ro b1))), (2, .int x2)] → nf_W D a s sz H locs M → W p l e rm_P_isTail s m args below meth c H locs 0 0 (nf_MQ below (nf_Q nf_jI D a post ex (nf_A a sz)) args s rm_P_isTail.cells rm_P_isTail.slots (nf_A a sz)) (F0 m 49 ls [.ref (a 7)]) := by
  have hx := K.1
  have hb := K.2.1
  intro b1 x2 M H locs ls h hl hw
  refine lv_iconst (v := (1 : Int32)) hx hb d_P_isTail_49 (by decide) ?_
  refine lv_goto hx hb d_P_isTail_50 (tgt := 54) (by decide) ?_
  exact w_P_isTail_54 hfl K k10 hk10 b1 x2 (1 : Int32) M _ _ _ h (lv_sub hl [0, 1, 2] rfl) hw
theorem w_P_isTail_10 {post : Int32 → nf_M → Prop} (hfl : l.flags = flags0) (K : nf_K p s m args meth c "NumberForge$Picture" nb_P_isTail 3 (some FieldType.boolean) D a sz) : ∀ (n : Nat) (b1 : Bool) (x2 : Int32) (M : nf_M) (H : Heap) (locs : List Loc) (ls : Array Slot), B_P_isTail_10 post n b1 x2 M → lv_has ls 3 [(0, .ref (a 7)), (1, .ref (a (nf_ro b1))), (2, .int x2)] → nf_W D a s sz H locs M → W p l e rm_P_isTail s m args below meth c H locs 0 0 (nf_MQ below (nf_Q nf_jI D a post ex (nf_A a sz)) args s rm_P_isTail.cells rm_P_isTail.slots (nf_A a sz)) (F0 m 10 ls []) := by
  have hx := K.1
  have hb := K.2.1
  intro n
  induction n with
  | zero => intro b1 x2 M H locs ls h hl hw; exact h.elim
  | succ n ih =>
    intro b1 x2 M H locs ls h hl hw
    refine lv_iload_n hx hb d_P_isTail_10 rfl (lv_at hl 2 rfl) ?_
    refine lv_aload_n hx hb d_P_isTail_11 rfl (lv_at hl 1 rfl) ?_
    refine nf_getN (v := .int (mg_N M b1)) K hw (nf_ro b1) 3 1 nv_69 (nf_heR _ _ _) rfl ni_R (by decide) rfl rfl d_P_isTail_12 ?_
    refine nf_ic_ge hx hb d_P_isTail_15 (tgt := 63) (by decide) (fun hc => ?_) (fun hc => ?_)
    · have h := h.1 hc
      refine lv_aload_n hx hb d_P_isTail_18 rfl (lv_at hl 1 rfl) ?_
      refine lv_iload_n hx hb d_P_isTail_19 rfl (lv_at hl 2 rfl) ?_
      refine nf_callW (ex := (fun _ _ => False)) (As := [.ref (a (nf_ro b1)), .int x2]) (st0 := [.int x2, .ref (a (nf_ro b1))]) (rest := []) K hw (nf_invVN hx hb K.2.2.2.1 ((nf_Kr K nv_842).use rfl) (nf_Kg K nw_231) (nf_Kg K nx_R_at) (nf_Kg K nw_232) ⟨by decide, by decide⟩ (nf_rcv K hw (nf_ro b1) 3 (nf_heR _ _ _) rfl) rfl nl_R_at rfl d_P_isTail_20) (c_R_at l hfl b1 x2) nw_232 nw_3 rfl ⟨by decide, by decide⟩ (Nat.le_of_ble_eq_true rfl) hl.1 ⟨Nat.le_of_ble_eq_true rfl, Nat.le_of_ble_eq_true rfl⟩ h (fun _ _ h => h.elim) (fun r1 M2 H locs h hw => ?_)
      refine W.eq (g2 := F0 m 23 ls [.int r1]) rfl ?_
      refine nf_callW (ex := (fun _ _ => False)) (As := [.int r1]) (st0 := [.int r1]) (rest := []) K hw (nf_invS hx hb K.2.2.2.1 (nf_Kg K nw_843) (nf_Kg K nw_844) (nf_Kg K nw_6) (nf_Kg K nw_845) ⟨by decide, by decide⟩ rfl nl_P_isMark rfl d_P_isTail_23) (c_P_isMark l hfl r1) nw_845 nw_6 rfl ⟨by decide, by decide⟩ (Nat.le_of_ble_eq_true rfl) hl.1 ⟨Nat.le_of_ble_eq_true rfl, Nat.le_of_ble_eq_true rfl⟩ h (fun _ _ h => h.elim) (fun r3 M4 H locs h hw => ?_)
      refine W.eq (g2 := F0 m 26 ls [.int r3]) rfl ?_
      refine nf_if_eq hx hb d_P_isTail_26 (tgt := 31) (by decide) (fun hc => ?_) (fun hc => ?_)
      · have h := h.1 hc
        refine lv_aload_n hx hb d_P_isTail_31 rfl (lv_at hl 0 rfl) ?_
        refine lv_aload_n hx hb d_P_isTail_32 rfl (lv_at hl 0 rfl) ?_
        refine nf_get (v := .int (mg_I M4 7 7)) K hw 7 2 7 nw_120 rfl rfl ni_P (by decide) rfl rfl d_P_isTail_33 ?_
        refine nf_if_ne hx hb d_P_isTail_36 (tgt := 49) (by decide) (fun hc => ?_) (fun hc => ?_)
        · have h := h.1 hc
          refine lv_aload_n hx hb d_P_isTail_39 rfl (lv_at hl 1 rfl) ?_
          refine lv_iload_n hx hb d_P_isTail_40 rfl (lv_at hl 2 rfl) ?_
          refine nf_callW (ex := (fun _ _ => False)) (As := [.ref (a (nf_ro b1)), .int x2]) (st0 := [.int x2, .ref (a (nf_ro b1)), .ref (a 7)]) (rest := [.ref (a 7)]) K hw (nf_invVN hx hb K.2.2.2.1 ((nf_Kr K nv_842).use rfl) (nf_Kg K nw_231) (nf_Kg K nx_R_at) (nf_Kg K nw_232) ⟨by decide, by decide⟩ (nf_rcv K hw (nf_ro b1) 3 (nf_heR _ _ _) rfl) rfl nl_R_at rfl d_P_isTail_41) (c_R_at l hfl b1 x2) nw_232 nw_3 rfl ⟨by decide, by decide⟩ (Nat.le_of_ble_eq_true rfl) hl.1 ⟨Nat.le_of_ble_eq_true rfl, Nat.le_of_ble_eq_true rfl⟩ h (fun _ _ h => h.elim) (fun r5 M6 H locs h hw => ?_)
          refine W.eq (g2 := F0 m 44 ls [.int r5, .ref (a 7)]) rfl ?_
          refine lv_bipush (v := (37 : Int32)) hx hb d_P_isTail_44 (by decide) ?_
          refine nf_ic_ne hx hb d_P_isTail_46 (tgt := 53) (by decide) (fun hc => ?_) (fun hc => ?_)
          · have h := h.1 hc
            exact w_P_isTail_49 hfl K (fun b1 x2 z => B_P_isTail_10 post n b1 x2 z) (fun b1 x2 z H locs ls hh hll hww => ih b1 x2 z H locs ls hh hll hww) b1 x2 M6 _ _ _ h (lv_sub hl [0, 1, 2] rfl) hw
          · have h := h.2 hc
            refine lv_iconst (v := (0 : Int32)) hx hb d_P_isTail_53 (by decide) ?_
            exact w_P_isTail_54 hfl K (fun b1 x2 z => B_P_isTail_10 post n b1 x2 z) (fun b1 x2 z H locs ls hh hll hww => ih b1 x2 z H locs ls hh hll hww) b1 x2 (0 : Int32) M6 _ _ _ h (lv_sub hl [0, 1, 2] rfl) hw
        · have h := h.2 hc
          exact w_P_isTail_49 hfl K (fun b1 x2 z => B_P_isTail_10 post n b1 x2 z) (fun b1 x2 z H locs ls hh hll hww => ih b1 x2 z H locs ls hh hll hww) b1 x2 M4 _ _ _ h (lv_sub hl [0, 1, 2] rfl) hw
      · have h := h.2 hc
        refine lv_iconst (v := (0 : Int32)) hx hb d_P_isTail_29 (by decide) ?_
        exact nf_iret K hw d_P_isTail_30 rfl (Nat.le_of_ble_eq_true rfl) (Nat.le_of_ble_eq_true rfl) (r := (0 : Int32)) rfl h
    · have h := h.2 hc
      refine lv_iconst (v := (1 : Int32)) hx hb d_P_isTail_63 (by decide) ?_
      exact nf_iret K hw d_P_isTail_64 rfl (Nat.le_of_ble_eq_true rfl) (Nat.le_of_ble_eq_true rfl) (r := (1 : Int32)) rfl h
theorem c_P_isTail (l : Launch) (hfl : l.flags = flags0) (b1 : Bool) : nf_C nf_jI l nm_P_isTail nb_P_isTail 3 (some FieldType.boolean) rm_P_isTail (fun a => [.ref (a 7), .ref (a (nf_ro b1))]) (fun M post ex => P_P_isTail b1 M post) := by
  refine nf_start (plainFor_of_name (by decide +kernel)) (fun a => Nat.le_of_ble_eq_true rfl) ?_
  intro D a sz M post ex p e s m below meth c ls h K hl hw
  have hx := K.1
  have hb := K.2.1
  have hl : lv_has ls 3 [(0, .ref (a 7)), (1, .ref (a (nf_ro b1)))] := hl
  refine lv_aload_n hx hb d_P_isTail_0 rfl (lv_at hl 0 rfl) ?_
  refine lv_iconst (v := (0 : Int32)) hx hb d_P_isTail_1 (by decide) ?_
  refine nf_put (M' := ms_I M 7 7 (0 : Int32)) K hw 7 2 7 nw_120 rfl rfl rfl ni_P ny_P nq_P nn_P (by decide) rfl rfl rfl rfl (Nat.le_of_ble_eq_true rfl) d_P_isTail_2 (fun H locs hw => ?_)
  obtain ⟨M1, eM1⟩ : ∃ z, z = ms_I M 7 7 (0 : Int32) := ⟨_, rfl⟩
  rw [← eM1] at hw
  have h := h M1 eM1
  refine lv_aload_n hx hb d_P_isTail_5 rfl (lv_at hl 0 rfl) ?_
  refine nf_get (v := .int (mg_I M1 7 1)) K hw 7 2 1 nw_112 rfl rfl ni_P (by decide) rfl rfl d_P_isTail_6 ?_
  refine lv_topi (fun t2 et2 => ?_)
  have h := h t2 et2
  refine lv_istore_n (lv' := [(2, .int t2), (0, .ref (a 7)), (1, .ref (a (nf_ro b1)))]) hx hb d_P_isTail_9 rfl hl (by decide) rfl (fun ls hl => ?_)
  obtain ⟨n, h⟩ := h
  exact w_P_isTail_10 hfl K n b1 t2 M1 _ _ _ h (lv_sub hl [1, 2, 0] rfl) hw
theorem d_P_parse_0 : decode nb_P_parse 0 = .ok (.aload_n 0, 1) := by decide +kernel
theorem d_P_parse_1 : decode nb_P_parse 1 = .ok (.aload_n 1, 1) := by decide +kernel
theorem d_P_parse_2 : decode nb_P_parse 2 = .ok (.invokestatic 7, 3) := by decide +kernel
theorem d_P_parse_5 : decode nb_P_parse 5 = .ok (.putfield 13, 3) := by decide +kernel
theorem d_P_parse_8 : decode nb_P_parse 8 = .ok (.aload_n 0, 1) := by decide +kernel
theorem d_P_parse_9 : decode nb_P_parse 9 = .ok (.aload_n 1, 1) := by decide +kernel
theorem d_P_parse_10 : decode nb_P_parse 10 = .ok (.invokevirtual 17, 3) := by decide +kernel
theorem d_P_parse_13 : decode nb_P_parse 13 = .ok (.istore_n 2, 1) := by decide +kernel
theorem d_P_parse_14 : decode nb_P_parse 14 = .ok (.aload_n 0, 1) := by decide +kernel
theorem d_P_parse_15 : decode nb_P_parse 15 = .ok (.iconst 0, 1) := by decide +kernel
theorem d_P_parse_16 : decode nb_P_parse 16 = .ok (.putfield 20, 3) := by decide +kernel
theorem d_P_parse_19 : decode nb_P_parse 19 = .ok (.aload_n 0, 1) := by decide +kernel
theorem d_P_parse_20 : decode nb_P_parse 20 = .ok (.iconst 0, 1) := by decide +kernel
theorem d_P_parse_21 : decode nb_P_parse 21 = .ok (.putfield 23, 3) := by decide +kernel
theorem d_P_parse_24 : decode nb_P_parse 24 = .ok (.aload_n 1, 1) := by decide +kernel
theorem d_P_parse_25 : decode nb_P_parse 25 = .ok (.iload_n 2, 1) := by decide +kernel
theorem d_P_parse_26 : decode nb_P_parse 26 = .ok (.invokevirtual 26, 3) := by decide +kernel
theorem d_P_parse_29 : decode nb_P_parse 29 = .ok (.bipush 46, 2) := by decide +kernel
theorem d_P_parse_31 : decode nb_P_parse 31 = .ok (.if_icmp .ne 33, 3) := by decide +kernel
theorem d_P_parse_34 : decode nb_P_parse 34 = .ok (.iinc 2 1, 3) := by decide +kernel
theorem d_P_parse_37 : decode nb_P_parse 37 = .ok (.aload_n 0, 1) := by decide +kernel
theorem d_P_parse_38 : decode nb_P_parse 38 = .ok (.aload_n 1, 1) := by decide +kernel
theorem d_P_parse_39 : decode nb_P_parse 39 = .ok (.bipush 48, 2) := by decide +kernel
theorem d_P_parse_41 : decode nb_P_parse 41 = .ok (.iload_n 2, 1) := by decide +kernel
theorem d_P_parse_42 : decode nb_P_parse 42 = .ok (.invokestatic 32, 3) := by decide +kernel
theorem d_P_parse_45 : decode nb_P_parse 45 = .ok (.putfield 20, 3) := by decide +kernel
theorem d_P_parse_48 : decode nb_P_parse 48 = .ok (.aload_n 0, 1) := by decide +kernel
theorem d_P_parse_49 : decode nb_P_parse 49 = .ok (.aload_n 1, 1) := by decide +kernel
theorem d_P_parse_50 : decode nb_P_parse 50 = .ok (.bipush 35, 2) := by decide +kernel
theorem d_P_parse_52 : decode nb_P_parse 52 = .ok (.iload_n 2, 1) := by decide +kernel
theorem d_P_parse_53 : decode nb_P_parse 53 = .ok (.aload_n 0, 1) := by decide +kernel
theorem d_P_parse_54 : decode nb_P_parse 54 = .ok (.getfield 20, 3) := by decide +kernel
theorem d_P_parse_57 : decode nb_P_parse 57 = .ok (.iadd, 1) := by decide +kernel
theorem d_P_parse_58 : decode nb_P_parse 58 = .ok (.invokestatic 32, 3) := by decide +kernel
theorem d_P_parse_61 : decode nb_P_parse 61 = .ok (.putfield 23, 3) := by decide +kernel
theorem d_P_parse_64 : decode nb_P_parse 64 = .ok (.aload_n 0, 1) := by decide +kernel
theorem d_P_parse_65 : decode nb_P_parse 65 = .ok (.iload_n 2, 1) := by decide +kernel
theorem d_P_parse_66 : decode nb_P_parse 66 = .ok (.aload_n 0, 1) := by decide +kernel
theorem d_P_parse_67 : decode nb_P_parse 67 = .ok (.getfield 20, 3) := by decide +kernel
theorem d_P_parse_70 : decode nb_P_parse 70 = .ok (.iadd, 1) := by decide +kernel
theorem d_P_parse_71 : decode nb_P_parse 71 = .ok (.aload_n 0, 1) := by decide +kernel
theorem d_P_parse_72 : decode nb_P_parse 72 = .ok (.getfield 23, 3) := by decide +kernel
theorem d_P_parse_75 : decode nb_P_parse 75 = .ok (.iadd, 1) := by decide +kernel
theorem d_P_parse_76 : decode nb_P_parse 76 = .ok (.putfield 36, 3) := by decide +kernel
theorem d_P_parse_79 : decode nb_P_parse 79 = .ok (.aload_n 0, 1) := by decide +kernel
theorem d_P_parse_80 : decode nb_P_parse 80 = .ok (.getfield 39, 3) := by decide +kernel
theorem d_P_parse_83 : decode nb_P_parse 83 = .ok (.aload_n 0, 1) := by decide +kernel
theorem d_P_parse_84 : decode nb_P_parse 84 = .ok (.getfield 42, 3) := by decide +kernel
theorem d_P_parse_87 : decode nb_P_parse 87 = .ok (.iadd, 1) := by decide +kernel
theorem d_P_parse_88 : decode nb_P_parse 88 = .ok (.ifCond .le 24, 3) := by decide +kernel
theorem d_P_parse_91 : decode nb_P_parse 91 = .ok (.aload_n 0, 1) := by decide +kernel
theorem d_P_parse_92 : decode nb_P_parse 92 = .ok (.aload_n 1, 1) := by decide +kernel
theorem d_P_parse_93 : decode nb_P_parse 93 = .ok (.iload_n 2, 1) := by decide +kernel
theorem d_P_parse_94 : decode nb_P_parse 94 = .ok (.invokevirtual 45, 3) := by decide +kernel
theorem d_P_parse_97 : decode nb_P_parse 97 = .ok (.ifCond .eq 15, 3) := by decide +kernel
theorem d_P_parse_100 : decode nb_P_parse 100 = .ok (.aload_n 0, 1) := by decide +kernel
theorem d_P_parse_101 : decode nb_P_parse 101 = .ok (.aload_n 1, 1) := by decide +kernel
theorem d_P_parse_102 : decode nb_P_parse 102 = .ok (.invokevirtual 49, 3) := by decide +kernel
theorem d_P_parse_105 : decode nb_P_parse 105 = .ok (.ifCond .eq 7, 3) := by decide +kernel
theorem d_P_parse_108 : decode nb_P_parse 108 = .ok (.iconst 1, 1) := by decide +kernel
theorem d_P_parse_109 : decode nb_P_parse 109 = .ok (.goto 4, 3) := by decide +kernel
theorem d_P_parse_112 : decode nb_P_parse 112 = .ok (.iconst 0, 1) := by decide +kernel
theorem d_P_parse_113 : decode nb_P_parse 113 = .ok (.ireturn, 1) := by decide +kernel
abbrev rm_P_parse : Room := ({ frames := 3, cells := 0, slots := 0, locals := 65 })
theorem w_P_parse_113 {post : Int32 → nf_M → Prop} (hfl : l.flags = flags0) (K : nf_K p s m args meth c "NumberForge$Picture" nb_P_parse 3 (some FieldType.boolean) D a sz) : ∀ (xy0 : Int32) (M : nf_M) (H : Heap) (locs : List Loc) (ls : Array Slot), B_P_parse_113 post xy0 M → lv_has ls 3 [] → nf_W D a s sz H locs M → W p l e rm_P_parse s m args below meth c H locs 0 0 (nf_MQ below (nf_Q nf_jI D a post ex (nf_A a sz)) args s rm_P_parse.cells rm_P_parse.slots (nf_A a sz)) (F0 m 113 ls [.int xy0]) := by
  have hx := K.1
  have hb := K.2.1
  intro xy0 M H locs ls h hl hw
  obtain ⟨g1, h⟩ := h
  exact nf_iret K hw d_P_parse_113 g1 (Nat.le_of_ble_eq_true rfl) (Nat.le_of_ble_eq_true rfl) (r := xy0) rfl h
theorem w_P_parse_112 {post : Int32 → nf_M → Prop} (hfl : l.flags = flags0) (K : nf_K p s m args meth c "NumberForge$Picture" nb_P_parse 3 (some FieldType.boolean) D a sz) : ∀ (M : nf_M) (H : Heap) (locs : List Loc) (ls : Array Slot), B_P_parse_112 post  M → lv_has ls 3 [] → nf_W D a s sz H locs M → W p l e rm_P_parse s m args below meth c H locs 0 0 (nf_MQ below (nf_Q nf_jI D a post ex (nf_A a sz)) args s rm_P_parse.cells rm_P_parse.slots (nf_A a sz)) (F0 m 112 ls []) := by
  have hx := K.1
  have hb := K.2.1
  intro  M H locs ls h hl hw
  refine lv_iconst (v := (0 : Int32)) hx hb d_P_parse_112 (by decide) ?_
  exact w_P_parse_113 hfl K (0 : Int32) M _ _ _ h (lv_sub hl [] rfl) hw
theorem w_P_parse_64 {post : Int32 → nf_M → Prop} (hfl : l.flags = flags0) (K : nf_K p s m args meth c "NumberForge$Picture" nb_P_parse 3 (some FieldType.boolean) D a sz) : ∀ (b1 : Bool) (x2 : Int32) (M : nf_M) (H : Heap) (locs : List Loc) (ls : Array Slot), B_P_parse_64 post b1 x2 M → lv_has ls 3 [(0, .ref (a 7)), (1, .ref (a (nf_ro b1))), (2, .int x2)] → nf_W D a s sz H locs M → W p l e rm_P_parse s m args below meth c H locs 0 0 (nf_MQ below (nf_Q nf_jI D a post ex (nf_A a sz)) args s rm_P_parse.cells rm_P_parse.slots (nf_A a sz)) (F0 m 64 ls []) := by
  have hx := K.1
  have hb := K.2.1
  intro b1 x2 M H locs ls h hl hw
  refine lv_aload_n hx hb d_P_parse_64 rfl (lv_at hl 0 rfl) ?_
  refine lv_iload_n hx hb d_P_parse_65 rfl (lv_at hl 2 rfl) ?_
  refine lv_aload_n hx hb d_P_parse_66 rfl (lv_at hl 0 rfl) ?_
  refine nf_get (v := .int (mg_I M 7 5)) K hw 7 2 5 nw_116 rfl rfl ni_P (by decide) rfl rfl d_P_parse_67 ?_
  refine lv_iadd hx hb d_P_parse_70 ?_
  refine lv_aload_n hx hb d_P_parse_71 rfl (lv_at hl 0 rfl) ?_
  refine nf_get (v := .int (mg_I M 7 6)) K hw 7 2 6 nw_118 rfl rfl ni_P (by decide) rfl rfl d_P_parse_72 ?_
  refine lv_iadd hx hb d_P_parse_75 ?_
  refine lv_topi (fun t1 et1 => ?_)
  have h := h t1 et1
  refine nf_put (M' := ms_I M 7 1 t1) K hw 7 2 1 nw_112 rfl rfl rfl ni_P ny_P nq_P nn_P (by decide) rfl rfl rfl rfl (Nat.le_of_ble_eq_true rfl) d_P_parse_76 (fun H locs hw => ?_)
  obtain ⟨M2, eM2⟩ : ∃ z, z = ms_I M 7 1 t1 := ⟨_, rfl⟩
  rw [← eM2] at hw
  have h := h M2 eM2
  refine lv_aload_n hx hb d_P_parse_79 rfl (lv_at hl 0 rfl) ?_
  refine nf_get (v := .int (mg_I M2 7 2)) K hw 7 2 2 nw_113 rfl rfl ni_P (by decide) rfl rfl d_P_parse_80 ?_
  refine lv_aload_n hx hb d_P_parse_83 rfl (lv_at hl 0 rfl) ?_
  refine nf_get (v := .int (mg_I M2 7 3)) K hw 7 2 3 nw_114 rfl rfl ni_P (by decide) rfl rfl d_P_parse_84 ?_
  refine lv_iadd hx hb d_P_parse_87 ?_
  refine nf_if_le hx hb d_P_parse_88 (tgt := 112) (by decide) (fun hc => ?_) (fun hc => ?_)
  · have h := h.1 hc
    refine lv_aload_n hx hb d_P_parse_91 rfl (lv_at hl 0 rfl) ?_
    refine lv_aload_n hx hb d_P_parse_92 rfl (lv_at hl 1 rfl) ?_
    refine lv_iload_n hx hb d_P_parse_93 rfl (lv_at hl 2 rfl) ?_
    refine nf_callW (ex := (fun _ _ => False)) (As := [.ref (a 7), .ref (a (nf_ro b1)), .int x2]) (st0 := [.int x2, .ref (a (nf_ro b1)), .ref (a 7)]) (rest := []) K hw (nf_invV hx hb K.2.2.2.1 (nf_Kg K nw_857) (nf_Kg K nw_859) (nf_Kg K nx_P_haveCommasDigits) (nf_Kg K nw_860) ⟨by decide, by decide⟩ (nf_rcv K hw 7 2 rfl rfl) rfl nl_P_haveCommasDigits rfl d_P_parse_94) (c_P_haveCommasDigits l hfl b1 x2) nw_860 nw_6 rfl ⟨by decide, by decide⟩ (Nat.le_of_ble_eq_true rfl) hl.1 ⟨Nat.le_of_ble_eq_true rfl, Nat.le_of_ble_eq_true rfl⟩ h (fun _ _ h => h.elim) (fun r3 M4 H locs h hw => ?_)
    refine W.eq (g2 := F0 m 97 ls [.int r3]) rfl ?_
    refine nf_if_eq hx hb d_P_parse_97 (tgt := 112) (by decide) (fun hc => ?_) (fun hc => ?_)
    · have h := h.1 hc
      exact w_P_parse_112 hfl K  M4 _ _ _ h (lv_sub hl [] rfl) hw
    · have h := h.2 hc
      refine lv_aload_n hx hb d_P_parse_100 rfl (lv_at hl 0 rfl) ?_
      refine lv_aload_n hx hb d_P_parse_101 rfl (lv_at hl 1 rfl) ?_
      refine nf_callW (ex := (fun _ _ => False)) (As := [.ref (a 7), .ref (a (nf_ro b1))]) (st0 := [.ref (a (nf_ro b1)), .ref (a 7)]) (rest := []) K hw (nf_invV hx hb K.2.2.2.1 (nf_Kg K nw_864) (nf_Kg K nw_866) (nf_Kg K nx_P_isTail) (nf_Kg K nw_867) ⟨by decide, by decide⟩ (nf_rcv K hw 7 2 rfl rfl) rfl nl_P_isTail rfl d_P_parse_102) (c_P_isTail l hfl b1) nw_867 nw_6 rfl ⟨by decide, by decide⟩ (Nat.le_of_ble_eq_true rfl) hl.1 ⟨Nat.le_of_ble_eq_true rfl, Nat.le_of_ble_eq_true rfl⟩ h (fun _ _ h => h.elim) (fun r5 M6 H locs h hw => ?_)
      refine W.eq (g2 := F0 m 105 ls [.int r5]) rfl ?_
      refine nf_if_eq hx hb d_P_parse_105 (tgt := 112) (by decide) (fun hc => ?_) (fun hc => ?_)
      · have h := h.1 hc
        exact w_P_parse_112 hfl K  M6 _ _ _ h (lv_sub hl [] rfl) hw
      · have h := h.2 hc
        refine lv_iconst (v := (1 : Int32)) hx hb d_P_parse_108 (by decide) ?_
        refine lv_goto hx hb d_P_parse_109 (tgt := 113) (by decide) ?_
        exact w_P_parse_113 hfl K (1 : Int32) M6 _ _ _ h (lv_sub hl [] rfl) hw
  · have h := h.2 hc
    exact w_P_parse_112 hfl K  M2 _ _ _ h (lv_sub hl [] rfl) hw
theorem c_P_parse (l : Launch) (hfl : l.flags = flags0) (b1 : Bool) : nf_C nf_jI l nm_P_parse nb_P_parse 3 (some FieldType.boolean) rm_P_parse (fun a => [.ref (a 7), .ref (a (nf_ro b1))]) (fun M post ex => P_P_parse b1 M post) := by
  refine nf_start (plainFor_of_name (by decide +kernel)) (fun a => Nat.le_of_ble_eq_true rfl) ?_
  intro D a sz M post ex p e s m below meth c ls h K hl hw
  have hx := K.1
  have hb := K.2.1
  have hl : lv_has ls 3 [(0, .ref (a 7)), (1, .ref (a (nf_ro b1)))] := hl
  refine lv_aload_n hx hb d_P_parse_0 rfl (lv_at hl 0 rfl) ?_
  refine lv_aload_n hx hb d_P_parse_1 rfl (lv_at hl 1 rfl) ?_
  refine nf_callW (ex := (fun _ _ => False)) (As := [.ref (a (nf_ro b1))]) (st0 := [.ref (a (nf_ro b1)), .ref (a 7)]) (rest := [.ref (a 7)]) K hw (nf_invS hx hb K.2.2.2.1 (nf_Kg K nw_839) (nf_Kg K nw_840) (nf_Kg K nw_6) (nf_Kg K nw_841) ⟨by decide, by decide⟩ rfl nl_P_endOfHead rfl d_P_parse_2) (c_P_endOfHead l hfl b1) nw_841 nw_6 rfl ⟨by decide, by decide⟩ (Nat.le_of_ble_eq_true rfl) hl.1 ⟨Nat.le_of_ble_eq_true rfl, Nat.le_of_ble_eq_true rfl⟩ h (fun _ _ h => h.elim) (fun r1 M2 H locs h hw => ?_)
  refine W.eq (g2 := F0 m 5 ls [.int r1, .ref (a 7)]) rfl ?_
  refine nf_put (M' := ms_I M2 7 0 r1) K hw 7 2 0 nw_111 rfl rfl rfl ni_P ny_P nq_P nn_P (by decide) rfl rfl rfl rfl (Nat.le_of_ble_eq_true rfl) d_P_parse_5 (fun H locs hw => ?_)
  obtain ⟨M3, eM3⟩ : ∃ z, z = ms_I M2 7 0 r1 := ⟨_, rfl⟩
  rw [← eM3] at hw
  have h := h M3 eM3
  refine lv_aload_n hx hb d_P_parse_8 rfl (lv_at hl 0 rfl) ?_
  refine lv_aload_n hx hb d_P_parse_9 rfl (lv_at hl 1 rfl) ?_
  refine nf_callW (ex := (fun _ _ => False)) (As := [.ref (a 7), .ref (a (nf_ro b1))]) (st0 := [.ref (a (nf_ro b1)), .ref (a 7)]) (rest := []) K hw (nf_invV hx hb K.2.2.2.1 (nf_Kg K nw_846) (nf_Kg K nw_848) (nf_Kg K nx_P_parseWhole) (nf_Kg K nw_849) ⟨by decide, by decide⟩ (nf_rcv K hw 7 2 rfl rfl) rfl nl_P_parseWhole rfl d_P_parse_10) (c_P_parseWhole l hfl b1) nw_849 nw_6 rfl ⟨by decide, by decide⟩ (Nat.le_of_ble_eq_true rfl) hl.1 ⟨Nat.le_of_ble_eq_true rfl, Nat.le_of_ble_eq_true rfl⟩ h (fun _ _ h => h.elim) (fun r4 M5 H locs h hw => ?_)
  refine W.eq (g2 := F0 m 13 ls [.int r4]) rfl ?_
  refine lv_istore_n (lv' := [(2, .int r4), (0, .ref (a 7)), (1, .ref (a (nf_ro b1)))]) hx hb d_P_parse_13 rfl hl (by decide) rfl (fun ls hl => ?_)
  refine lv_aload_n hx hb d_P_parse_14 rfl (lv_at hl 1 rfl) ?_
  refine lv_iconst (v := (0 : Int32)) hx hb d_P_parse_15 (by decide) ?_
  refine nf_put (M' := ms_I M5 7 5 (0 : Int32)) K hw 7 2 5 nw_116 rfl rfl rfl ni_P ny_P nq_P nn_P (by decide) rfl rfl rfl rfl (Nat.le_of_ble_eq_true rfl) d_P_parse_16 (fun H locs hw => ?_)
  obtain ⟨M6, eM6⟩ : ∃ z, z = ms_I M5 7 5 (0 : Int32) := ⟨_, rfl⟩
  rw [← eM6] at hw
  have h := h M6 eM6
  refine lv_aload_n hx hb d_P_parse_19 rfl (lv_at hl 1 rfl) ?_
  refine lv_iconst (v := (0 : Int32)) hx hb d_P_parse_20 (by decide) ?_
  refine nf_put (M' := ms_I M6 7 6 (0 : Int32)) K hw 7 2 6 nw_118 rfl rfl rfl ni_P ny_P nq_P nn_P (by decide) rfl rfl rfl rfl (Nat.le_of_ble_eq_true rfl) d_P_parse_21 (fun H locs hw => ?_)
  obtain ⟨M7, eM7⟩ : ∃ z, z = ms_I M6 7 6 (0 : Int32) := ⟨_, rfl⟩
  rw [← eM7] at hw
  have h := h M7 eM7
  refine lv_aload_n hx hb d_P_parse_24 rfl (lv_at hl 2 rfl) ?_
  refine lv_iload_n hx hb d_P_parse_25 rfl (lv_at hl 0 rfl) ?_
  refine nf_callW (ex := (fun _ _ => False)) (As := [.ref (a (nf_ro b1)), .int r4]) (st0 := [.int r4, .ref (a (nf_ro b1))]) (rest := []) K hw (nf_invVN hx hb K.2.2.2.1 ((nf_Kr K nv_842).use rfl) (nf_Kg K nw_231) (nf_Kg K nx_R_at) (nf_Kg K nw_232) ⟨by decide, by decide⟩ (nf_rcv K hw (nf_ro b1) 3 (nf_heR _ _ _) rfl) rfl nl_R_at rfl d_P_parse_26) (c_R_at l hfl b1 r4) nw_232 nw_3 rfl ⟨by decide, by decide⟩ (Nat.le_of_ble_eq_true rfl) hl.1 ⟨Nat.le_of_ble_eq_true rfl, Nat.le_of_ble_eq_true rfl⟩ h (fun _ _ h => h.elim) (fun r8 M9 H locs h hw => ?_)
  refine W.eq (g2 := F0 m 29 ls [.int r8]) rfl ?_
  refine lv_bipush (v := (46 : Int32)) hx hb d_P_parse_29 (by decide) ?_
  refine nf_ic_ne hx hb d_P_parse_31 (tgt := 64) (by decide) (fun hc => ?_) (fun hc => ?_)
  · have h := h.1 hc
    refine lv_iinc (k := 0) (v := r4 + (1 : Int32)) (lv' := [(2, .int (r4 + (1 : Int32))), (0, .ref (a 7)), (1, .ref (a (nf_ro b1)))]) hx hb d_P_parse_34 hl rfl (nf_inc (by decide)) (by decide) rfl (fun ls hl => ?_)
    refine lv_aload_n hx hb d_P_parse_37 rfl (lv_at hl 1 rfl) ?_
    refine lv_aload_n hx hb d_P_parse_38 rfl (lv_at hl 2 rfl) ?_
    refine lv_bipush (v := (48 : Int32)) hx hb d_P_parse_39 (by decide) ?_
    refine lv_iload_n hx hb d_P_parse_41 rfl (lv_at hl 0 rfl) ?_
    refine nf_callW (ex := (fun _ _ => False)) (As := [.ref (a (nf_ro b1)), .int (48 : Int32), .int (r4 + (1 : Int32))]) (st0 := [.int (r4 + (1 : Int32)), .int (48 : Int32), .ref (a (nf_ro b1)), .ref (a 7)]) (rest := [.ref (a 7)]) K hw (nf_invS hx hb K.2.2.2.1 (nf_Kg K nw_854) (nf_Kg K nw_855) (nf_Kg K nw_6) (nf_Kg K nw_856) ⟨by decide, by decide⟩ rfl nl_P_countOf rfl d_P_parse_42) (c_P_countOf l hfl b1 (48 : Int32) (r4 + (1 : Int32))) nw_856 nw_6 rfl ⟨by decide, by decide⟩ (Nat.le_of_ble_eq_true rfl) hl.1 ⟨Nat.le_of_ble_eq_true rfl, Nat.le_of_ble_eq_true rfl⟩ h (fun _ _ h => h.elim) (fun r10 M11 H locs h hw => ?_)
    refine W.eq (g2 := F0 m 45 ls [.int r10, .ref (a 7)]) rfl ?_
    refine nf_put (M' := ms_I M11 7 5 r10) K hw 7 2 5 nw_116 rfl rfl rfl ni_P ny_P nq_P nn_P (by decide) rfl rfl rfl rfl (Nat.le_of_ble_eq_true rfl) d_P_parse_45 (fun H locs hw => ?_)
    obtain ⟨M12, eM12⟩ : ∃ z, z = ms_I M11 7 5 r10 := ⟨_, rfl⟩
    rw [← eM12] at hw
    have h := h M12 eM12
    refine lv_aload_n hx hb d_P_parse_48 rfl (lv_at hl 1 rfl) ?_
    refine lv_aload_n hx hb d_P_parse_49 rfl (lv_at hl 2 rfl) ?_
    refine lv_bipush (v := (35 : Int32)) hx hb d_P_parse_50 (by decide) ?_
    refine lv_iload_n hx hb d_P_parse_52 rfl (lv_at hl 0 rfl) ?_
    refine lv_aload_n hx hb d_P_parse_53 rfl (lv_at hl 1 rfl) ?_
    refine nf_get (v := .int (mg_I M12 7 5)) K hw 7 2 5 nw_116 rfl rfl ni_P (by decide) rfl rfl d_P_parse_54 ?_
    refine lv_iadd hx hb d_P_parse_57 ?_
    refine nf_callW (ex := (fun _ _ => False)) (As := [.ref (a (nf_ro b1)), .int (35 : Int32), .int ((r4 + (1 : Int32)) + (mg_I M12 7 5))]) (st0 := [.int ((r4 + (1 : Int32)) + (mg_I M12 7 5)), .int (35 : Int32), .ref (a (nf_ro b1)), .ref (a 7)]) (rest := [.ref (a 7)]) K hw (nf_invS hx hb K.2.2.2.1 (nf_Kg K nw_854) (nf_Kg K nw_855) (nf_Kg K nw_6) (nf_Kg K nw_856) ⟨by decide, by decide⟩ rfl nl_P_countOf rfl d_P_parse_58) (c_P_countOf l hfl b1 (35 : Int32) ((r4 + (1 : Int32)) + (mg_I M12 7 5))) nw_856 nw_6 rfl ⟨by decide, by decide⟩ (Nat.le_of_ble_eq_true rfl) hl.1 ⟨Nat.le_of_ble_eq_true rfl, Nat.le_of_ble_eq_true rfl⟩ h (fun _ _ h => h.elim) (fun r13 M14 H locs h hw => ?_)
    refine W.eq (g2 := F0 m 61 ls [.int r13, .ref (a 7)]) rfl ?_
    refine nf_put (M' := ms_I M14 7 6 r13) K hw 7 2 6 nw_118 rfl rfl rfl ni_P ny_P nq_P nn_P (by decide) rfl rfl rfl rfl (Nat.le_of_ble_eq_true rfl) d_P_parse_61 (fun H locs hw => ?_)
    obtain ⟨M15, eM15⟩ : ∃ z, z = ms_I M14 7 6 r13 := ⟨_, rfl⟩
    rw [← eM15] at hw
    have h := h M15 eM15
    exact w_P_parse_64 hfl K b1 (r4 + (1 : Int32)) M15 _ _ _ h (lv_sub hl [1, 2, 0] rfl) hw
  · have h := h.2 hc
    exact w_P_parse_64 hfl K b1 r4 M9 _ _ _ h (lv_sub hl [1, 2, 0] rfl) hw
theorem d_F_roundAnswer_0 : decode nb_F_roundAnswer 0 = .ok (.iload_n 1, 1) := by decide +kernel
theorem d_F_roundAnswer_1 : decode nb_F_roundAnswer 1 = .ok (.aload_n 0, 1) := by decide +kernel
theorem d_F_roundAnswer_2 : decode nb_F_roundAnswer 2 = .ok (.getfield 16, 3) := by decide +kernel
theorem d_F_roundAnswer_5 : decode nb_F_roundAnswer 5 = .ok (.getfield 176, 3) := by decide +kernel
theorem d_F_roundAnswer_8 : decode nb_F_roundAnswer 8 = .ok (.if_icmp .ge 67, 3) := by decide +kernel
theorem d_F_roundAnswer_11 : decode nb_F_roundAnswer 11 = .ok (.aload_n 0, 1) := by decide +kernel
theorem d_F_roundAnswer_12 : decode nb_F_roundAnswer 12 = .ok (.getfield 16, 3) := by decide +kernel
theorem d_F_roundAnswer_15 : decode nb_F_roundAnswer 15 = .ok (.getfield 110, 3) := by decide +kernel
theorem d_F_roundAnswer_18 : decode nb_F_roundAnswer 18 = .ok (.invokestatic 193, 3) := by decide +kernel
theorem d_F_roundAnswer_21 : decode nb_F_roundAnswer 21 = .ok (.aload_n 0, 1) := by decide +kernel
theorem d_F_roundAnswer_22 : decode nb_F_roundAnswer 22 = .ok (.getfield 16, 3) := by decide +kernel
theorem d_F_roundAnswer_25 : decode nb_F_roundAnswer 25 = .ok (.getfield 176, 3) := by decide +kernel
theorem d_F_roundAnswer_28 : decode nb_F_roundAnswer 28 = .ok (.iload_n 1, 1) := by decide +kernel
theorem d_F_roundAnswer_29 : decode nb_F_roundAnswer 29 = .ok (.isub, 1) := by decide +kernel
theorem d_F_roundAnswer_30 : decode nb_F_roundAnswer 30 = .ok (.invokestatic 275, 3) := by decide +kernel
theorem d_F_roundAnswer_33 : decode nb_F_roundAnswer 33 = .ok (.invokestatic 407, 3) := by decide +kernel
theorem d_F_roundAnswer_36 : decode nb_F_roundAnswer 36 = .ok (.lstore_n 2, 1) := by decide +kernel
theorem d_F_roundAnswer_37 : decode nb_F_roundAnswer 37 = .ok (.aload_n 0, 1) := by decide +kernel
theorem d_F_roundAnswer_38 : decode nb_F_roundAnswer 38 = .ok (.getfield 56, 3) := by decide +kernel
theorem d_F_roundAnswer_41 : decode nb_F_roundAnswer 41 = .ok (.lload_n 2, 1) := by decide +kernel
theorem d_F_roundAnswer_42 : decode nb_F_roundAnswer 42 = .ok (.invokevirtual 201, 3) := by decide +kernel
theorem d_F_roundAnswer_45 : decode nb_F_roundAnswer 45 = .ok (.aload_n 0, 1) := by decide +kernel
theorem d_F_roundAnswer_46 : decode nb_F_roundAnswer 46 = .ok (.getfield 56, 3) := by decide +kernel
theorem d_F_roundAnswer_49 : decode nb_F_roundAnswer 49 = .ok (.aload_n 0, 1) := by decide +kernel
theorem d_F_roundAnswer_50 : decode nb_F_roundAnswer 50 = .ok (.getfield 16, 3) := by decide +kernel
theorem d_F_roundAnswer_53 : decode nb_F_roundAnswer 53 = .ok (.iconst 0, 1) := by decide +kernel
theorem d_F_roundAnswer_54 : decode nb_F_roundAnswer 54 = .ok (.aload_n 0, 1) := by decide +kernel
theorem d_F_roundAnswer_55 : decode nb_F_roundAnswer 55 = .ok (.getfield 16, 3) := by decide +kernel
theorem d_F_roundAnswer_58 : decode nb_F_roundAnswer 58 = .ok (.getfield 110, 3) := by decide +kernel
theorem d_F_roundAnswer_61 : decode nb_F_roundAnswer 61 = .ok (.lconst 0, 1) := by decide +kernel
theorem d_F_roundAnswer_62 : decode nb_F_roundAnswer 62 = .ok (.lcmp, 1) := by decide +kernel
theorem d_F_roundAnswer_63 : decode nb_F_roundAnswer 63 = .ok (.ifCond .ge 7, 3) := by decide +kernel
theorem d_F_roundAnswer_66 : decode nb_F_roundAnswer 66 = .ok (.iconst 1, 1) := by decide +kernel
theorem d_F_roundAnswer_67 : decode nb_F_roundAnswer 67 = .ok (.goto 4, 3) := by decide +kernel
theorem d_F_roundAnswer_70 : decode nb_F_roundAnswer 70 = .ok (.iconst 0, 1) := by decide +kernel
theorem d_F_roundAnswer_71 : decode nb_F_roundAnswer 71 = .ok (.iload_n 1, 1) := by decide +kernel
theorem d_F_roundAnswer_72 : decode nb_F_roundAnswer 72 = .ok (.invokevirtual 204, 3) := by decide +kernel
theorem d_F_roundAnswer_75 : decode nb_F_roundAnswer 75 = .ok (.return_, 1) := by decide +kernel
abbrev rm_F_roundAnswer : Room := ({ frames := 7, cells := 1, slots := 6, locals := 125 })
theorem w_F_roundAnswer_75 {post : Unit → nf_M → Prop} (hfl : l.flags = flags0) (K : nf_K p s m args meth c "NumberForge" nb_F_roundAnswer 4 none D a sz) : ∀ (M : nf_M) (H : Heap) (locs : List Loc) (ls : Array Slot), B_F_roundAnswer_75 post ex  M → lv_has ls 4 [] → nf_W D a s sz H locs M → W p l e rm_F_roundAnswer s m args below meth c H locs 1 6 (nf_MQ below (nf_Q nf_jN D a post ex (nf_A a sz)) args s rm_F_roundAnswer.cells rm_F_roundAnswer.slots (nf_A a sz)) (F0 m 75 ls []) := by
  have hx := K.1
  have hb := K.2.1
  intro  M H locs ls h hl hw
  exact nf_vret K hw d_F_roundAnswer_75 (Nat.le_of_ble_eq_true rfl) (Nat.le_of_ble_eq_true rfl) (r := ()) rfl h
theorem w_F_roundAnswer_71 {post : Unit → nf_M → Prop} (hfl : l.flags = flags0) (K : nf_K p s m args meth c "NumberForge" nb_F_roundAnswer 4 none D a sz) : ∀ (x1 : Int32) (xy0 : Int32) (xy1 : Int32) (vy2 : Fin 9) (M : nf_M) (H : Heap) (locs : List Loc) (ls : Array Slot), B_F_roundAnswer_71 post ex x1 xy0 xy1 vy2 M → lv_has ls 4 [(1, .int x1)] → nf_W D a s sz H locs M → W p l e rm_F_roundAnswer s m args below meth c H locs 0 0 (nf_MQ below (nf_Q nf_jN D a post ex (nf_A a sz)) args s rm_F_roundAnswer.cells rm_F_roundAnswer.slots (nf_A a sz)) (F0 m 71 ls [.int xy0, .int xy1, .ref (a (10 + (vy2 : Fin 9).val)), .ref (a 9)]) := by
  have hx := K.1
  have hb := K.2.1
  intro x1 xy0 xy1 vy2 M H locs ls h hl hw
  refine lv_iload_n hx hb d_F_roundAnswer_71 rfl (lv_at hl 0 rfl) ?_
  refine nf_callW (ex := ex) (As := [.ref (a 9), .ref (a (10 + (vy2 : Fin 9).val)), .int xy1, .int xy0, .int x1]) (st0 := [.int x1, .int xy0, .int xy1, .ref (a (10 + (vy2 : Fin 9).val)), .ref (a 9)]) (rest := []) K hw (nf_invVN hx hb K.2.2.2.1 ((nf_Kr K nv_561).use rfl) (nf_Kg K nw_563) (nf_Kg K nx_W_settle) (nf_Kg K nw_564) ⟨by decide, by decide⟩ (nf_rcv K hw 9 5 rfl rfl) rfl nl_W_settle rfl d_F_roundAnswer_72) (c_W_settle l hfl vy2 xy1 xy0 x1) nw_564 nw_8 rfl ⟨by decide, by decide⟩ (Nat.le_of_ble_eq_true rfl) hl.1 ⟨Nat.le_of_ble_eq_true rfl, Nat.le_of_ble_eq_true rfl⟩ h (fun _ _ h => h) (fun r1 M2 H locs h hw => ?_)
  refine W.eq (g2 := F0 m 75 ls []) rfl ?_
  refine W.widen (k := 1) (n := 6) (by decide) (by decide) ?_
  exact w_F_roundAnswer_75 hfl K  M2 _ _ _ h (lv_sub hl [] rfl) hw
theorem c_F_roundAnswer (l : Launch) (hfl : l.flags = flags0) (x1 : Int32) : nf_C nf_jN l nm_F_roundAnswer nb_F_roundAnswer 4 none rm_F_roundAnswer (fun a => [.ref (a 0), .int x1]) (fun M post ex => P_F_roundAnswer x1 M post ex) := by
  refine nf_start (plainFor_of_name (by decide +kernel)) (fun a => Nat.le_of_ble_eq_true rfl) ?_
  intro D a sz M post ex p e s m below meth c ls h K hl hw
  have hx := K.1
  have hb := K.2.1
  have hl : lv_has ls 4 [(0, .ref (a 0)), (1, .int x1)] := hl
  refine lv_iload_n hx hb d_F_roundAnswer_0 rfl (lv_at hl 1 rfl) ?_
  refine lv_aload_n hx hb d_F_roundAnswer_1 rfl (lv_at hl 0 rfl) ?_
  refine nf_get (v := .ref (a (10 + ((0 : Fin 9) : Fin 9).val))) K hw 0 6 1 nw_169 rfl rfl ni_F (by decide) rfl rfl d_F_roundAnswer_2 ?_
  refine nf_getN (v := .int (mg_S M (0 : Fin 9))) K hw (10 + ((0 : Fin 9) : Fin 9).val) 4 2 nv_45 (nf_heV _ _ _) rfl ni_V (by decide) rfl rfl d_F_roundAnswer_5 ?_
  refine nf_ic_ge hx hb d_F_roundAnswer_8 (tgt := 75) (by decide) (fun hc => ?_) (fun hc => ?_)
  · have h := h.1 hc
    refine lv_aload_n hx hb d_F_roundAnswer_11 rfl (lv_at hl 0 rfl) ?_
    refine nf_get (v := .ref (a (10 + ((0 : Fin 9) : Fin 9).val))) K hw 0 6 1 nw_169 rfl rfl ni_F (by decide) rfl rfl d_F_roundAnswer_12 ?_
    refine nf_getN (v := .long (mg_U M (0 : Fin 9))) K hw (10 + ((0 : Fin 9) : Fin 9).val) 4 1 nv_41 (nf_heV _ _ _) rfl ni_V (by decide) rfl rfl d_F_roundAnswer_15 ?_
    refine nf_callW (ex := (fun _ _ => False)) (As := [.long (mg_U M (0 : Fin 9))]) (st0 := [.long (mg_U M (0 : Fin 9))]) (rest := []) K hw (nf_invS hx hb K.2.2.2.1 (nf_Kg K nw_549) (nf_Kg K nw_550) (nf_Kg K nw_4) (nf_Kg K nw_551) ⟨by decide, by decide⟩ rfl nl_JM_abs_JJ rfl d_F_roundAnswer_18) (c_JM_abs_JJ l hfl (mg_U M (0 : Fin 9))) nw_551 nw_4 rfl ⟨by decide, by decide⟩ (Nat.le_of_ble_eq_true rfl) hl.1 ⟨Nat.le_of_ble_eq_true rfl, Nat.le_of_ble_eq_true rfl⟩ h (fun _ _ h => h.elim) (fun r1 M2 H locs h hw => ?_)
    refine W.eq (g2 := F0 m 21 ls [.long r1]) rfl ?_
    refine lv_aload_n hx hb d_F_roundAnswer_21 rfl (lv_at hl 0 rfl) ?_
    refine nf_get (v := .ref (a (10 + ((0 : Fin 9) : Fin 9).val))) K hw 0 6 1 nw_169 rfl rfl ni_F (by decide) rfl rfl d_F_roundAnswer_22 ?_
    refine nf_getN (v := .int (mg_S M2 (0 : Fin 9))) K hw (10 + ((0 : Fin 9) : Fin 9).val) 4 2 nv_45 (nf_heV _ _ _) rfl ni_V (by decide) rfl rfl d_F_roundAnswer_25 ?_
    refine lv_iload_n hx hb d_F_roundAnswer_28 rfl (lv_at hl 1 rfl) ?_
    refine lv_isub hx hb d_F_roundAnswer_29 ?_
    refine nf_callW (ex := (fun _ _ => False)) (As := [.int ((mg_S M2 (0 : Fin 9)) - x1)]) (st0 := [.int ((mg_S M2 (0 : Fin 9)) - x1), .long r1]) (rest := [.long r1]) K hw (nf_invS hx hb K.2.2.2.1 (nf_Kg K nw_548) (nf_Kg K nw_352) (nf_Kg K nw_1) (nf_Kg K nw_353) ⟨by decide, by decide⟩ rfl nl_F_power rfl d_F_roundAnswer_30) (c_F_power l hfl ((mg_S M2 (0 : Fin 9)) - x1)) nw_353 nw_1 rfl ⟨by decide, by decide⟩ (Nat.le_of_ble_eq_true rfl) hl.1 ⟨Nat.le_of_ble_eq_true rfl, Nat.le_of_ble_eq_true rfl⟩ h (fun _ _ h => h.elim) (fun r3 M4 H locs h hw => ?_)
    refine W.eq (g2 := F0 m 33 ls [.long r3, .long r1]) rfl ?_
    refine nf_callW (ex := (fun _ _ => False)) (As := [.long r1, .long r3]) (st0 := [.long r3, .long r1]) (rest := []) K hw (nf_invS hx hb K.2.2.2.1 (nf_Kg K nw_663) (nf_Kg K nw_664) (nf_Kg K nw_1) (nf_Kg K nw_665) ⟨by decide, by decide⟩ rfl nl_F_overHalfEven rfl d_F_roundAnswer_33) (c_F_overHalfEven l hfl r1 r3) nw_665 nw_1 rfl ⟨by decide, by decide⟩ (Nat.le_of_ble_eq_true rfl) hl.1 ⟨Nat.le_of_ble_eq_true rfl, Nat.le_of_ble_eq_true rfl⟩ h (fun _ _ h => h.elim) (fun r5 M6 H locs h hw => ?_)
    refine W.eq (g2 := F0 m 36 ls [.long r5]) rfl ?_
    refine lv_lstore_n (lv' := [(2, .long r5), (0, .ref (a 0)), (1, .int x1)]) hx hb d_F_roundAnswer_36 rfl hl (by decide) rfl (fun ls hl => ?_)
    refine lv_aload_n hx hb d_F_roundAnswer_37 rfl (lv_at hl 1 rfl) ?_
    refine nf_get (v := .ref (a 9)) K hw 0 6 7 nw_175 rfl rfl ni_F (by decide) rfl rfl d_F_roundAnswer_38 ?_
    refine lv_lload_n hx hb d_F_roundAnswer_41 rfl (lv_at hl 0 rfl) ?_
    refine nf_callW (ex := (fun _ _ => False)) (As := [.ref (a 9), .long r5]) (st0 := [.long r5, .ref (a 9)]) (rest := []) K hw (nf_invVN hx hb K.2.2.2.1 ((nf_Kr K nv_556).use rfl) (nf_Kg K nw_558) (nf_Kg K nx_W_become) (nf_Kg K nw_559) ⟨by decide, by decide⟩ (nf_rcv K hw 9 5 rfl rfl) rfl nl_W_become rfl d_F_roundAnswer_42) (c_W_become l hfl r5) nw_559 nw_8 rfl ⟨by decide, by decide⟩ (Nat.le_of_ble_eq_true rfl) hl.1 ⟨Nat.le_of_ble_eq_true rfl, Nat.le_of_ble_eq_true rfl⟩ h (fun _ _ h => h.elim) (fun r7 M8 H locs h hw => ?_)
    refine W.eq (g2 := F0 m 45 ls []) rfl ?_
    refine lv_aload_n hx hb d_F_roundAnswer_45 rfl (lv_at hl 1 rfl) ?_
    refine nf_get (v := .ref (a 9)) K hw 0 6 7 nw_175 rfl rfl ni_F (by decide) rfl rfl d_F_roundAnswer_46 ?_
    refine lv_aload_n hx hb d_F_roundAnswer_49 rfl (lv_at hl 1 rfl) ?_
    refine nf_get (v := .ref (a (10 + ((0 : Fin 9) : Fin 9).val))) K hw 0 6 1 nw_169 rfl rfl ni_F (by decide) rfl rfl d_F_roundAnswer_50 ?_
    refine lv_iconst (v := (0 : Int32)) hx hb d_F_roundAnswer_53 (by decide) ?_
    refine lv_aload_n hx hb d_F_roundAnswer_54 rfl (lv_at hl 1 rfl) ?_
    refine nf_get (v := .ref (a (10 + ((0 : Fin 9) : Fin 9).val))) K hw 0 6 1 nw_169 rfl rfl ni_F (by decide) rfl rfl d_F_roundAnswer_55 ?_
    refine nf_getN (v := .long (mg_U M8 (0 : Fin 9))) K hw (10 + ((0 : Fin 9) : Fin 9).val) 4 1 nv_41 (nf_heV _ _ _) rfl ni_V (by decide) rfl rfl d_F_roundAnswer_58 ?_
    refine lv_lconst (v := (0 : Int64)) hx hb d_F_roundAnswer_61 (by decide) ?_
    refine nf_lc_ge hx hb d_F_roundAnswer_62 d_F_roundAnswer_63 (tgt := 70) (by decide) (fun hc => ?_) (fun hc => ?_)
    · have h := h.1 hc
      refine lv_iconst (v := (1 : Int32)) hx hb d_F_roundAnswer_66 (by decide) ?_
      refine lv_goto hx hb d_F_roundAnswer_67 (tgt := 71) (by decide) ?_
      exact w_F_roundAnswer_71 hfl K x1 (1 : Int32) (0 : Int32) (0 : Fin 9) M8 _ _ _ h (lv_sub hl [2] rfl) hw
    · have h := h.2 hc
      refine lv_iconst (v := (0 : Int32)) hx hb d_F_roundAnswer_70 (by decide) ?_
      exact w_F_roundAnswer_71 hfl K x1 (0 : Int32) (0 : Int32) (0 : Fin 9) M8 _ _ _ h (lv_sub hl [2] rfl) hw
  · have h := h.2 hc
    refine W.widen (k := 1) (n := 6) (by decide) (by decide) ?_
    exact w_F_roundAnswer_75 hfl K  M _ _ _ h (lv_sub hl [] rfl) hw
theorem d_R_addPart_0 : decode nb_R_addPart 0 = .ok (.iload_n 2, 1) := by decide +kernel
theorem d_R_addPart_1 : decode nb_R_addPart 1 = .ok (.istore 4, 2) := by decide +kernel
theorem d_R_addPart_3 : decode nb_R_addPart 3 = .ok (.iload 4, 2) := by decide +kernel
theorem d_R_addPart_5 : decode nb_R_addPart 5 = .ok (.iload_n 3, 1) := by decide +kernel
theorem d_R_addPart_6 : decode nb_R_addPart 6 = .ok (.if_icmp .ge 19, 3) := by decide +kernel
theorem d_R_addPart_9 : decode nb_R_addPart 9 = .ok (.aload_n 0, 1) := by decide +kernel
theorem d_R_addPart_10 : decode nb_R_addPart 10 = .ok (.aload_n 1, 1) := by decide +kernel
theorem d_R_addPart_11 : decode nb_R_addPart 11 = .ok (.iload 4, 2) := by decide +kernel
theorem d_R_addPart_13 : decode nb_R_addPart 13 = .ok (.invokevirtual 46, 3) := by decide +kernel
theorem d_R_addPart_16 : decode nb_R_addPart 16 = .ok (.invokevirtual 32, 3) := by decide +kernel
theorem d_R_addPart_19 : decode nb_R_addPart 19 = .ok (.iinc 4 1, 3) := by decide +kernel
theorem d_R_addPart_22 : decode nb_R_addPart 22 = .ok (.goto (-19), 3) := by decide +kernel
theorem d_R_addPart_25 : decode nb_R_addPart 25 = .ok (.return_, 1) := by decide +kernel
abbrev rm_R_addPart : Room := ({ frames := 1, cells := 0, slots := 0, locals := 21 })
theorem w_R_addPart_3 {post : Unit → nf_M → Prop} (hfl : l.flags = flags0) (K : nf_K p s m args meth c "NumberForge$Row" nb_R_addPart 5 none D a sz) : ∀ (n : Nat) (b0 : Bool) (b1 : Bool) (x3 : Int32) (x4 : Int32) (M : nf_M) (H : Heap) (locs : List Loc) (ls : Array Slot), B_R_addPart_3 post n b0 b1 x3 x4 M → lv_has ls 5 [(0, .ref (a (nf_ro b0))), (1, .ref (a (nf_ro b1))), (3, .int x3), (4, .int x4)] → nf_W D a s sz H locs M → W p l e rm_R_addPart s m args below meth c H locs 0 0 (nf_MQ below (nf_Q nf_jN D a post ex (nf_A a sz)) args s rm_R_addPart.cells rm_R_addPart.slots (nf_A a sz)) (F0 m 3 ls []) := by
  have hx := K.1
  have hb := K.2.1
  intro n
  induction n with
  | zero => intro b0 b1 x3 x4 M H locs ls h hl hw; exact h.elim
  | succ n ih =>
    intro b0 b1 x3 x4 M H locs ls h hl hw
    refine lv_iload hx hb d_R_addPart_3 (lv_at hl 3 rfl) ?_
    refine lv_iload_n hx hb d_R_addPart_5 rfl (lv_at hl 2 rfl) ?_
    refine nf_ic_ge hx hb d_R_addPart_6 (tgt := 25) (by decide) (fun hc => ?_) (fun hc => ?_)
    · have h := h.1 hc
      refine lv_aload_n hx hb d_R_addPart_9 rfl (lv_at hl 0 rfl) ?_
      refine lv_aload_n hx hb d_R_addPart_10 rfl (lv_at hl 1 rfl) ?_
      refine lv_iload hx hb d_R_addPart_11 (lv_at hl 3 rfl) ?_
      refine nf_callW (ex := (fun _ _ => False)) (As := [.ref (a (nf_ro b1)), .int x4]) (st0 := [.int x4, .ref (a (nf_ro b1)), .ref (a (nf_ro b0))]) (rest := [.ref (a (nf_ro b0))]) K hw (nf_invV hx hb K.2.2.2.1 (nf_Kg K nw_346) (nf_Kg K nw_231) (nf_Kg K nx_R_at) (nf_Kg K nw_232) ⟨by decide, by decide⟩ (nf_rcv K hw (nf_ro b1) 3 (nf_heR _ _ _) rfl) rfl nl_R_at rfl d_R_addPart_13) (c_R_at l hfl b1 x4) nw_232 nw_3 rfl ⟨by decide, by decide⟩ (Nat.le_of_ble_eq_true rfl) hl.1 ⟨Nat.le_of_ble_eq_true rfl, Nat.le_of_ble_eq_true rfl⟩ h (fun _ _ h => h.elim) (fun r1 M2 H locs h hw => ?_)
      refine W.eq (g2 := F0 m 16 ls [.int r1, .ref (a (nf_ro b0))]) rfl ?_
      refine nf_callW (ex := (fun _ _ => False)) (As := [.ref (a (nf_ro b0)), .int r1]) (st0 := [.int r1, .ref (a (nf_ro b0))]) (rest := []) K hw (nf_invV hx hb K.2.2.2.1 (nf_Kg K nw_783) (nf_Kg K nw_199) (nf_Kg K nx_R_add) (nf_Kg K nw_200) ⟨by decide, by decide⟩ (nf_rcv K hw (nf_ro b0) 3 (nf_heR _ _ _) rfl) rfl nl_R_add rfl d_R_addPart_16) (c_R_add l hfl b0 r1) nw_200 nw_3 rfl ⟨by decide, by decide⟩ (Nat.le_of_ble_eq_true rfl) hl.1 ⟨Nat.le_of_ble_eq_true rfl, Nat.le_of_ble_eq_true rfl⟩ h (fun _ _ h => h.elim) (fun r3 M4 H locs h hw => ?_)
      refine W.eq (g2 := F0 m 19 ls []) rfl ?_
      refine lv_iinc (k := 3) (v := x4 + (1 : Int32)) (lv' := [(4, .int (x4 + (1 : Int32))), (0, .ref (a (nf_ro b0))), (1, .ref (a (nf_ro b1))), (3, .int x3)]) hx hb d_R_addPart_19 hl rfl (nf_inc (by decide)) (by decide) rfl (fun ls hl => ?_)
      refine lv_goto hx hb d_R_addPart_22 (tgt := 3) (by decide) ?_
      exact ih b0 b1 x3 (x4 + (1 : Int32)) M4 _ _ _ h (lv_sub hl [1, 2, 3, 0] rfl) hw
    · have h := h.2 hc
      exact nf_vret K hw d_R_addPart_25 (Nat.le_of_ble_eq_true rfl) (Nat.le_of_ble_eq_true rfl) (r := ()) rfl h
theorem c_R_addPart (l : Launch) (hfl : l.flags = flags0) (b0 : Bool) (b1 : Bool) (x2 : Int32) (x3 : Int32) : nf_C nf_jN l nm_R_addPart nb_R_addPart 5 none rm_R_addPart (fun a => [.ref (a (nf_ro b0)), .ref (a (nf_ro b1)), .int x2, .int x3]) (fun M post ex => P_R_addPart b0 b1 x2 x3 M post) := by
  refine nf_start (plainFor_of_name (by decide +kernel)) (fun a => Nat.le_of_ble_eq_true rfl) ?_
  intro D a sz M post ex p e s m below meth c ls h K hl hw
  have hx := K.1
  have hb := K.2.1
  have hl : lv_has ls 5 [(0, .ref (a (nf_ro b0))), (1, .ref (a (nf_ro b1))), (2, .int x2), (3, .int x3)] := hl
  refine lv_iload_n hx hb d_R_addPart_0 rfl (lv_at hl 2 rfl) ?_
  refine lv_istore (lv' := [(4, .int x2), (0, .ref (a (nf_ro b0))), (1, .ref (a (nf_ro b1))), (2, .int x2), (3, .int x3)]) hx hb d_R_addPart_1 hl (by decide) rfl (fun ls hl => ?_)
  obtain ⟨n, h⟩ := h
  exact w_R_addPart_3 hfl K n b0 b1 x3 x2 M _ _ _ h (lv_sub hl [1, 2, 4, 0] rfl) hw
theorem d_P_fillWhole_0 : decode nb_P_fillWhole 0 = .ok (.lload_n 1, 1) := by decide +kernel
theorem d_P_fillWhole_1 : decode nb_P_fillWhole 1 = .ok (.lconst 0, 1) := by decide +kernel
theorem d_P_fillWhole_2 : decode nb_P_fillWhole 2 = .ok (.lcmp, 1) := by decide +kernel
theorem d_P_fillWhole_3 : decode nb_P_fillWhole 3 = .ok (.ifCond .ne 7, 3) := by decide +kernel
theorem d_P_fillWhole_6 : decode nb_P_fillWhole 6 = .ok (.iconst 0, 1) := by decide +kernel
theorem d_P_fillWhole_7 : decode nb_P_fillWhole 7 = .ok (.goto 7, 3) := by decide +kernel
theorem d_P_fillWhole_10 : decode nb_P_fillWhole 10 = .ok (.lload_n 1, 1) := by decide +kernel
theorem d_P_fillWhole_11 : decode nb_P_fillWhole 11 = .ok (.invokestatic 121, 3) := by decide +kernel
theorem d_P_fillWhole_14 : decode nb_P_fillWhole 14 = .ok (.aload_n 0, 1) := by decide +kernel
theorem d_P_fillWhole_15 : decode nb_P_fillWhole 15 = .ok (.getfield 42, 3) := by decide +kernel
theorem d_P_fillWhole_18 : decode nb_P_fillWhole 18 = .ok (.invokestatic 88, 3) := by decide +kernel
theorem d_P_fillWhole_21 : decode nb_P_fillWhole 21 = .ok (.istore 5, 2) := by decide +kernel
theorem d_P_fillWhole_23 : decode nb_P_fillWhole 23 = .ok (.iload 5, 2) := by decide +kernel
theorem d_P_fillWhole_25 : decode nb_P_fillWhole 25 = .ok (.ifCond .ne 10, 3) := by decide +kernel
theorem d_P_fillWhole_28 : decode nb_P_fillWhole 28 = .ok (.iload_n 3, 1) := by decide +kernel
theorem d_P_fillWhole_29 : decode nb_P_fillWhole 29 = .ok (.ifCond .eq 6, 3) := by decide +kernel
theorem d_P_fillWhole_32 : decode nb_P_fillWhole 32 = .ok (.iconst 1, 1) := by decide +kernel
theorem d_P_fillWhole_33 : decode nb_P_fillWhole 33 = .ok (.istore 5, 2) := by decide +kernel
theorem d_P_fillWhole_35 : decode nb_P_fillWhole 35 = .ok (.iload 5, 2) := by decide +kernel
theorem d_P_fillWhole_37 : decode nb_P_fillWhole 37 = .ok (.iconst 1, 1) := by decide +kernel
theorem d_P_fillWhole_38 : decode nb_P_fillWhole 38 = .ok (.isub, 1) := by decide +kernel
theorem d_P_fillWhole_39 : decode nb_P_fillWhole 39 = .ok (.istore 6, 2) := by decide +kernel
theorem d_P_fillWhole_41 : decode nb_P_fillWhole 41 = .ok (.iload 6, 2) := by decide +kernel
theorem d_P_fillWhole_43 : decode nb_P_fillWhole 43 = .ok (.ifCond .lt 49, 3) := by decide +kernel
theorem d_P_fillWhole_46 : decode nb_P_fillWhole 46 = .ok (.aload 4, 2) := by decide +kernel
theorem d_P_fillWhole_48 : decode nb_P_fillWhole 48 = .ok (.lload_n 1, 1) := by decide +kernel
theorem d_P_fillWhole_49 : decode nb_P_fillWhole 49 = .ok (.iload 6, 2) := by decide +kernel
theorem d_P_fillWhole_51 : decode nb_P_fillWhole 51 = .ok (.invokestatic 117, 3) := by decide +kernel
theorem d_P_fillWhole_54 : decode nb_P_fillWhole 54 = .ok (.invokevirtual 95, 3) := by decide +kernel
theorem d_P_fillWhole_57 : decode nb_P_fillWhole 57 = .ok (.aload_n 0, 1) := by decide +kernel
theorem d_P_fillWhole_58 : decode nb_P_fillWhole 58 = .ok (.getfield 60, 3) := by decide +kernel
theorem d_P_fillWhole_61 : decode nb_P_fillWhole 61 = .ok (.ifCond .le 25, 3) := by decide +kernel
theorem d_P_fillWhole_64 : decode nb_P_fillWhole 64 = .ok (.iload 6, 2) := by decide +kernel
theorem d_P_fillWhole_66 : decode nb_P_fillWhole 66 = .ok (.ifCond .le 20, 3) := by decide +kernel
theorem d_P_fillWhole_69 : decode nb_P_fillWhole 69 = .ok (.iload 6, 2) := by decide +kernel
theorem d_P_fillWhole_71 : decode nb_P_fillWhole 71 = .ok (.aload_n 0, 1) := by decide +kernel
theorem d_P_fillWhole_72 : decode nb_P_fillWhole 72 = .ok (.getfield 60, 3) := by decide +kernel
theorem d_P_fillWhole_75 : decode nb_P_fillWhole 75 = .ok (.irem, 1) := by decide +kernel
theorem d_P_fillWhole_76 : decode nb_P_fillWhole 76 = .ok (.ifCond .ne 10, 3) := by decide +kernel
theorem d_P_fillWhole_79 : decode nb_P_fillWhole 79 = .ok (.aload 4, 2) := by decide +kernel
theorem d_P_fillWhole_81 : decode nb_P_fillWhole 81 = .ok (.bipush 44, 2) := by decide +kernel
theorem d_P_fillWhole_83 : decode nb_P_fillWhole 83 = .ok (.invokevirtual 95, 3) := by decide +kernel
theorem d_P_fillWhole_86 : decode nb_P_fillWhole 86 = .ok (.iinc 6 (-1), 3) := by decide +kernel
theorem d_P_fillWhole_89 : decode nb_P_fillWhole 89 = .ok (.goto (-48), 3) := by decide +kernel
theorem d_P_fillWhole_92 : decode nb_P_fillWhole 92 = .ok (.return_, 1) := by decide +kernel
abbrev rm_P_fillWhole : Room := ({ frames := 2, cells := 0, slots := 0, locals := 45 })
theorem w_P_fillWhole_86 {post : Unit → nf_M → Prop} (hfl : l.flags = flags0) (K : nf_K p s m args meth c "NumberForge$Picture" nb_P_fillWhole 7 none D a sz) (k41 : Int64 → Bool → Int32 → nf_M → Prop) (hk41 : ∀ (x1 : Int64) (b4 : Bool) (x6 : Int32) (M : nf_M) (H : Heap) (locs : List Loc) (ls : Array Slot), k41 x1 b4 x6 M → lv_has ls 7 [(0, .ref (a 7)), (1, .long x1), (4, .ref (a (nf_ro b4))), (6, .int x6)] → nf_W D a s sz H locs M → W p l e rm_P_fillWhole s m args below meth c H locs 0 0 (nf_MQ below (nf_Q nf_jN D a post ex (nf_A a sz)) args s rm_P_fillWhole.cells rm_P_fillWhole.slots (nf_A a sz)) (F0 m 41 ls [])) : ∀ (x1 : Int64) (b4 : Bool) (x6 : Int32) (M : nf_M) (H : Heap) (locs : List Loc) (ls : Array Slot), B_P_fillWhole_86 k41 post x1 b4 x6 M → lv_has ls 7 [(0, .ref (a 7)), (1, .long x1), (4, .ref (a (nf_ro b4))), (6, .int x6)] → nf_W D a s sz H locs M → W p l e rm_P_fillWhole s m args below meth c H locs 0 0 (nf_MQ below (nf_Q nf_jN D a post ex (nf_A a sz)) args s rm_P_fillWhole.cells rm_P_fillWhole.slots (nf_A a sz)) (F0 m 86 ls []) := by
  have hx := K.1
  have hb := K.2.1
  intro x1 b4 x6 M H locs ls h hl hw
  refine lv_iinc (k := 3) (v := x6 + (-1 : Int32)) (lv' := [(6, .int (x6 + (-1 : Int32))), (0, .ref (a 7)), (1, .long x1), (4, .ref (a (nf_ro b4)))]) hx hb d_P_fillWhole_86 hl rfl (nf_inc (by decide)) (by decide) rfl (fun ls hl => ?_)
  refine lv_goto hx hb d_P_fillWhole_89 (tgt := 41) (by decide) ?_
  exact hk41 x1 b4 (x6 + (-1 : Int32)) M _ _ _ h (lv_sub hl [1, 2, 3, 0] rfl) hw
theorem w_P_fillWhole_41 {post : Unit → nf_M → Prop} (hfl : l.flags = flags0) (K : nf_K p s m args meth c "NumberForge$Picture" nb_P_fillWhole 7 none D a sz) : ∀ (n : Nat) (x1 : Int64) (b4 : Bool) (x6 : Int32) (M : nf_M) (H : Heap) (locs : List Loc) (ls : Array Slot), B_P_fillWhole_41 post n x1 b4 x6 M → lv_has ls 7 [(0, .ref (a 7)), (1, .long x1), (4, .ref (a (nf_ro b4))), (6, .int x6)] → nf_W D a s sz H locs M → W p l e rm_P_fillWhole s m args below meth c H locs 0 0 (nf_MQ below (nf_Q nf_jN D a post ex (nf_A a sz)) args s rm_P_fillWhole.cells rm_P_fillWhole.slots (nf_A a sz)) (F0 m 41 ls []) := by
  have hx := K.1
  have hb := K.2.1
  intro n
  induction n with
  | zero => intro x1 b4 x6 M H locs ls h hl hw; exact h.elim
  | succ n ih =>
    intro x1 b4 x6 M H locs ls h hl hw
    refine lv_iload hx hb d_P_fillWhole_41 (lv_at hl 3 rfl) ?_
    refine nf_if_lt hx hb d_P_fillWhole_43 (tgt := 92) (by decide) (fun hc => ?_) (fun hc => ?_)
    · have h := h.1 hc
      exact nf_vret K hw d_P_fillWhole_92 (Nat.le_of_ble_eq_true rfl) (Nat.le_of_ble_eq_true rfl) (r := ()) rfl h
    · have h := h.2 hc
      refine lv_aload hx hb d_P_fillWhole_46 (lv_at hl 2 rfl) ?_
      refine lv_lload_n hx hb d_P_fillWhole_48 rfl (lv_at hl 1 rfl) ?_
      refine lv_iload hx hb d_P_fillWhole_49 (lv_at hl 3 rfl) ?_
      refine nf_callW (ex := (fun _ _ => False)) (As := [.long x1, .int x6]) (st0 := [.int x6, .long x1, .ref (a (nf_ro b4))]) (rest := [.ref (a (nf_ro b4))]) K hw (nf_invSN hx hb K.2.2.2.1 ((nf_Kr K nv_893).use rfl) (nf_Kg K nw_811) (nf_Kg K nw_1) (nf_Kg K nw_812) ⟨by decide, by decide⟩ rfl nl_F_digitAt rfl d_P_fillWhole_51) (c_F_digitAt l hfl x1 x6) nw_812 nw_1 rfl ⟨by decide, by decide⟩ (Nat.le_of_ble_eq_true rfl) hl.1 ⟨Nat.le_of_ble_eq_true rfl, Nat.le_of_ble_eq_true rfl⟩ h (fun _ _ h => h.elim) (fun r1 M2 H locs h hw => ?_)
      refine W.eq (g2 := F0 m 54 ls [.int r1, .ref (a (nf_ro b4))]) rfl ?_
      refine nf_callW (ex := (fun _ _ => False)) (As := [.ref (a (nf_ro b4)), .int r1]) (st0 := [.int r1, .ref (a (nf_ro b4))]) (rest := []) K hw (nf_invVN hx hb K.2.2.2.1 ((nf_Kr K nv_881).use rfl) (nf_Kg K nw_199) (nf_Kg K nx_R_add) (nf_Kg K nw_200) ⟨by decide, by decide⟩ (nf_rcv K hw (nf_ro b4) 3 (nf_heR _ _ _) rfl) rfl nl_R_add rfl d_P_fillWhole_54) (c_R_add l hfl b4 r1) nw_200 nw_3 rfl ⟨by decide, by decide⟩ (Nat.le_of_ble_eq_true rfl) hl.1 ⟨Nat.le_of_ble_eq_true rfl, Nat.le_of_ble_eq_true rfl⟩ h (fun _ _ h => h.elim) (fun r3 M4 H locs h hw => ?_)
      refine W.eq (g2 := F0 m 57 ls []) rfl ?_
      refine lv_aload_n hx hb d_P_fillWhole_57 rfl (lv_at hl 0 rfl) ?_
      refine nf_get (v := .int (mg_I M4 7 4)) K hw 7 2 4 nw_115 rfl rfl ni_P (by decide) rfl rfl d_P_fillWhole_58 ?_
      refine nf_if_le hx hb d_P_fillWhole_61 (tgt := 86) (by decide) (fun hc => ?_) (fun hc => ?_)
      · have h := h.1 hc
        refine lv_iload hx hb d_P_fillWhole_64 (lv_at hl 3 rfl) ?_
        refine nf_if_le hx hb d_P_fillWhole_66 (tgt := 86) (by decide) (fun hc => ?_) (fun hc => ?_)
        · have h := h.1 hc
          refine lv_iload hx hb d_P_fillWhole_69 (lv_at hl 3 rfl) ?_
          refine lv_aload_n hx hb d_P_fillWhole_71 rfl (lv_at hl 0 rfl) ?_
          refine nf_get (v := .int (mg_I M4 7 4)) K hw 7 2 4 nw_115 rfl rfl ni_P (by decide) rfl rfl d_P_fillWhole_72 ?_
          obtain ⟨g5, h⟩ := h
          refine lv_irem hx hb d_P_fillWhole_75 g5 ?_
          refine nf_if_ne hx hb d_P_fillWhole_76 (tgt := 86) (by decide) (fun hc => ?_) (fun hc => ?_)
          · have h := h.1 hc
            refine lv_aload hx hb d_P_fillWhole_79 (lv_at hl 2 rfl) ?_
            refine lv_bipush (v := (44 : Int32)) hx hb d_P_fillWhole_81 (by decide) ?_
            refine nf_callW (ex := (fun _ _ => False)) (As := [.ref (a (nf_ro b4)), .int (44 : Int32)]) (st0 := [.int (44 : Int32), .ref (a (nf_ro b4))]) (rest := []) K hw (nf_invVN hx hb K.2.2.2.1 ((nf_Kr K nv_881).use rfl) (nf_Kg K nw_199) (nf_Kg K nx_R_add) (nf_Kg K nw_200) ⟨by decide, by decide⟩ (nf_rcv K hw (nf_ro b4) 3 (nf_heR _ _ _) rfl) rfl nl_R_add rfl d_P_fillWhole_83) (c_R_add l hfl b4 (44 : Int32)) nw_200 nw_3 rfl ⟨by decide, by decide⟩ (Nat.le_of_ble_eq_true rfl) hl.1 ⟨Nat.le_of_ble_eq_true rfl, Nat.le_of_ble_eq_true rfl⟩ h (fun _ _ h => h.elim) (fun r6 M7 H locs h hw => ?_)
            refine W.eq (g2 := F0 m 86 ls []) rfl ?_
            exact w_P_fillWhole_86 hfl K (fun x1 b4 x6 z => B_P_fillWhole_41 post n x1 b4 x6 z) (fun x1 b4 x6 z H locs ls hh hll hww => ih x1 b4 x6 z H locs ls hh hll hww) x1 b4 x6 M7 _ _ _ h (lv_sub hl [0, 1, 2, 3] rfl) hw
          · have h := h.2 hc
            exact w_P_fillWhole_86 hfl K (fun x1 b4 x6 z => B_P_fillWhole_41 post n x1 b4 x6 z) (fun x1 b4 x6 z H locs ls hh hll hww => ih x1 b4 x6 z H locs ls hh hll hww) x1 b4 x6 M4 _ _ _ h (lv_sub hl [0, 1, 2, 3] rfl) hw
        · have h := h.2 hc
          exact w_P_fillWhole_86 hfl K (fun x1 b4 x6 z => B_P_fillWhole_41 post n x1 b4 x6 z) (fun x1 b4 x6 z H locs ls hh hll hww => ih x1 b4 x6 z H locs ls hh hll hww) x1 b4 x6 M4 _ _ _ h (lv_sub hl [0, 1, 2, 3] rfl) hw
      · have h := h.2 hc
        exact w_P_fillWhole_86 hfl K (fun x1 b4 x6 z => B_P_fillWhole_41 post n x1 b4 x6 z) (fun x1 b4 x6 z H locs ls hh hll hww => ih x1 b4 x6 z H locs ls hh hll hww) x1 b4 x6 M4 _ _ _ h (lv_sub hl [0, 1, 2, 3] rfl) hw
theorem w_P_fillWhole_35 {post : Unit → nf_M → Prop} (hfl : l.flags = flags0) (K : nf_K p s m args meth c "NumberForge$Picture" nb_P_fillWhole 7 none D a sz) : ∀ (x1 : Int64) (b4 : Bool) (x5 : Int32) (M : nf_M) (H : Heap) (locs : List Loc) (ls : Array Slot), B_P_fillWhole_35 post x1 b4 x5 M → lv_has ls 7 [(0, .ref (a 7)), (1, .long x1), (4, .ref (a (nf_ro b4))), (5, .int x5)] → nf_W D a s sz H locs M → W p l e rm_P_fillWhole s m args below meth c H locs 0 0 (nf_MQ below (nf_Q nf_jN D a post ex (nf_A a sz)) args s rm_P_fillWhole.cells rm_P_fillWhole.slots (nf_A a sz)) (F0 m 35 ls []) := by
  have hx := K.1
  have hb := K.2.1
  intro x1 b4 x5 M H locs ls h hl hw
  refine lv_iload hx hb d_P_fillWhole_35 (lv_at hl 3 rfl) ?_
  refine lv_iconst (v := (1 : Int32)) hx hb d_P_fillWhole_37 (by decide) ?_
  refine lv_isub hx hb d_P_fillWhole_38 ?_
  refine lv_topi (fun t1 et1 => ?_)
  have h := h t1 et1
  refine lv_istore (lv' := [(6, .int t1), (0, .ref (a 7)), (1, .long x1), (4, .ref (a (nf_ro b4))), (5, .int x5)]) hx hb d_P_fillWhole_39 hl (by decide) rfl (fun ls hl => ?_)
  obtain ⟨n, h⟩ := h
  exact w_P_fillWhole_41 hfl K n x1 b4 t1 M _ _ _ h (lv_sub hl [1, 2, 3, 0] rfl) hw
theorem w_P_fillWhole_14 {post : Unit → nf_M → Prop} (hfl : l.flags = flags0) (K : nf_K p s m args meth c "NumberForge$Picture" nb_P_fillWhole 7 none D a sz) : ∀ (x1 : Int64) (x3 : Int32) (b4 : Bool) (xy0 : Int32) (M : nf_M) (H : Heap) (locs : List Loc) (ls : Array Slot), B_P_fillWhole_14 post x1 x3 b4 xy0 M → lv_has ls 7 [(0, .ref (a 7)), (1, .long x1), (3, .int x3), (4, .ref (a (nf_ro b4)))] → nf_W D a s sz H locs M → W p l e rm_P_fillWhole s m args below meth c H locs 0 0 (nf_MQ below (nf_Q nf_jN D a post ex (nf_A a sz)) args s rm_P_fillWhole.cells rm_P_fillWhole.slots (nf_A a sz)) (F0 m 14 ls [.int xy0]) := by
  have hx := K.1
  have hb := K.2.1
  intro x1 x3 b4 xy0 M H locs ls h hl hw
  refine lv_aload_n hx hb d_P_fillWhole_14 rfl (lv_at hl 0 rfl) ?_
  refine nf_get (v := .int (mg_I M 7 3)) K hw 7 2 3 nw_114 rfl rfl ni_P (by decide) rfl rfl d_P_fillWhole_15 ?_
  refine nf_callW (ex := (fun _ _ => False)) (As := [.int xy0, .int (mg_I M 7 3)]) (st0 := [.int (mg_I M 7 3), .int xy0]) (rest := []) K hw (nf_invS hx hb K.2.2.2.1 (nf_Kg K nw_879) (nf_Kg K nw_64) (nf_Kg K nw_4) (nf_Kg K nw_65) ⟨by decide, by decide⟩ rfl nl_JM_max rfl d_P_fillWhole_18) (c_JM_max l hfl xy0 (mg_I M 7 3)) nw_65 nw_4 rfl ⟨by decide, by decide⟩ (Nat.le_of_ble_eq_true rfl) hl.1 ⟨Nat.le_of_ble_eq_true rfl, Nat.le_of_ble_eq_true rfl⟩ h (fun _ _ h => h.elim) (fun r1 M2 H locs h hw => ?_)
  refine W.eq (g2 := F0 m 21 ls [.int r1]) rfl ?_
  refine lv_istore (lv' := [(5, .int r1), (0, .ref (a 7)), (1, .long x1), (3, .int x3), (4, .ref (a (nf_ro b4)))]) hx hb d_P_fillWhole_21 hl (by decide) rfl (fun ls hl => ?_)
  refine lv_iload hx hb d_P_fillWhole_23 (lv_at hl 0 rfl) ?_
  refine nf_if_ne hx hb d_P_fillWhole_25 (tgt := 35) (by decide) (fun hc => ?_) (fun hc => ?_)
  · have h := h.1 hc
    refine lv_iload_n hx hb d_P_fillWhole_28 rfl (lv_at hl 3 rfl) ?_
    refine nf_if_eq hx hb d_P_fillWhole_29 (tgt := 35) (by decide) (fun hc => ?_) (fun hc => ?_)
    · have h := h.1 hc
      exact w_P_fillWhole_35 hfl K x1 b4 r1 M2 _ _ _ h (lv_sub hl [1, 2, 4, 0] rfl) hw
    · have h := h.2 hc
      refine lv_iconst (v := (1 : Int32)) hx hb d_P_fillWhole_32 (by decide) ?_
      refine lv_istore (lv' := [(5, .int (1 : Int32)), (0, .ref (a 7)), (1, .long x1), (3, .int x3), (4, .ref (a (nf_ro b4)))]) hx hb d_P_fillWhole_33 hl (by decide) rfl (fun ls hl => ?_)
      exact w_P_fillWhole_35 hfl K x1 b4 (1 : Int32) M2 _ _ _ h (lv_sub hl [1, 2, 4, 0] rfl) hw
  · have h := h.2 hc
    exact w_P_fillWhole_35 hfl K x1 b4 r1 M2 _ _ _ h (lv_sub hl [1, 2, 4, 0] rfl) hw
theorem c_P_fillWhole (l : Launch) (hfl : l.flags = flags0) (x1 : Int64) (x3 : Int32) (b4 : Bool) : nf_C nf_jN l nm_P_fillWhole nb_P_fillWhole 7 none rm_P_fillWhole (fun a => [.ref (a 7), .long x1, .int x3, .ref (a (nf_ro b4))]) (fun M post ex => P_P_fillWhole x1 x3 b4 M post) := by
  refine nf_start (plainFor_of_name (by decide +kernel)) (fun a => Nat.le_of_ble_eq_true rfl) ?_
  intro D a sz M post ex p e s m below meth c ls h K hl hw
  have hx := K.1
  have hb := K.2.1
  have hl : lv_has ls 7 [(0, .ref (a 7)), (1, .long x1), (3, .int x3), (4, .ref (a (nf_ro b4)))] := hl
  refine lv_lload_n hx hb d_P_fillWhole_0 rfl (lv_at hl 1 rfl) ?_
  refine lv_lconst (v := (0 : Int64)) hx hb d_P_fillWhole_1 (by decide) ?_
  refine nf_lc_ne hx hb d_P_fillWhole_2 d_P_fillWhole_3 (tgt := 10) (by decide) (fun hc => ?_) (fun hc => ?_)
  · have h := h.1 hc
    refine lv_iconst (v := (0 : Int32)) hx hb d_P_fillWhole_6 (by decide) ?_
    refine lv_goto hx hb d_P_fillWhole_7 (tgt := 14) (by decide) ?_
    exact w_P_fillWhole_14 hfl K x1 x3 b4 (0 : Int32) M _ _ _ h (lv_sub hl [0, 1, 2, 3] rfl) hw
  · have h := h.2 hc
    refine lv_lload_n hx hb d_P_fillWhole_10 rfl (lv_at hl 1 rfl) ?_
    refine nf_callW (ex := (fun _ _ => False)) (As := [.long x1]) (st0 := [.long x1]) (rest := []) K hw (nf_invSN hx hb K.2.2.2.1 ((nf_Kr K nv_892).use rfl) (nf_Kg K nw_808) (nf_Kg K nw_1) (nf_Kg K nw_809) ⟨by decide, by decide⟩ rfl nl_F_digitCount rfl d_P_fillWhole_11) (c_F_digitCount l hfl x1) nw_809 nw_1 rfl ⟨by decide, by decide⟩ (Nat.le_of_ble_eq_true rfl) hl.1 ⟨Nat.le_of_ble_eq_true rfl, Nat.le_of_ble_eq_true rfl⟩ h (fun _ _ h => h.elim) (fun r1 M2 H locs h hw => ?_)
    refine W.eq (g2 := F0 m 14 ls [.int r1]) rfl ?_
    exact w_P_fillWhole_14 hfl K x1 x3 b4 r1 M2 _ _ _ h (lv_sub hl [0, 1, 2, 3] rfl) hw
theorem d_P_fill_0 : decode nb_P_fill 0 = .ok (.aload_n 2, 1) := by decide +kernel
theorem d_P_fill_1 : decode nb_P_fill 1 = .ok (.getfield 73, 3) := by decide +kernel
theorem d_P_fill_4 : decode nb_P_fill 4 = .ok (.invokestatic 79, 3) := by decide +kernel
theorem d_P_fill_7 : decode nb_P_fill 7 = .ok (.lstore 4, 2) := by decide +kernel
theorem d_P_fill_9 : decode nb_P_fill 9 = .ok (.aload_n 0, 1) := by decide +kernel
theorem d_P_fill_10 : decode nb_P_fill 10 = .ok (.getfield 20, 3) := by decide +kernel
theorem d_P_fill_13 : decode nb_P_fill 13 = .ok (.aload_n 2, 1) := by decide +kernel
theorem d_P_fill_14 : decode nb_P_fill 14 = .ok (.getfield 85, 3) := by decide +kernel
theorem d_P_fill_17 : decode nb_P_fill 17 = .ok (.invokestatic 88, 3) := by decide +kernel
theorem d_P_fill_20 : decode nb_P_fill 20 = .ok (.istore 6, 2) := by decide +kernel
theorem d_P_fill_22 : decode nb_P_fill 22 = .ok (.aload_n 3, 1) := by decide +kernel
theorem d_P_fill_23 : decode nb_P_fill 23 = .ok (.invokevirtual 92, 3) := by decide +kernel
theorem d_P_fill_26 : decode nb_P_fill 26 = .ok (.aload_n 2, 1) := by decide +kernel
theorem d_P_fill_27 : decode nb_P_fill 27 = .ok (.getfield 73, 3) := by decide +kernel
theorem d_P_fill_30 : decode nb_P_fill 30 = .ok (.lconst 0, 1) := by decide +kernel
theorem d_P_fill_31 : decode nb_P_fill 31 = .ok (.lcmp, 1) := by decide +kernel
theorem d_P_fill_32 : decode nb_P_fill 32 = .ok (.ifCond .ge 9, 3) := by decide +kernel
theorem d_P_fill_35 : decode nb_P_fill 35 = .ok (.aload_n 3, 1) := by decide +kernel
theorem d_P_fill_36 : decode nb_P_fill 36 = .ok (.bipush 45, 2) := by decide +kernel
theorem d_P_fill_38 : decode nb_P_fill 38 = .ok (.invokevirtual 95, 3) := by decide +kernel
theorem d_P_fill_41 : decode nb_P_fill 41 = .ok (.aload_n 3, 1) := by decide +kernel
theorem d_P_fill_42 : decode nb_P_fill 42 = .ok (.aload_n 1, 1) := by decide +kernel
theorem d_P_fill_43 : decode nb_P_fill 43 = .ok (.iconst 0, 1) := by decide +kernel
theorem d_P_fill_44 : decode nb_P_fill 44 = .ok (.aload_n 0, 1) := by decide +kernel
theorem d_P_fill_45 : decode nb_P_fill 45 = .ok (.getfield 13, 3) := by decide +kernel
theorem d_P_fill_48 : decode nb_P_fill 48 = .ok (.invokevirtual 99, 3) := by decide +kernel
theorem d_P_fill_51 : decode nb_P_fill 51 = .ok (.aload_n 0, 1) := by decide +kernel
theorem d_P_fill_52 : decode nb_P_fill 52 = .ok (.lload 4, 2) := by decide +kernel
theorem d_P_fill_54 : decode nb_P_fill 54 = .ok (.aload_n 2, 1) := by decide +kernel
theorem d_P_fill_55 : decode nb_P_fill 55 = .ok (.getfield 85, 3) := by decide +kernel
theorem d_P_fill_58 : decode nb_P_fill 58 = .ok (.invokestatic 103, 3) := by decide +kernel
theorem d_P_fill_61 : decode nb_P_fill 61 = .ok (.invokestatic 109, 3) := by decide +kernel
theorem d_P_fill_64 : decode nb_P_fill 64 = .ok (.iload 6, 2) := by decide +kernel
theorem d_P_fill_66 : decode nb_P_fill 66 = .ok (.ifCond .ne 7, 3) := by decide +kernel
theorem d_P_fill_69 : decode nb_P_fill 69 = .ok (.iconst 1, 1) := by decide +kernel
theorem d_P_fill_70 : decode nb_P_fill 70 = .ok (.goto 4, 3) := by decide +kernel
theorem d_P_fill_73 : decode nb_P_fill 73 = .ok (.iconst 0, 1) := by decide +kernel
theorem d_P_fill_74 : decode nb_P_fill 74 = .ok (.aload_n 3, 1) := by decide +kernel
theorem d_P_fill_75 : decode nb_P_fill 75 = .ok (.invokevirtual 113, 3) := by decide +kernel
theorem d_P_fill_78 : decode nb_P_fill 78 = .ok (.iload 6, 2) := by decide +kernel
theorem d_P_fill_80 : decode nb_P_fill 80 = .ok (.ifCond .le 9, 3) := by decide +kernel
theorem d_P_fill_83 : decode nb_P_fill 83 = .ok (.aload_n 3, 1) := by decide +kernel
theorem d_P_fill_84 : decode nb_P_fill 84 = .ok (.bipush 46, 2) := by decide +kernel
theorem d_P_fill_86 : decode nb_P_fill 86 = .ok (.invokevirtual 95, 3) := by decide +kernel
theorem d_P_fill_89 : decode nb_P_fill 89 = .ok (.aload_n 2, 1) := by decide +kernel
theorem d_P_fill_90 : decode nb_P_fill 90 = .ok (.getfield 85, 3) := by decide +kernel
theorem d_P_fill_93 : decode nb_P_fill 93 = .ok (.iconst 1, 1) := by decide +kernel
theorem d_P_fill_94 : decode nb_P_fill 94 = .ok (.isub, 1) := by decide +kernel
theorem d_P_fill_95 : decode nb_P_fill 95 = .ok (.istore 7, 2) := by decide +kernel
theorem d_P_fill_97 : decode nb_P_fill 97 = .ok (.iload 7, 2) := by decide +kernel
theorem d_P_fill_99 : decode nb_P_fill 99 = .ok (.aload_n 2, 1) := by decide +kernel
theorem d_P_fill_100 : decode nb_P_fill 100 = .ok (.getfield 85, 3) := by decide +kernel
theorem d_P_fill_103 : decode nb_P_fill 103 = .ok (.iload 6, 2) := by decide +kernel
theorem d_P_fill_105 : decode nb_P_fill 105 = .ok (.isub, 1) := by decide +kernel
theorem d_P_fill_106 : decode nb_P_fill 106 = .ok (.if_icmp .lt 30, 3) := by decide +kernel
theorem d_P_fill_109 : decode nb_P_fill 109 = .ok (.aload_n 3, 1) := by decide +kernel
theorem d_P_fill_110 : decode nb_P_fill 110 = .ok (.iload 7, 2) := by decide +kernel
theorem d_P_fill_112 : decode nb_P_fill 112 = .ok (.ifCond .ge 8, 3) := by decide +kernel
theorem d_P_fill_115 : decode nb_P_fill 115 = .ok (.bipush 48, 2) := by decide +kernel
theorem d_P_fill_117 : decode nb_P_fill 117 = .ok (.goto 10, 3) := by decide +kernel
theorem d_P_fill_120 : decode nb_P_fill 120 = .ok (.lload 4, 2) := by decide +kernel
theorem d_P_fill_122 : decode nb_P_fill 122 = .ok (.iload 7, 2) := by decide +kernel
theorem d_P_fill_124 : decode nb_P_fill 124 = .ok (.invokestatic 117, 3) := by decide +kernel
theorem d_P_fill_127 : decode nb_P_fill 127 = .ok (.invokevirtual 95, 3) := by decide +kernel
theorem d_P_fill_130 : decode nb_P_fill 130 = .ok (.iinc 7 (-1), 3) := by decide +kernel
theorem d_P_fill_133 : decode nb_P_fill 133 = .ok (.goto (-36), 3) := by decide +kernel
theorem d_P_fill_136 : decode nb_P_fill 136 = .ok (.aload_n 3, 1) := by decide +kernel
theorem d_P_fill_137 : decode nb_P_fill 137 = .ok (.aload_n 1, 1) := by decide +kernel
theorem d_P_fill_138 : decode nb_P_fill 138 = .ok (.aload_n 0, 1) := by decide +kernel
theorem d_P_fill_139 : decode nb_P_fill 139 = .ok (.getfield 36, 3) := by decide +kernel
theorem d_P_fill_142 : decode nb_P_fill 142 = .ok (.aload_n 1, 1) := by decide +kernel
theorem d_P_fill_143 : decode nb_P_fill 143 = .ok (.getfield 53, 3) := by decide +kernel
theorem d_P_fill_146 : decode nb_P_fill 146 = .ok (.invokevirtual 99, 3) := by decide +kernel
theorem d_P_fill_149 : decode nb_P_fill 149 = .ok (.return_, 1) := by decide +kernel
abbrev rm_P_fill : Room := ({ frames := 3, cells := 0, slots := 0, locals := 71 })
theorem w_P_fill_127 {post : Unit → nf_M → Prop} (hfl : l.flags = flags0) (K : nf_K p s m args meth c "NumberForge$Picture" nb_P_fill 8 none D a sz) (k97 : Bool → Fin 9 → Bool → Int64 → Int32 → Int32 → nf_M → Prop) (hk97 : ∀ (b1 : Bool) (v2 : Fin 9) (b3 : Bool) (x4 : Int64) (x6 : Int32) (x7 : Int32) (M : nf_M) (H : Heap) (locs : List Loc) (ls : Array Slot), k97 b1 v2 b3 x4 x6 x7 M → lv_has ls 8 [(0, .ref (a 7)), (1, .ref (a (nf_ro b1))), (2, .ref (a (10 + (v2 : Fin 9).val))), (3, .ref (a (nf_ro b3))), (4, .long x4), (6, .int x6), (7, .int x7)] → nf_W D a s sz H locs M → W p l e rm_P_fill s m args below meth c H locs 0 0 (nf_MQ below (nf_Q nf_jN D a post ex (nf_A a sz)) args s rm_P_fill.cells rm_P_fill.slots (nf_A a sz)) (F0 m 97 ls [])) : ∀ (b1 : Bool) (v2 : Fin 9) (b3 : Bool) (x4 : Int64) (x6 : Int32) (x7 : Int32) (xy0 : Int32) (by1 : Bool) (M : nf_M) (H : Heap) (locs : List Loc) (ls : Array Slot), B_P_fill_127 k97 post b1 v2 b3 x4 x6 x7 xy0 by1 M → lv_has ls 8 [(0, .ref (a 7)), (1, .ref (a (nf_ro b1))), (2, .ref (a (10 + (v2 : Fin 9).val))), (3, .ref (a (nf_ro b3))), (4, .long x4), (6, .int x6), (7, .int x7)] → nf_W D a s sz H locs M → W p l e rm_P_fill s m args below meth c H locs 0 0 (nf_MQ below (nf_Q nf_jN D a post ex (nf_A a sz)) args s rm_P_fill.cells rm_P_fill.slots (nf_A a sz)) (F0 m 127 ls [.int xy0, .ref (a (nf_ro by1))]) := by
  have hx := K.1
  have hb := K.2.1
  intro b1 v2 b3 x4 x6 x7 xy0 by1 M H locs ls h hl hw
  refine nf_callW (ex := (fun _ _ => False)) (As := [.ref (a (nf_ro by1)), .int xy0]) (st0 := [.int xy0, .ref (a (nf_ro by1))]) (rest := []) K hw (nf_invVN hx hb K.2.2.2.1 ((nf_Kr K nv_881).use rfl) (nf_Kg K nw_199) (nf_Kg K nx_R_add) (nf_Kg K nw_200) ⟨by decide, by decide⟩ (nf_rcv K hw (nf_ro by1) 3 (nf_heR _ _ _) rfl) rfl nl_R_add rfl d_P_fill_127) (c_R_add l hfl by1 xy0) nw_200 nw_3 rfl ⟨by decide, by decide⟩ (Nat.le_of_ble_eq_true rfl) hl.1 ⟨Nat.le_of_ble_eq_true rfl, Nat.le_of_ble_eq_true rfl⟩ h (fun _ _ h => h.elim) (fun r1 M2 H locs h hw => ?_)
  refine W.eq (g2 := F0 m 130 ls []) rfl ?_
  refine lv_iinc (k := 6) (v := x7 + (-1 : Int32)) (lv' := [(7, .int (x7 + (-1 : Int32))), (0, .ref (a 7)), (1, .ref (a (nf_ro b1))), (2, .ref (a (10 + (v2 : Fin 9).val))), (3, .ref (a (nf_ro b3))), (4, .long x4), (6, .int x6)]) hx hb d_P_fill_130 hl rfl (nf_inc (by decide)) (by decide) rfl (fun ls hl => ?_)
  refine lv_goto hx hb d_P_fill_133 (tgt := 97) (by decide) ?_
  exact hk97 b1 v2 b3 x4 x6 (x7 + (-1 : Int32)) M2 _ _ _ h (lv_sub hl [1, 2, 3, 4, 5, 6, 0] rfl) hw
theorem w_P_fill_97 {post : Unit → nf_M → Prop} (hfl : l.flags = flags0) (K : nf_K p s m args meth c "NumberForge$Picture" nb_P_fill 8 none D a sz) : ∀ (n : Nat) (b1 : Bool) (v2 : Fin 9) (b3 : Bool) (x4 : Int64) (x6 : Int32) (x7 : Int32) (M : nf_M) (H : Heap) (locs : List Loc) (ls : Array Slot), B_P_fill_97 post n b1 v2 b3 x4 x6 x7 M → lv_has ls 8 [(0, .ref (a 7)), (1, .ref (a (nf_ro b1))), (2, .ref (a (10 + (v2 : Fin 9).val))), (3, .ref (a (nf_ro b3))), (4, .long x4), (6, .int x6), (7, .int x7)] → nf_W D a s sz H locs M → W p l e rm_P_fill s m args below meth c H locs 0 0 (nf_MQ below (nf_Q nf_jN D a post ex (nf_A a sz)) args s rm_P_fill.cells rm_P_fill.slots (nf_A a sz)) (F0 m 97 ls []) := by
  have hx := K.1
  have hb := K.2.1
  intro n
  induction n with
  | zero => intro b1 v2 b3 x4 x6 x7 M H locs ls h hl hw; exact h.elim
  | succ n ih =>
    intro b1 v2 b3 x4 x6 x7 M H locs ls h hl hw
    refine lv_iload hx hb d_P_fill_97 (lv_at hl 6 rfl) ?_
    refine lv_aload_n hx hb d_P_fill_99 rfl (lv_at hl 2 rfl) ?_
    refine nf_getN (v := .int (mg_S M v2)) K hw (10 + (v2 : Fin 9).val) 4 2 nv_44 (nf_heV _ _ _) rfl ni_V (by decide) rfl rfl d_P_fill_100 ?_
    refine lv_iload hx hb d_P_fill_103 (lv_at hl 5 rfl) ?_
    refine lv_isub hx hb d_P_fill_105 ?_
    refine nf_ic_lt hx hb d_P_fill_106 (tgt := 136) (by decide) (fun hc => ?_) (fun hc => ?_)
    · have h := h.1 hc
      refine lv_aload_n hx hb d_P_fill_136 rfl (lv_at hl 3 rfl) ?_
      refine lv_aload_n hx hb d_P_fill_137 rfl (lv_at hl 1 rfl) ?_
      refine lv_aload_n hx hb d_P_fill_138 rfl (lv_at hl 0 rfl) ?_
      refine nf_get (v := .int (mg_I M 7 1)) K hw 7 2 1 nw_112 rfl rfl ni_P (by decide) rfl rfl d_P_fill_139 ?_
      refine lv_aload_n hx hb d_P_fill_142 rfl (lv_at hl 1 rfl) ?_
      refine nf_getN (v := .int (mg_N M b1)) K hw (nf_ro b1) 3 1 nv_69 (nf_heR _ _ _) rfl ni_R (by decide) rfl rfl d_P_fill_143 ?_
      refine nf_callW (ex := (fun _ _ => False)) (As := [.ref (a (nf_ro b3)), .ref (a (nf_ro b1)), .int (mg_I M 7 1), .int (mg_N M b1)]) (st0 := [.int (mg_N M b1), .int (mg_I M 7 1), .ref (a (nf_ro b1)), .ref (a (nf_ro b3))]) (rest := []) K hw (nf_invVN hx hb K.2.2.2.1 ((nf_Kr K nv_882).use rfl) (nf_Kg K nw_884) (nf_Kg K nx_R_addPart) (nf_Kg K nw_885) ⟨by decide, by decide⟩ (nf_rcv K hw (nf_ro b3) 3 (nf_heR _ _ _) rfl) rfl nl_R_addPart rfl d_P_fill_146) (c_R_addPart l hfl b3 b1 (mg_I M 7 1) (mg_N M b1)) nw_885 nw_3 rfl ⟨by decide, by decide⟩ (Nat.le_of_ble_eq_true rfl) hl.1 ⟨Nat.le_of_ble_eq_true rfl, Nat.le_of_ble_eq_true rfl⟩ h (fun _ _ h => h.elim) (fun r1 M2 H locs h hw => ?_)
      refine W.eq (g2 := F0 m 149 ls []) rfl ?_
      exact nf_vret K hw d_P_fill_149 (Nat.le_of_ble_eq_true rfl) (Nat.le_of_ble_eq_true rfl) (r := ()) rfl h
    · have h := h.2 hc
      refine lv_aload_n hx hb d_P_fill_109 rfl (lv_at hl 3 rfl) ?_
      refine lv_iload hx hb d_P_fill_110 (lv_at hl 6 rfl) ?_
      refine nf_if_ge hx hb d_P_fill_112 (tgt := 120) (by decide) (fun hc => ?_) (fun hc => ?_)
      · have h := h.1 hc
        refine lv_bipush (v := (48 : Int32)) hx hb d_P_fill_115 (by decide) ?_
        refine lv_goto hx hb d_P_fill_117 (tgt := 127) (by decide) ?_
        exact w_P_fill_127 hfl K (fun b1 v2 b3 x4 x6 x7 z => B_P_fill_97 post n b1 v2 b3 x4 x6 x7 z) (fun b1 v2 b3 x4 x6 x7 z H locs ls hh hll hww => ih b1 v2 b3 x4 x6 x7 z H locs ls hh hll hww) b1 v2 b3 x4 x6 x7 (48 : Int32) b3 M _ _ _ h (lv_sub hl [0, 1, 2, 3, 4, 5, 6] rfl) hw
      · have h := h.2 hc
        refine lv_lload hx hb d_P_fill_120 (lv_at hl 4 rfl) ?_
        refine lv_iload hx hb d_P_fill_122 (lv_at hl 6 rfl) ?_
        refine nf_callW (ex := (fun _ _ => False)) (As := [.long x4, .int x7]) (st0 := [.int x7, .long x4, .ref (a (nf_ro b3))]) (rest := [.ref (a (nf_ro b3))]) K hw (nf_invSN hx hb K.2.2.2.1 ((nf_Kr K nv_893).use rfl) (nf_Kg K nw_811) (nf_Kg K nw_1) (nf_Kg K nw_812) ⟨by decide, by decide⟩ rfl nl_F_digitAt rfl d_P_fill_124) (c_F_digitAt l hfl x4 x7) nw_812 nw_1 rfl ⟨by decide, by decide⟩ (Nat.le_of_ble_eq_true rfl) hl.1 ⟨Nat.le_of_ble_eq_true rfl, Nat.le_of_ble_eq_true rfl⟩ h (fun _ _ h => h.elim) (fun r3 M4 H locs h hw => ?_)
        refine W.eq (g2 := F0 m 127 ls [.int r3, .ref (a (nf_ro b3))]) rfl ?_
        exact w_P_fill_127 hfl K (fun b1 v2 b3 x4 x6 x7 z => B_P_fill_97 post n b1 v2 b3 x4 x6 x7 z) (fun b1 v2 b3 x4 x6 x7 z H locs ls hh hll hww => ih b1 v2 b3 x4 x6 x7 z H locs ls hh hll hww) b1 v2 b3 x4 x6 x7 r3 b3 M4 _ _ _ h (lv_sub hl [0, 1, 2, 3, 4, 5, 6] rfl) hw
theorem w_P_fill_89 {post : Unit → nf_M → Prop} (hfl : l.flags = flags0) (K : nf_K p s m args meth c "NumberForge$Picture" nb_P_fill 8 none D a sz) : ∀ (b1 : Bool) (v2 : Fin 9) (b3 : Bool) (x4 : Int64) (x6 : Int32) (M : nf_M) (H : Heap) (locs : List Loc) (ls : Array Slot), B_P_fill_89 post b1 v2 b3 x4 x6 M → lv_has ls 8 [(0, .ref (a 7)), (1, .ref (a (nf_ro b1))), (2, .ref (a (10 + (v2 : Fin 9).val))), (3, .ref (a (nf_ro b3))), (4, .long x4), (6, .int x6)] → nf_W D a s sz H locs M → W p l e rm_P_fill s m args below meth c H locs 0 0 (nf_MQ below (nf_Q nf_jN D a post ex (nf_A a sz)) args s rm_P_fill.cells rm_P_fill.slots (nf_A a sz)) (F0 m 89 ls []) := by
  have hx := K.1
  have hb := K.2.1
  intro b1 v2 b3 x4 x6 M H locs ls h hl hw
  refine lv_aload_n hx hb d_P_fill_89 rfl (lv_at hl 2 rfl) ?_
  refine nf_getN (v := .int (mg_S M v2)) K hw (10 + (v2 : Fin 9).val) 4 2 nv_44 (nf_heV _ _ _) rfl ni_V (by decide) rfl rfl d_P_fill_90 ?_
  refine lv_iconst (v := (1 : Int32)) hx hb d_P_fill_93 (by decide) ?_
  refine lv_isub hx hb d_P_fill_94 ?_
  refine lv_topi (fun t1 et1 => ?_)
  have h := h t1 et1
  refine lv_istore (lv' := [(7, .int t1), (0, .ref (a 7)), (1, .ref (a (nf_ro b1))), (2, .ref (a (10 + (v2 : Fin 9).val))), (3, .ref (a (nf_ro b3))), (4, .long x4), (6, .int x6)]) hx hb d_P_fill_95 hl (by decide) rfl (fun ls hl => ?_)
  obtain ⟨n, h⟩ := h
  exact w_P_fill_97 hfl K n b1 v2 b3 x4 x6 t1 M _ _ _ h (lv_sub hl [1, 2, 3, 4, 5, 6, 0] rfl) hw
theorem w_P_fill_74 {post : Unit → nf_M → Prop} (hfl : l.flags = flags0) (K : nf_K p s m args meth c "NumberForge$Picture" nb_P_fill 8 none D a sz) : ∀ (b1 : Bool) (v2 : Fin 9) (b3 : Bool) (x4 : Int64) (x6 : Int32) (xy0 : Int32) (xy1 : Int64) (M : nf_M) (H : Heap) (locs : List Loc) (ls : Array Slot), B_P_fill_74 post b1 v2 b3 x4 x6 xy0 xy1 M → lv_has ls 8 [(0, .ref (a 7)), (1, .ref (a (nf_ro b1))), (2, .ref (a (10 + (v2 : Fin 9).val))), (3, .ref (a (nf_ro b3))), (4, .long x4), (6, .int x6)] → nf_W D a s sz H locs M → W p l e rm_P_fill s m args below meth c H locs 0 0 (nf_MQ below (nf_Q nf_jN D a post ex (nf_A a sz)) args s rm_P_fill.cells rm_P_fill.slots (nf_A a sz)) (F0 m 74 ls [.int xy0, .long xy1, .ref (a 7)]) := by
  have hx := K.1
  have hb := K.2.1
  intro b1 v2 b3 x4 x6 xy0 xy1 M H locs ls h hl hw
  refine lv_aload_n hx hb d_P_fill_74 rfl (lv_at hl 3 rfl) ?_
  refine nf_callW (ex := (fun _ _ => False)) (As := [.ref (a 7), .long xy1, .int xy0, .ref (a (nf_ro b3))]) (st0 := [.ref (a (nf_ro b3)), .int xy0, .long xy1, .ref (a 7)]) (rest := []) K hw (nf_invV hx hb K.2.2.2.1 (nf_Kg K nw_888) (nf_Kg K nw_890) (nf_Kg K nx_P_fillWhole) (nf_Kg K nw_891) ⟨by decide, by decide⟩ (nf_rcv K hw 7 2 rfl rfl) rfl nl_P_fillWhole rfl d_P_fill_75) (c_P_fillWhole l hfl xy1 xy0 b3) nw_891 nw_6 rfl ⟨by decide, by decide⟩ (Nat.le_of_ble_eq_true rfl) hl.1 ⟨Nat.le_of_ble_eq_true rfl, Nat.le_of_ble_eq_true rfl⟩ h (fun _ _ h => h.elim) (fun r1 M2 H locs h hw => ?_)
  refine W.eq (g2 := F0 m 78 ls []) rfl ?_
  refine lv_iload hx hb d_P_fill_78 (lv_at hl 5 rfl) ?_
  refine nf_if_le hx hb d_P_fill_80 (tgt := 89) (by decide) (fun hc => ?_) (fun hc => ?_)
  · have h := h.1 hc
    refine lv_aload_n hx hb d_P_fill_83 rfl (lv_at hl 3 rfl) ?_
    refine lv_bipush (v := (46 : Int32)) hx hb d_P_fill_84 (by decide) ?_
    refine nf_callW (ex := (fun _ _ => False)) (As := [.ref (a (nf_ro b3)), .int (46 : Int32)]) (st0 := [.int (46 : Int32), .ref (a (nf_ro b3))]) (rest := []) K hw (nf_invVN hx hb K.2.2.2.1 ((nf_Kr K nv_881).use rfl) (nf_Kg K nw_199) (nf_Kg K nx_R_add) (nf_Kg K nw_200) ⟨by decide, by decide⟩ (nf_rcv K hw (nf_ro b3) 3 (nf_heR _ _ _) rfl) rfl nl_R_add rfl d_P_fill_86) (c_R_add l hfl b3 (46 : Int32)) nw_200 nw_3 rfl ⟨by decide, by decide⟩ (Nat.le_of_ble_eq_true rfl) hl.1 ⟨Nat.le_of_ble_eq_true rfl, Nat.le_of_ble_eq_true rfl⟩ h (fun _ _ h => h.elim) (fun r3 M4 H locs h hw => ?_)
    refine W.eq (g2 := F0 m 89 ls []) rfl ?_
    exact w_P_fill_89 hfl K b1 v2 b3 x4 x6 M4 _ _ _ h (lv_sub hl [0, 1, 2, 3, 4, 5] rfl) hw
  · have h := h.2 hc
    exact w_P_fill_89 hfl K b1 v2 b3 x4 x6 M2 _ _ _ h (lv_sub hl [0, 1, 2, 3, 4, 5] rfl) hw
theorem w_P_fill_41 {post : Unit → nf_M → Prop} (hfl : l.flags = flags0) (K : nf_K p s m args meth c "NumberForge$Picture" nb_P_fill 8 none D a sz) : ∀ (b1 : Bool) (v2 : Fin 9) (b3 : Bool) (x4 : Int64) (x6 : Int32) (M : nf_M) (H : Heap) (locs : List Loc) (ls : Array Slot), B_P_fill_41 post b1 v2 b3 x4 x6 M → lv_has ls 8 [(0, .ref (a 7)), (1, .ref (a (nf_ro b1))), (2, .ref (a (10 + (v2 : Fin 9).val))), (3, .ref (a (nf_ro b3))), (4, .long x4), (6, .int x6)] → nf_W D a s sz H locs M → W p l e rm_P_fill s m args below meth c H locs 0 0 (nf_MQ below (nf_Q nf_jN D a post ex (nf_A a sz)) args s rm_P_fill.cells rm_P_fill.slots (nf_A a sz)) (F0 m 41 ls []) := by
  have hx := K.1
  have hb := K.2.1
  intro b1 v2 b3 x4 x6 M H locs ls h hl hw
  refine lv_aload_n hx hb d_P_fill_41 rfl (lv_at hl 3 rfl) ?_
  refine lv_aload_n hx hb d_P_fill_42 rfl (lv_at hl 1 rfl) ?_
  refine lv_iconst (v := (0 : Int32)) hx hb d_P_fill_43 (by decide) ?_
  refine lv_aload_n hx hb d_P_fill_44 rfl (lv_at hl 0 rfl) ?_
  refine nf_get (v := .int (mg_I M 7 0)) K hw 7 2 0 nw_111 rfl rfl ni_P (by decide) rfl rfl d_P_fill_45 ?_
  refine nf_callW (ex := (fun _ _ => False)) (As := [.ref (a (nf_ro b3)), .ref (a (nf_ro b1)), .int (0 : Int32), .int (mg_I M 7 0)]) (st0 := [.int (mg_I M 7 0), .int (0 : Int32), .ref (a (nf_ro b1)), .ref (a (nf_ro b3))]) (rest := []) K hw (nf_invVN hx hb K.2.2.2.1 ((nf_Kr K nv_882).use rfl) (nf_Kg K nw_884) (nf_Kg K nx_R_addPart) (nf_Kg K nw_885) ⟨by decide, by decide⟩ (nf_rcv K hw (nf_ro b3) 3 (nf_heR _ _ _) rfl) rfl nl_R_addPart rfl d_P_fill_48) (c_R_addPart l hfl b3 b1 (0 : Int32) (mg_I M 7 0)) nw_885 nw_3 rfl ⟨by decide, by decide⟩ (Nat.le_of_ble_eq_true rfl) hl.1 ⟨Nat.le_of_ble_eq_true rfl, Nat.le_of_ble_eq_true rfl⟩ h (fun _ _ h => h.elim) (fun r1 M2 H locs h hw => ?_)
  refine W.eq (g2 := F0 m 51 ls []) rfl ?_
  refine lv_aload_n hx hb d_P_fill_51 rfl (lv_at hl 0 rfl) ?_
  refine lv_lload hx hb d_P_fill_52 (lv_at hl 4 rfl) ?_
  refine lv_aload_n hx hb d_P_fill_54 rfl (lv_at hl 2 rfl) ?_
  refine nf_getN (v := .int (mg_S M2 v2)) K hw (10 + (v2 : Fin 9).val) 4 2 nv_44 (nf_heV _ _ _) rfl ni_V (by decide) rfl rfl d_P_fill_55 ?_
  refine nf_callW (ex := (fun _ _ => False)) (As := [.int (mg_S M2 v2)]) (st0 := [.int (mg_S M2 v2), .long x4, .ref (a 7)]) (rest := [.long x4, .ref (a 7)]) K hw (nf_invSN hx hb K.2.2.2.1 ((nf_Kr K nv_886).use rfl) (nf_Kg K nw_352) (nf_Kg K nw_1) (nf_Kg K nw_353) ⟨by decide, by decide⟩ rfl nl_F_power rfl d_P_fill_58) (c_F_power l hfl (mg_S M2 v2)) nw_353 nw_1 rfl ⟨by decide, by decide⟩ (Nat.le_of_ble_eq_true rfl) hl.1 ⟨Nat.le_of_ble_eq_true rfl, Nat.le_of_ble_eq_true rfl⟩ h (fun _ _ h => h.elim) (fun r3 M4 H locs h hw => ?_)
  refine W.eq (g2 := F0 m 61 ls [.long r3, .long x4, .ref (a 7)]) rfl ?_
  refine nf_callW (ex := (fun _ _ => False)) (As := [.long x4, .long r3]) (st0 := [.long r3, .long x4, .ref (a 7)]) (rest := [.ref (a 7)]) K hw (nf_invSN hx hb K.2.2.2.1 ((nf_Kr K nv_887).use rfl) (nf_Kg K nw_554) (nf_Kg K nw_1) (nf_Kg K nw_555) ⟨by decide, by decide⟩ rfl nl_F_over rfl d_P_fill_61) (c_F_over l hfl x4 r3) nw_555 nw_1 rfl ⟨by decide, by decide⟩ (Nat.le_of_ble_eq_true rfl) hl.1 ⟨Nat.le_of_ble_eq_true rfl, Nat.le_of_ble_eq_true rfl⟩ h (fun _ _ h => h.elim) (fun r5 M6 H locs h hw => ?_)
  refine W.eq (g2 := F0 m 64 ls [.long r5, .ref (a 7)]) rfl ?_
  refine lv_iload hx hb d_P_fill_64 (lv_at hl 5 rfl) ?_
  refine nf_if_ne hx hb d_P_fill_66 (tgt := 73) (by decide) (fun hc => ?_) (fun hc => ?_)
  · have h := h.1 hc
    refine lv_iconst (v := (1 : Int32)) hx hb d_P_fill_69 (by decide) ?_
    refine lv_goto hx hb d_P_fill_70 (tgt := 74) (by decide) ?_
    exact w_P_fill_74 hfl K b1 v2 b3 x4 x6 (1 : Int32) r5 M6 _ _ _ h (lv_sub hl [0, 1, 2, 3, 4, 5] rfl) hw
  · have h := h.2 hc
    refine lv_iconst (v := (0 : Int32)) hx hb d_P_fill_73 (by decide) ?_
    exact w_P_fill_74 hfl K b1 v2 b3 x4 x6 (0 : Int32) r5 M6 _ _ _ h (lv_sub hl [0, 1, 2, 3, 4, 5] rfl) hw
theorem c_P_fill (l : Launch) (hfl : l.flags = flags0) (b1 : Bool) (v2 : Fin 9) (b3 : Bool) : nf_C nf_jN l nm_P_fill nb_P_fill 8 none rm_P_fill (fun a => [.ref (a 7), .ref (a (nf_ro b1)), .ref (a (10 + (v2 : Fin 9).val)), .ref (a (nf_ro b3))]) (fun M post ex => P_P_fill b1 v2 b3 M post) := by
  refine nf_start (plainFor_of_name (by decide +kernel)) (fun a => Nat.le_of_ble_eq_true rfl) ?_
  intro D a sz M post ex p e s m below meth c ls h K hl hw
  have hx := K.1
  have hb := K.2.1
  have hl : lv_has ls 8 [(0, .ref (a 7)), (1, .ref (a (nf_ro b1))), (2, .ref (a (10 + (v2 : Fin 9).val))), (3, .ref (a (nf_ro b3)))] := hl
  refine lv_aload_n hx hb d_P_fill_0 rfl (lv_at hl 2 rfl) ?_
  refine nf_getN (v := .long (mg_U M v2)) K hw (10 + (v2 : Fin 9).val) 4 1 nv_42 (nf_heV _ _ _) rfl ni_V (by decide) rfl rfl d_P_fill_1 ?_
  refine nf_callW (ex := (fun _ _ => False)) (As := [.long (mg_U M v2)]) (st0 := [.long (mg_U M v2)]) (rest := []) K hw (nf_invS hx hb K.2.2.2.1 (nf_Kg K nw_878) (nf_Kg K nw_550) (nf_Kg K nw_4) (nf_Kg K nw_551) ⟨by decide, by decide⟩ rfl nl_JM_abs_JJ rfl d_P_fill_4) (c_JM_abs_JJ l hfl (mg_U M v2)) nw_551 nw_4 rfl ⟨by decide, by decide⟩ (Nat.le_of_ble_eq_true rfl) hl.1 ⟨Nat.le_of_ble_eq_true rfl, Nat.le_of_ble_eq_true rfl⟩ h (fun _ _ h => h.elim) (fun r1 M2 H locs h hw => ?_)
  refine W.eq (g2 := F0 m 7 ls [.long r1]) rfl ?_
  refine lv_lstore (lv' := [(4, .long r1), (0, .ref (a 7)), (1, .ref (a (nf_ro b1))), (2, .ref (a (10 + (v2 : Fin 9).val))), (3, .ref (a (nf_ro b3)))]) hx hb d_P_fill_7 hl (by decide) rfl (fun ls hl => ?_)
  refine lv_aload_n hx hb d_P_fill_9 rfl (lv_at hl 1 rfl) ?_
  refine nf_get (v := .int (mg_I M2 7 5)) K hw 7 2 5 nw_116 rfl rfl ni_P (by decide) rfl rfl d_P_fill_10 ?_
  refine lv_aload_n hx hb d_P_fill_13 rfl (lv_at hl 3 rfl) ?_
  refine nf_getN (v := .int (mg_S M2 v2)) K hw (10 + (v2 : Fin 9).val) 4 2 nv_44 (nf_heV _ _ _) rfl ni_V (by decide) rfl rfl d_P_fill_14 ?_
  refine nf_callW (ex := (fun _ _ => False)) (As := [.int (mg_I M2 7 5), .int (mg_S M2 v2)]) (st0 := [.int (mg_S M2 v2), .int (mg_I M2 7 5)]) (rest := []) K hw (nf_invS hx hb K.2.2.2.1 (nf_Kg K nw_879) (nf_Kg K nw_64) (nf_Kg K nw_4) (nf_Kg K nw_65) ⟨by decide, by decide⟩ rfl nl_JM_max rfl d_P_fill_17) (c_JM_max l hfl (mg_I M2 7 5) (mg_S M2 v2)) nw_65 nw_4 rfl ⟨by decide, by decide⟩ (Nat.le_of_ble_eq_true rfl) hl.1 ⟨Nat.le_of_ble_eq_true rfl, Nat.le_of_ble_eq_true rfl⟩ h (fun _ _ h => h.elim) (fun r3 M4 H locs h hw => ?_)
  refine W.eq (g2 := F0 m 20 ls [.int r3]) rfl ?_
  refine lv_istore (lv' := [(6, .int r3), (4, .long r1), (0, .ref (a 7)), (1, .ref (a (nf_ro b1))), (2, .ref (a (10 + (v2 : Fin 9).val))), (3, .ref (a (nf_ro b3)))]) hx hb d_P_fill_20 hl (by decide) rfl (fun ls hl => ?_)
  refine lv_aload_n hx hb d_P_fill_22 rfl (lv_at hl 5 rfl) ?_
  refine nf_callW (ex := (fun _ _ => False)) (As := [.ref (a (nf_ro b3))]) (st0 := [.ref (a (nf_ro b3))]) (rest := []) K hw (nf_invVN hx hb K.2.2.2.1 ((nf_Kr K nv_880).use rfl) (nf_Kg K nw_207) (nf_Kg K nx_R_clear) (nf_Kg K nw_208) ⟨by decide, by decide⟩ (nf_rcv K hw (nf_ro b3) 3 (nf_heR _ _ _) rfl) rfl nl_R_clear rfl d_P_fill_23) (c_R_clear l hfl b3) nw_208 nw_3 rfl ⟨by decide, by decide⟩ (Nat.le_of_ble_eq_true rfl) hl.1 ⟨Nat.le_of_ble_eq_true rfl, Nat.le_of_ble_eq_true rfl⟩ h (fun _ _ h => h.elim) (fun r5 M6 H locs h hw => ?_)
  refine W.eq (g2 := F0 m 26 ls []) rfl ?_
  refine lv_aload_n hx hb d_P_fill_26 rfl (lv_at hl 4 rfl) ?_
  refine nf_getN (v := .long (mg_U M6 v2)) K hw (10 + (v2 : Fin 9).val) 4 1 nv_42 (nf_heV _ _ _) rfl ni_V (by decide) rfl rfl d_P_fill_27 ?_
  refine lv_lconst (v := (0 : Int64)) hx hb d_P_fill_30 (by decide) ?_
  refine nf_lc_ge hx hb d_P_fill_31 d_P_fill_32 (tgt := 41) (by decide) (fun hc => ?_) (fun hc => ?_)
  · have h := h.1 hc
    refine lv_aload_n hx hb d_P_fill_35 rfl (lv_at hl 5 rfl) ?_
    refine lv_bipush (v := (45 : Int32)) hx hb d_P_fill_36 (by decide) ?_
    refine nf_callW (ex := (fun _ _ => False)) (As := [.ref (a (nf_ro b3)), .int (45 : Int32)]) (st0 := [.int (45 : Int32), .ref (a (nf_ro b3))]) (rest := []) K hw (nf_invVN hx hb K.2.2.2.1 ((nf_Kr K nv_881).use rfl) (nf_Kg K nw_199) (nf_Kg K nx_R_add) (nf_Kg K nw_200) ⟨by decide, by decide⟩ (nf_rcv K hw (nf_ro b3) 3 (nf_heR _ _ _) rfl) rfl nl_R_add rfl d_P_fill_38) (c_R_add l hfl b3 (45 : Int32)) nw_200 nw_3 rfl ⟨by decide, by decide⟩ (Nat.le_of_ble_eq_true rfl) hl.1 ⟨Nat.le_of_ble_eq_true rfl, Nat.le_of_ble_eq_true rfl⟩ h (fun _ _ h => h.elim) (fun r7 M8 H locs h hw => ?_)
    refine W.eq (g2 := F0 m 41 ls []) rfl ?_
    exact w_P_fill_41 hfl K b1 v2 b3 r1 r3 M8 _ _ _ h (lv_sub hl [2, 3, 4, 5, 1, 0] rfl) hw
  · have h := h.2 hc
    exact w_P_fill_41 hfl K b1 v2 b3 r1 r3 M6 _ _ _ h (lv_sub hl [2, 3, 4, 5, 1, 0] rfl) hw
theorem d_F_picture_0 : decode nb_F_picture 0 = .ok (.aload_n 0, 1) := by decide +kernel
theorem d_F_picture_1 : decode nb_F_picture 1 = .ok (.iload_n 1, 1) := by decide +kernel
theorem d_F_picture_2 : decode nb_F_picture 2 = .ok (.invokevirtual 71, 3) := by decide +kernel
theorem d_F_picture_5 : decode nb_F_picture 5 = .ok (.astore_n 2, 1) := by decide +kernel
theorem d_F_picture_6 : decode nb_F_picture 6 = .ok (.aload_n 2, 1) := by decide +kernel
theorem d_F_picture_7 : decode nb_F_picture 7 = .ok (.invokestatic 121, 3) := by decide +kernel
theorem d_F_picture_10 : decode nb_F_picture 10 = .ok (.aload_n 0, 1) := by decide +kernel
theorem d_F_picture_11 : decode nb_F_picture 11 = .ok (.getfield 42, 3) := by decide +kernel
theorem d_F_picture_14 : decode nb_F_picture 14 = .ok (.aload_n 0, 1) := by decide +kernel
theorem d_F_picture_15 : decode nb_F_picture 15 = .ok (.getfield 25, 3) := by decide +kernel
theorem d_F_picture_18 : decode nb_F_picture 18 = .ok (.invokevirtual 184, 3) := by decide +kernel
theorem d_F_picture_21 : decode nb_F_picture 21 = .ok (.ifCond .ne 13, 3) := by decide +kernel
theorem d_F_picture_24 : decode nb_F_picture 24 = .ok (.new 83, 3) := by decide +kernel
theorem d_F_picture_27 : decode nb_F_picture 27 = .ok (.dup, 1) := by decide +kernel
theorem d_F_picture_28 : decode nb_F_picture 28 = .ok (.ldc 187, 2) := by decide +kernel
theorem d_F_picture_30 : decode nb_F_picture 30 = .ok (.invokespecial 87, 3) := by decide +kernel
theorem d_F_picture_33 : decode nb_F_picture 33 = .ok (.athrow, 1) := by decide +kernel
theorem d_F_picture_34 : decode nb_F_picture 34 = .ok (.aload_n 0, 1) := by decide +kernel
theorem d_F_picture_35 : decode nb_F_picture 35 = .ok (.aload_n 2, 1) := by decide +kernel
theorem d_F_picture_36 : decode nb_F_picture 36 = .ok (.iconst 0, 1) := by decide +kernel
theorem d_F_picture_37 : decode nb_F_picture 37 = .ok (.invokevirtual 150, 3) := by decide +kernel
theorem d_F_picture_40 : decode nb_F_picture 40 = .ok (.aload_n 0, 1) := by decide +kernel
theorem d_F_picture_41 : decode nb_F_picture 41 = .ok (.getfield 42, 3) := by decide +kernel
theorem d_F_picture_44 : decode nb_F_picture 44 = .ok (.getfield 189, 3) := by decide +kernel
theorem d_F_picture_47 : decode nb_F_picture 47 = .ok (.ifCond .eq 60, 3) := by decide +kernel
theorem d_F_picture_50 : decode nb_F_picture 50 = .ok (.aload_n 0, 1) := by decide +kernel
theorem d_F_picture_51 : decode nb_F_picture 51 = .ok (.getfield 56, 3) := by decide +kernel
theorem d_F_picture_54 : decode nb_F_picture 54 = .ok (.aload_n 0, 1) := by decide +kernel
theorem d_F_picture_55 : decode nb_F_picture 55 = .ok (.getfield 16, 3) := by decide +kernel
theorem d_F_picture_58 : decode nb_F_picture 58 = .ok (.getfield 110, 3) := by decide +kernel
theorem d_F_picture_61 : decode nb_F_picture 61 = .ok (.invokestatic 193, 3) := by decide +kernel
theorem d_F_picture_64 : decode nb_F_picture 64 = .ok (.ldc2_w 199, 3) := by decide +kernel
theorem d_F_picture_67 : decode nb_F_picture 67 = .ok (.lmul, 1) := by decide +kernel
theorem d_F_picture_68 : decode nb_F_picture 68 = .ok (.invokevirtual 201, 3) := by decide +kernel
theorem d_F_picture_71 : decode nb_F_picture 71 = .ok (.aload_n 0, 1) := by decide +kernel
theorem d_F_picture_72 : decode nb_F_picture 72 = .ok (.getfield 56, 3) := by decide +kernel
theorem d_F_picture_75 : decode nb_F_picture 75 = .ok (.aload_n 0, 1) := by decide +kernel
theorem d_F_picture_76 : decode nb_F_picture 76 = .ok (.getfield 16, 3) := by decide +kernel
theorem d_F_picture_79 : decode nb_F_picture 79 = .ok (.iconst 0, 1) := by decide +kernel
theorem d_F_picture_80 : decode nb_F_picture 80 = .ok (.aload_n 0, 1) := by decide +kernel
theorem d_F_picture_81 : decode nb_F_picture 81 = .ok (.getfield 16, 3) := by decide +kernel
theorem d_F_picture_84 : decode nb_F_picture 84 = .ok (.getfield 110, 3) := by decide +kernel
theorem d_F_picture_87 : decode nb_F_picture 87 = .ok (.lconst 0, 1) := by decide +kernel
theorem d_F_picture_88 : decode nb_F_picture 88 = .ok (.lcmp, 1) := by decide +kernel
theorem d_F_picture_89 : decode nb_F_picture 89 = .ok (.ifCond .ge 7, 3) := by decide +kernel
theorem d_F_picture_92 : decode nb_F_picture 92 = .ok (.iconst 1, 1) := by decide +kernel
theorem d_F_picture_93 : decode nb_F_picture 93 = .ok (.goto 4, 3) := by decide +kernel
theorem d_F_picture_96 : decode nb_F_picture 96 = .ok (.iconst 0, 1) := by decide +kernel
theorem d_F_picture_97 : decode nb_F_picture 97 = .ok (.aload_n 0, 1) := by decide +kernel
theorem d_F_picture_98 : decode nb_F_picture 98 = .ok (.getfield 16, 3) := by decide +kernel
theorem d_F_picture_101 : decode nb_F_picture 101 = .ok (.getfield 176, 3) := by decide +kernel
theorem d_F_picture_104 : decode nb_F_picture 104 = .ok (.invokevirtual 204, 3) := by decide +kernel
theorem d_F_picture_107 : decode nb_F_picture 107 = .ok (.aload_n 0, 1) := by decide +kernel
theorem d_F_picture_108 : decode nb_F_picture 108 = .ok (.aload_n 0, 1) := by decide +kernel
theorem d_F_picture_109 : decode nb_F_picture 109 = .ok (.getfield 42, 3) := by decide +kernel
theorem d_F_picture_112 : decode nb_F_picture 112 = .ok (.getfield 208, 3) := by decide +kernel
theorem d_F_picture_115 : decode nb_F_picture 115 = .ok (.aload_n 0, 1) := by decide +kernel
theorem d_F_picture_116 : decode nb_F_picture 116 = .ok (.getfield 42, 3) := by decide +kernel
theorem d_F_picture_119 : decode nb_F_picture 119 = .ok (.getfield 211, 3) := by decide +kernel
theorem d_F_picture_122 : decode nb_F_picture 122 = .ok (.iadd, 1) := by decide +kernel
theorem d_F_picture_123 : decode nb_F_picture 123 = .ok (.invokevirtual 214, 3) := by decide +kernel
theorem d_F_picture_126 : decode nb_F_picture 126 = .ok (.aload_n 0, 1) := by decide +kernel
theorem d_F_picture_127 : decode nb_F_picture 127 = .ok (.getfield 42, 3) := by decide +kernel
theorem d_F_picture_130 : decode nb_F_picture 130 = .ok (.aload_n 0, 1) := by decide +kernel
theorem d_F_picture_131 : decode nb_F_picture 131 = .ok (.getfield 25, 3) := by decide +kernel
theorem d_F_picture_134 : decode nb_F_picture 134 = .ok (.aload_n 0, 1) := by decide +kernel
theorem d_F_picture_135 : decode nb_F_picture 135 = .ok (.getfield 16, 3) := by decide +kernel
theorem d_F_picture_138 : decode nb_F_picture 138 = .ok (.aload_n 0, 1) := by decide +kernel
theorem d_F_picture_139 : decode nb_F_picture 139 = .ok (.getfield 29, 3) := by decide +kernel
theorem d_F_picture_142 : decode nb_F_picture 142 = .ok (.invokevirtual 217, 3) := by decide +kernel
theorem d_F_picture_145 : decode nb_F_picture 145 = .ok (.aload_n 0, 1) := by decide +kernel
theorem d_F_picture_146 : decode nb_F_picture 146 = .ok (.getfield 29, 3) := by decide +kernel
theorem d_F_picture_149 : decode nb_F_picture 149 = .ok (.getfield 60, 3) := by decide +kernel
theorem d_F_picture_152 : decode nb_F_picture 152 = .ok (.ireturn, 1) := by decide +kernel
abbrev rm_F_picture : Room := ({ frames := 9, cells := 7, slots := 42, locals := 172 })
theorem w_F_picture_107 {post : Int32 → nf_M → Prop} (hfl : l.flags = flags0) (K : nf_K p s m args meth c "NumberForge" nb_F_picture 3 (some FieldType.int) D a sz) : ∀ (M : nf_M) (H : Heap) (locs : List Loc) (ls : Array Slot), B_F_picture_107 post ex  M → lv_has ls 3 [(0, .ref (a 0))] → nf_W D a s sz H locs M → W p l e rm_F_picture s m args below meth c H locs 6 36 (nf_MQ below (nf_Q nf_jI D a post ex (nf_A a sz)) args s rm_F_picture.cells rm_F_picture.slots (nf_A a sz)) (F0 m 107 ls []) := by
  have hx := K.1
  have hb := K.2.1
  intro  M H locs ls h hl hw
  refine lv_aload_n hx hb d_F_picture_107 rfl (lv_at hl 0 rfl) ?_
  refine lv_aload_n hx hb d_F_picture_108 rfl (lv_at hl 0 rfl) ?_
  refine nf_get (v := .ref (a 7)) K hw 0 6 5 nw_173 rfl rfl ni_F (by decide) rfl rfl d_F_picture_109 ?_
  refine nf_getN (v := .int (mg_I M 7 5)) K hw 7 2 5 nv_117 rfl rfl ni_P (by decide) rfl rfl d_F_picture_112 ?_
  refine lv_aload_n hx hb d_F_picture_115 rfl (lv_at hl 0 rfl) ?_
  refine nf_get (v := .ref (a 7)) K hw 0 6 5 nw_173 rfl rfl ni_F (by decide) rfl rfl d_F_picture_116 ?_
  refine nf_getN (v := .int (mg_I M 7 6)) K hw 7 2 6 nv_119 rfl rfl ni_P (by decide) rfl rfl d_F_picture_119 ?_
  refine lv_iadd hx hb d_F_picture_122 ?_
  refine nf_callW (ex := ex) (As := [.ref (a 0), .int ((mg_I M 7 5) + (mg_I M 7 6))]) (st0 := [.int ((mg_I M 7 5) + (mg_I M 7 6)), .ref (a 0)]) (rest := []) K hw (nf_invV hx hb K.2.2.2.1 (nf_Kg K nw_870) (nf_Kg K nw_872) (nf_Kg K nx_F_roundAnswer) (nf_Kg K nw_873) ⟨by decide, by decide⟩ (nf_rcv K hw 0 6 rfl rfl) rfl nl_F_roundAnswer rfl d_F_picture_123) (c_F_roundAnswer l hfl ((mg_I M 7 5) + (mg_I M 7 6))) nw_873 nw_1 rfl ⟨by decide, by decide⟩ (Nat.le_of_ble_eq_true rfl) hl.1 ⟨Nat.le_of_ble_eq_true rfl, Nat.le_of_ble_eq_true rfl⟩ h (fun _ _ h => h) (fun r1 M2 H locs h hw => ?_)
  refine W.eq (g2 := F0 m 126 ls []) rfl ?_
  refine W.widen (k := 7) (n := 42) (by decide) (by decide) ?_
  refine lv_aload_n hx hb d_F_picture_126 rfl (lv_at hl 0 rfl) ?_
  refine nf_get (v := .ref (a 7)) K hw 0 6 5 nw_173 rfl rfl ni_F (by decide) rfl rfl d_F_picture_127 ?_
  refine lv_aload_n hx hb d_F_picture_130 rfl (lv_at hl 0 rfl) ?_
  refine nf_get (v := .ref (a (nf_ro false))) K hw 0 6 2 nw_170 rfl rfl ni_F (by decide) rfl rfl d_F_picture_131 ?_
  refine lv_aload_n hx hb d_F_picture_134 rfl (lv_at hl 0 rfl) ?_
  refine nf_get (v := .ref (a (10 + ((0 : Fin 9) : Fin 9).val))) K hw 0 6 1 nw_169 rfl rfl ni_F (by decide) rfl rfl d_F_picture_135 ?_
  refine lv_aload_n hx hb d_F_picture_138 rfl (lv_at hl 0 rfl) ?_
  refine nf_get (v := .ref (a (nf_ro true))) K hw 0 6 3 nw_171 rfl rfl ni_F (by decide) rfl rfl d_F_picture_139 ?_
  refine nf_callW (ex := (fun _ _ => False)) (As := [.ref (a 7), .ref (a (nf_ro false)), .ref (a (10 + ((0 : Fin 9) : Fin 9).val)), .ref (a (nf_ro true))]) (st0 := [.ref (a (nf_ro true)), .ref (a (10 + ((0 : Fin 9) : Fin 9).val)), .ref (a (nf_ro false)), .ref (a 7)]) (rest := []) K hw (nf_invVN hx hb K.2.2.2.1 ((nf_Kr K nv_874).use rfl) (nf_Kg K nw_876) (nf_Kg K nx_P_fill) (nf_Kg K nw_877) ⟨by decide, by decide⟩ (nf_rcv K hw 7 2 rfl rfl) rfl nl_P_fill rfl d_F_picture_142) (c_P_fill l hfl false (0 : Fin 9) true) nw_877 nw_6 rfl ⟨by decide, by decide⟩ (Nat.le_of_ble_eq_true rfl) hl.1 ⟨Nat.le_of_ble_eq_true rfl, Nat.le_of_ble_eq_true rfl⟩ h (fun _ _ h => h.elim) (fun r3 M4 H locs h hw => ?_)
  refine W.eq (g2 := F0 m 145 ls []) rfl ?_
  refine lv_aload_n hx hb d_F_picture_145 rfl (lv_at hl 0 rfl) ?_
  refine nf_get (v := .ref (a (nf_ro true))) K hw 0 6 3 nw_171 rfl rfl ni_F (by decide) rfl rfl d_F_picture_146 ?_
  refine nf_getN (v := .int (mg_N M4 true)) K hw (nf_ro true) 3 1 nv_68 (nf_heR _ _ _) rfl ni_R (by decide) rfl rfl d_F_picture_149 ?_
  exact nf_iret K hw d_F_picture_152 rfl (Nat.le_of_ble_eq_true rfl) (Nat.le_of_ble_eq_true rfl) (r := mg_N M4 true) rfl h
theorem w_F_picture_97 {post : Int32 → nf_M → Prop} (hfl : l.flags = flags0) (K : nf_K p s m args meth c "NumberForge" nb_F_picture 3 (some FieldType.int) D a sz) : ∀ (xy0 : Int32) (xy1 : Int32) (vy2 : Fin 9) (M : nf_M) (H : Heap) (locs : List Loc) (ls : Array Slot), B_F_picture_97 post ex xy0 xy1 vy2 M → lv_has ls 3 [(0, .ref (a 0))] → nf_W D a s sz H locs M → W p l e rm_F_picture s m args below meth c H locs 5 30 (nf_MQ below (nf_Q nf_jI D a post ex (nf_A a sz)) args s rm_F_picture.cells rm_F_picture.slots (nf_A a sz)) (F0 m 97 ls [.int xy0, .int xy1, .ref (a (10 + (vy2 : Fin 9).val)), .ref (a 9)]) := by
  have hx := K.1
  have hb := K.2.1
  intro xy0 xy1 vy2 M H locs ls h hl hw
  refine lv_aload_n hx hb d_F_picture_97 rfl (lv_at hl 0 rfl) ?_
  refine nf_get (v := .ref (a (10 + ((0 : Fin 9) : Fin 9).val))) K hw 0 6 1 nw_169 rfl rfl ni_F (by decide) rfl rfl d_F_picture_98 ?_
  refine nf_getN (v := .int (mg_S M (0 : Fin 9))) K hw (10 + ((0 : Fin 9) : Fin 9).val) 4 2 nv_45 (nf_heV _ _ _) rfl ni_V (by decide) rfl rfl d_F_picture_101 ?_
  refine nf_callW (ex := ex) (As := [.ref (a 9), .ref (a (10 + (vy2 : Fin 9).val)), .int xy1, .int xy0, .int (mg_S M (0 : Fin 9))]) (st0 := [.int (mg_S M (0 : Fin 9)), .int xy0, .int xy1, .ref (a (10 + (vy2 : Fin 9).val)), .ref (a 9)]) (rest := []) K hw (nf_invVN hx hb K.2.2.2.1 ((nf_Kr K nv_561).use rfl) (nf_Kg K nw_563) (nf_Kg K nx_W_settle) (nf_Kg K nw_564) ⟨by decide, by decide⟩ (nf_rcv K hw 9 5 rfl rfl) rfl nl_W_settle rfl d_F_picture_104) (c_W_settle l hfl vy2 xy1 xy0 (mg_S M (0 : Fin 9))) nw_564 nw_8 rfl ⟨by decide, by decide⟩ (Nat.le_of_ble_eq_true rfl) hl.1 ⟨Nat.le_of_ble_eq_true rfl, Nat.le_of_ble_eq_true rfl⟩ h (fun _ _ h => h) (fun r1 M2 H locs h hw => ?_)
  refine W.eq (g2 := F0 m 107 ls []) rfl ?_
  refine W.widen (k := 6) (n := 36) (by decide) (by decide) ?_
  exact w_F_picture_107 hfl K  M2 _ _ _ h (lv_sub hl [0] rfl) hw
theorem c_F_picture (l : Launch) (hfl : l.flags = flags0) (x1 : Int32) : nf_C nf_jI l nm_F_picture nb_F_picture 3 (some FieldType.int) rm_F_picture (fun a => [.ref (a 0), .int x1]) (fun M post ex => P_F_picture x1 M post ex) := by
  refine nf_start (plainFor_of_name (by decide +kernel)) (fun a => Nat.le_of_ble_eq_true rfl) ?_
  intro D a sz M post ex p e s m below meth c ls h K hl hw
  have hx := K.1
  have hb := K.2.1
  have hl : lv_has ls 3 [(0, .ref (a 0)), (1, .int x1)] := hl
  refine lv_aload_n hx hb d_F_picture_0 rfl (lv_at hl 0 rfl) ?_
  refine lv_iload_n hx hb d_F_picture_1 rfl (lv_at hl 1 rfl) ?_
  refine nf_callW (ex := ex) (As := [.ref (a 0), .int x1]) (st0 := [.int x1, .ref (a 0)]) (rest := []) K hw (nf_invV hx hb K.2.2.2.1 (nf_Kg K nw_243) (nf_Kg K nw_245) (nf_Kg K nx_F_register) (nf_Kg K nw_246) ⟨by decide, by decide⟩ (nf_rcv K hw 0 6 rfl rfl) rfl nl_F_register rfl d_F_picture_2) (c_F_register l hfl x1) nw_246 nw_1 rfl ⟨by decide, by decide⟩ (Nat.le_of_ble_eq_true rfl) hl.1 ⟨Nat.le_of_ble_eq_true rfl, Nat.le_of_ble_eq_true rfl⟩ h (fun _ _ h => h) (fun r1 M2 H locs h hw => ?_)
  refine W.eq (g2 := F0 m 5 ls [.ref (a (10 + (r1 : Fin 9).val))]) rfl ?_
  refine W.widen (k := 1) (n := 6) (by decide) (by decide) ?_
  refine lv_astore_n (lv' := [(2, .ref (a (10 + (r1 : Fin 9).val))), (0, .ref (a 0)), (1, .int x1)]) hx hb d_F_picture_5 rfl hl (by decide) rfl (fun ls hl => ?_)
  refine lv_aload_n hx hb d_F_picture_6 rfl (lv_at hl 0 rfl) ?_
  refine nf_callW (ex := ex) (As := [.ref (a (10 + (r1 : Fin 9).val))]) (st0 := [.ref (a (10 + (r1 : Fin 9).val))]) (rest := []) K hw (nf_invS hx hb K.2.2.2.1 (nf_Kg K nw_449) (nf_Kg K nw_450) (nf_Kg K nw_1) (nf_Kg K nw_451) ⟨by decide, by decide⟩ rfl nl_F_checkFull rfl d_F_picture_7) (c_F_checkFull l hfl r1) nw_451 nw_1 rfl ⟨by decide, by decide⟩ (Nat.le_of_ble_eq_true rfl) hl.1 ⟨Nat.le_of_ble_eq_true rfl, Nat.le_of_ble_eq_true rfl⟩ h (fun _ _ h => h) (fun r3 M4 H locs h hw => ?_)
  refine W.eq (g2 := F0 m 10 ls []) rfl ?_
  refine W.widen (k := 2) (n := 12) (by decide) (by decide) ?_
  refine lv_aload_n hx hb d_F_picture_10 rfl (lv_at hl 1 rfl) ?_
  refine nf_get (v := .ref (a 7)) K hw 0 6 5 nw_173 rfl rfl ni_F (by decide) rfl rfl d_F_picture_11 ?_
  refine lv_aload_n hx hb d_F_picture_14 rfl (lv_at hl 1 rfl) ?_
  refine nf_get (v := .ref (a (nf_ro false))) K hw 0 6 2 nw_170 rfl rfl ni_F (by decide) rfl rfl d_F_picture_15 ?_
  refine nf_callW (ex := (fun _ _ => False)) (As := [.ref (a 7), .ref (a (nf_ro false))]) (st0 := [.ref (a (nf_ro false)), .ref (a 7)]) (rest := []) K hw (nf_invVN hx hb K.2.2.2.1 ((nf_Kr K nv_835).use rfl) (nf_Kg K nw_837) (nf_Kg K nx_P_parse) (nf_Kg K nw_838) ⟨by decide, by decide⟩ (nf_rcv K hw 7 2 rfl rfl) rfl nl_P_parse rfl d_F_picture_18) (c_P_parse l hfl false) nw_838 nw_6 rfl ⟨by decide, by decide⟩ (Nat.le_of_ble_eq_true rfl) hl.1 ⟨Nat.le_of_ble_eq_true rfl, Nat.le_of_ble_eq_true rfl⟩ h (fun _ _ h => h.elim) (fun r5 M6 H locs h hw => ?_)
  refine W.eq (g2 := F0 m 21 ls [.int r5]) rfl ?_
  refine nf_if_ne hx hb d_F_picture_21 (tgt := 34) (by decide) (fun hc => ?_) (fun hc => ?_)
  · have h := h.1 hc
    exact nf_throw (i := 18) 1 hfl K hw rfl (by decide) na_F_87 nw_360 nw_361 nw_14 rfl d_F_picture_24 d_F_picture_27 d_F_picture_28 d_F_picture_30 d_F_picture_33 hl.1 ⟨by decide, by decide⟩ ⟨Nat.le_of_ble_eq_true rfl, Nat.le_of_ble_eq_true rfl⟩ h
  · have h := h.2 hc
    refine lv_aload_n hx hb d_F_picture_34 rfl (lv_at hl 1 rfl) ?_
    refine lv_aload_n hx hb d_F_picture_35 rfl (lv_at hl 0 rfl) ?_
    refine lv_iconst (v := (0 : Int32)) hx hb d_F_picture_36 (by decide) ?_
    refine nf_callW (ex := ex) (As := [.ref (a 0), .ref (a (10 + (r1 : Fin 9).val)), .int (0 : Int32)]) (st0 := [.int (0 : Int32), .ref (a (10 + (r1 : Fin 9).val)), .ref (a 0)]) (rest := []) K hw (nf_invV hx hb K.2.2.2.1 (nf_Kg K nw_673) (nf_Kg K nw_675) (nf_Kg K nx_F_castIntoAnswer) (nf_Kg K nw_676) ⟨by decide, by decide⟩ (nf_rcv K hw 0 6 rfl rfl) rfl nl_F_castIntoAnswer rfl d_F_picture_37) (c_F_castIntoAnswer l hfl r1 (0 : Int32)) nw_676 nw_1 rfl ⟨by decide, by decide⟩ (Nat.le_of_ble_eq_true rfl) hl.1 ⟨Nat.le_of_ble_eq_true rfl, Nat.le_of_ble_eq_true rfl⟩ h (fun _ _ h => h) (fun r7 M8 H locs h hw => ?_)
    refine W.eq (g2 := F0 m 40 ls []) rfl ?_
    refine W.widen (k := 5) (n := 30) (by decide) (by decide) ?_
    refine lv_aload_n hx hb d_F_picture_40 rfl (lv_at hl 1 rfl) ?_
    refine nf_get (v := .ref (a 7)) K hw 0 6 5 nw_173 rfl rfl ni_F (by decide) rfl rfl d_F_picture_41 ?_
    refine nf_getN (v := .int (mg_I M8 7 7)) K hw 7 2 7 nv_121 rfl rfl ni_P (by decide) rfl rfl d_F_picture_44 ?_
    refine nf_if_eq hx hb d_F_picture_47 (tgt := 107) (by decide) (fun hc => ?_) (fun hc => ?_)
    · have h := h.1 hc
      refine W.widen (k := 6) (n := 36) (by decide) (by decide) ?_
      exact w_F_picture_107 hfl K  M8 _ _ _ h (lv_sub hl [1] rfl) hw
    · have h := h.2 hc
      refine lv_aload_n hx hb d_F_picture_50 rfl (lv_at hl 1 rfl) ?_
      refine nf_get (v := .ref (a 9)) K hw 0 6 7 nw_175 rfl rfl ni_F (by decide) rfl rfl d_F_picture_51 ?_
      refine lv_aload_n hx hb d_F_picture_54 rfl (lv_at hl 1 rfl) ?_
      refine nf_get (v := .ref (a (10 + ((0 : Fin 9) : Fin 9).val))) K hw 0 6 1 nw_169 rfl rfl ni_F (by decide) rfl rfl d_F_picture_55 ?_
      refine nf_getN (v := .long (mg_U M8 (0 : Fin 9))) K hw (10 + ((0 : Fin 9) : Fin 9).val) 4 1 nv_41 (nf_heV _ _ _) rfl ni_V (by decide) rfl rfl d_F_picture_58 ?_
      refine nf_callW (ex := (fun _ _ => False)) (As := [.long (mg_U M8 (0 : Fin 9))]) (st0 := [.long (mg_U M8 (0 : Fin 9)), .ref (a 9)]) (rest := [.ref (a 9)]) K hw (nf_invS hx hb K.2.2.2.1 (nf_Kg K nw_549) (nf_Kg K nw_550) (nf_Kg K nw_4) (nf_Kg K nw_551) ⟨by decide, by decide⟩ rfl nl_JM_abs_JJ rfl d_F_picture_61) (c_JM_abs_JJ l hfl (mg_U M8 (0 : Fin 9))) nw_551 nw_4 rfl ⟨by decide, by decide⟩ (Nat.le_of_ble_eq_true rfl) hl.1 ⟨Nat.le_of_ble_eq_true rfl, Nat.le_of_ble_eq_true rfl⟩ h (fun _ _ h => h.elim) (fun r9 M10 H locs h hw => ?_)
      refine W.eq (g2 := F0 m 64 ls [.long r9, .ref (a 9)]) rfl ?_
      refine lv_ldc2 (v := (100 : Int64)) hx hb K.2.2.2.1 (nf_Kg K nw_869) d_F_picture_64 ?_
      refine lv_lmul hx hb d_F_picture_67 ?_
      refine nf_callW (ex := (fun _ _ => False)) (As := [.ref (a 9), .long (r9 * (100 : Int64))]) (st0 := [.long (r9 * (100 : Int64)), .ref (a 9)]) (rest := []) K hw (nf_invVN hx hb K.2.2.2.1 ((nf_Kr K nv_556).use rfl) (nf_Kg K nw_558) (nf_Kg K nx_W_become) (nf_Kg K nw_559) ⟨by decide, by decide⟩ (nf_rcv K hw 9 5 rfl rfl) rfl nl_W_become rfl d_F_picture_68) (c_W_become l hfl (r9 * (100 : Int64))) nw_559 nw_8 rfl ⟨by decide, by decide⟩ (Nat.le_of_ble_eq_true rfl) hl.1 ⟨Nat.le_of_ble_eq_true rfl, Nat.le_of_ble_eq_true rfl⟩ h (fun _ _ h => h.elim) (fun r11 M12 H locs h hw => ?_)
      refine W.eq (g2 := F0 m 71 ls []) rfl ?_
      refine lv_aload_n hx hb d_F_picture_71 rfl (lv_at hl 1 rfl) ?_
      refine nf_get (v := .ref (a 9)) K hw 0 6 7 nw_175 rfl rfl ni_F (by decide) rfl rfl d_F_picture_72 ?_
      refine lv_aload_n hx hb d_F_picture_75 rfl (lv_at hl 1 rfl) ?_
      refine nf_get (v := .ref (a (10 + ((0 : Fin 9) : Fin 9).val))) K hw 0 6 1 nw_169 rfl rfl ni_F (by decide) rfl rfl d_F_picture_76 ?_
      refine lv_iconst (v := (0 : Int32)) hx hb d_F_picture_79 (by decide) ?_
      refine lv_aload_n hx hb d_F_picture_80 rfl (lv_at hl 1 rfl) ?_
      refine nf_get (v := .ref (a (10 + ((0 : Fin 9) : Fin 9).val))) K hw 0 6 1 nw_169 rfl rfl ni_F (by decide) rfl rfl d_F_picture_81 ?_
      refine nf_getN (v := .long (mg_U M12 (0 : Fin 9))) K hw (10 + ((0 : Fin 9) : Fin 9).val) 4 1 nv_41 (nf_heV _ _ _) rfl ni_V (by decide) rfl rfl d_F_picture_84 ?_
      refine lv_lconst (v := (0 : Int64)) hx hb d_F_picture_87 (by decide) ?_
      refine nf_lc_ge hx hb d_F_picture_88 d_F_picture_89 (tgt := 96) (by decide) (fun hc => ?_) (fun hc => ?_)
      · have h := h.1 hc
        refine lv_iconst (v := (1 : Int32)) hx hb d_F_picture_92 (by decide) ?_
        refine lv_goto hx hb d_F_picture_93 (tgt := 97) (by decide) ?_
        exact w_F_picture_97 hfl K (1 : Int32) (0 : Int32) (0 : Fin 9) M12 _ _ _ h (lv_sub hl [1] rfl) hw
      · have h := h.2 hc
        refine lv_iconst (v := (0 : Int32)) hx hb d_F_picture_96 (by decide) ?_
        exact w_F_picture_97 hfl K (0 : Int32) (0 : Int32) (0 : Fin 9) M12 _ _ _ h (lv_sub hl [1] rfl) hw
end NW4
