/-! walks (printed by wip/whole/gen/drive.py) -/
section NW5
variable {p : Program} {l : Launch} {e : Env} {s : State} {m : MethodId} {args : Array Value} {below : List Frame} {meth : Method} {c : Code} {D : va_G} {a : Nat → Nat} {sz : Nat} {ex : Nat → nf_M → Prop}
theorem d_F_addRomanLetter_0 : decode nb_F_addRomanLetter 0 = .ok (.iload_n 1, 1) := by decide +kernel
theorem d_F_addRomanLetter_1 : decode nb_F_addRomanLetter 1 = .ok (.ldc_w 486, 3) := by decide +kernel
theorem d_F_addRomanLetter_4 : decode nb_F_addRomanLetter 4 = .ok (.invokevirtual 488, 3) := by decide +kernel
theorem d_F_addRomanLetter_7 : decode nb_F_addRomanLetter 7 = .ok (.if_icmp .ge 13, 3) := by decide +kernel
theorem d_F_addRomanLetter_10 : decode nb_F_addRomanLetter 10 = .ok (.ldc_w 486, 3) := by decide +kernel
theorem d_F_addRomanLetter_13 : decode nb_F_addRomanLetter 13 = .ok (.iload_n 1, 1) := by decide +kernel
theorem d_F_addRomanLetter_14 : decode nb_F_addRomanLetter 14 = .ok (.invokevirtual 492, 3) := by decide +kernel
theorem d_F_addRomanLetter_17 : decode nb_F_addRomanLetter 17 = .ok (.goto 5, 3) := by decide +kernel
theorem d_F_addRomanLetter_20 : decode nb_F_addRomanLetter 20 = .ok (.bipush 32, 2) := by decide +kernel
theorem d_F_addRomanLetter_22 : decode nb_F_addRomanLetter 22 = .ok (.istore_n 3, 1) := by decide +kernel
theorem d_F_addRomanLetter_23 : decode nb_F_addRomanLetter 23 = .ok (.iload_n 3, 1) := by decide +kernel
theorem d_F_addRomanLetter_24 : decode nb_F_addRomanLetter 24 = .ok (.bipush 32, 2) := by decide +kernel
theorem d_F_addRomanLetter_26 : decode nb_F_addRomanLetter 26 = .ok (.if_icmp .eq 26, 3) := by decide +kernel
theorem d_F_addRomanLetter_29 : decode nb_F_addRomanLetter 29 = .ok (.aload_n 0, 1) := by decide +kernel
theorem d_F_addRomanLetter_30 : decode nb_F_addRomanLetter 30 = .ok (.getfield 29, 3) := by decide +kernel
theorem d_F_addRomanLetter_33 : decode nb_F_addRomanLetter 33 = .ok (.iload_n 2, 1) := by decide +kernel
theorem d_F_addRomanLetter_34 : decode nb_F_addRomanLetter 34 = .ok (.ifCond .eq 14, 3) := by decide +kernel
theorem d_F_addRomanLetter_37 : decode nb_F_addRomanLetter 37 = .ok (.iload_n 3, 1) := by decide +kernel
theorem d_F_addRomanLetter_38 : decode nb_F_addRomanLetter 38 = .ok (.bipush 97, 2) := by decide +kernel
theorem d_F_addRomanLetter_40 : decode nb_F_addRomanLetter 40 = .ok (.isub, 1) := by decide +kernel
theorem d_F_addRomanLetter_41 : decode nb_F_addRomanLetter 41 = .ok (.bipush 65, 2) := by decide +kernel
theorem d_F_addRomanLetter_43 : decode nb_F_addRomanLetter 43 = .ok (.iadd, 1) := by decide +kernel
theorem d_F_addRomanLetter_44 : decode nb_F_addRomanLetter 44 = .ok (.i2c, 1) := by decide +kernel
theorem d_F_addRomanLetter_45 : decode nb_F_addRomanLetter 45 = .ok (.goto 4, 3) := by decide +kernel
theorem d_F_addRomanLetter_48 : decode nb_F_addRomanLetter 48 = .ok (.iload_n 3, 1) := by decide +kernel
theorem d_F_addRomanLetter_49 : decode nb_F_addRomanLetter 49 = .ok (.invokevirtual 64, 3) := by decide +kernel
theorem d_F_addRomanLetter_52 : decode nb_F_addRomanLetter 52 = .ok (.return_, 1) := by decide +kernel
abbrev rm_F_addRomanLetter : Room := ({ frames := 6, cells := 0, slots := 0, locals := 161 })
theorem w_F_addRomanLetter_52 {post : Unit → nf_M → Prop} (hfl : l.flags = flags0) (K : nf_K p s m args meth c "NumberForge" nb_F_addRomanLetter 4 none D a sz) : ∀ (M : nf_M) (H : Heap) (locs : List Loc) (ls : Array Slot), B_F_addRomanLetter_52 post  M → lv_has ls 4 [] → nf_W D a s sz H locs M → W p l e rm_F_addRomanLetter s m args below meth c H locs 0 0 (nf_MQ below (nf_Q nf_jN D a post ex (nf_A a sz)) args s rm_F_addRomanLetter.cells rm_F_addRomanLetter.slots (nf_A a sz)) (F0 m 52 ls []) := by
  have hx := K.1
  have hb := K.2.1
  intro  M H locs ls h hl hw
  exact nf_vret K hw d_F_addRomanLetter_52 (Nat.le_of_ble_eq_true rfl) (Nat.le_of_ble_eq_true rfl) (r := ()) rfl h
theorem w_F_addRomanLetter_49 {post : Unit → nf_M → Prop} (hfl : l.flags = flags0) (K : nf_K p s m args meth c "NumberForge" nb_F_addRomanLetter 4 none D a sz) : ∀ (xy0 : Int32) (by1 : Bool) (M : nf_M) (H : Heap) (locs : List Loc) (ls : Array Slot), B_F_addRomanLetter_49 post xy0 by1 M → lv_has ls 4 [] → nf_W D a s sz H locs M → W p l e rm_F_addRomanLetter s m args below meth c H locs 0 0 (nf_MQ below (nf_Q nf_jN D a post ex (nf_A a sz)) args s rm_F_addRomanLetter.cells rm_F_addRomanLetter.slots (nf_A a sz)) (F0 m 49 ls [.int xy0, .ref (a (nf_ro by1))]) := by
  have hx := K.1
  have hb := K.2.1
  intro xy0 by1 M H locs ls h hl hw
  refine nf_callW (ex := (fun _ _ => False)) (As := [.ref (a (nf_ro by1)), .int xy0]) (st0 := [.int xy0, .ref (a (nf_ro by1))]) (rest := []) K hw (nf_invVN hx hb K.2.2.2.1 ((nf_Kr K nv_197).use rfl) (nf_Kg K nw_199) (nf_Kg K nx_R_add) (nf_Kg K nw_200) ⟨by decide, by decide⟩ (nf_rcv K hw (nf_ro by1) 3 (nf_heR _ _ _) rfl) rfl nl_R_add rfl d_F_addRomanLetter_49) (c_R_add l hfl by1 xy0) nw_200 nw_3 rfl ⟨by decide, by decide⟩ (Nat.le_of_ble_eq_true rfl) hl.1 ⟨Nat.le_of_ble_eq_true rfl, Nat.le_of_ble_eq_true rfl⟩ h (fun _ _ h => h.elim) (fun r1 M2 H locs h hw => ?_)
  refine W.eq (g2 := F0 m 52 ls []) rfl ?_
  exact w_F_addRomanLetter_52 hfl K  M2 _ _ _ h (lv_sub hl [] rfl) hw
theorem w_F_addRomanLetter_22 {post : Unit → nf_M → Prop} (hfl : l.flags = flags0) (K : nf_K p s m args meth c "NumberForge" nb_F_addRomanLetter 4 none D a sz) : ∀ (x2 : Int32) (xy0 : Int32) (M : nf_M) (H : Heap) (locs : List Loc) (ls : Array Slot), B_F_addRomanLetter_22 post x2 xy0 M → lv_has ls 4 [(0, .ref (a 0)), (2, .int x2)] → nf_W D a s sz H locs M → W p l e rm_F_addRomanLetter s m args below meth c H locs 0 0 (nf_MQ below (nf_Q nf_jN D a post ex (nf_A a sz)) args s rm_F_addRomanLetter.cells rm_F_addRomanLetter.slots (nf_A a sz)) (F0 m 22 ls [.int xy0]) := by
  have hx := K.1
  have hb := K.2.1
  intro x2 xy0 M H locs ls h hl hw
  refine lv_istore_n (lv' := [(3, .int xy0), (0, .ref (a 0)), (2, .int x2)]) hx hb d_F_addRomanLetter_22 rfl hl (by decide) rfl (fun ls hl => ?_)
  refine lv_iload_n hx hb d_F_addRomanLetter_23 rfl (lv_at hl 0 rfl) ?_
  refine lv_bipush (v := (32 : Int32)) hx hb d_F_addRomanLetter_24 (by decide) ?_
  refine nf_ic_eq hx hb d_F_addRomanLetter_26 (tgt := 52) (by decide) (fun hc => ?_) (fun hc => ?_)
  · have h := h.1 hc
    exact w_F_addRomanLetter_52 hfl K  M _ _ _ h (lv_sub hl [] rfl) hw
  · have h := h.2 hc
    refine lv_aload_n hx hb d_F_addRomanLetter_29 rfl (lv_at hl 1 rfl) ?_
    refine nf_get (v := .ref (a (nf_ro true))) K hw 0 6 3 nw_171 rfl rfl ni_F (by decide) rfl rfl d_F_addRomanLetter_30 ?_
    refine lv_iload_n hx hb d_F_addRomanLetter_33 rfl (lv_at hl 2 rfl) ?_
    refine nf_if_eq hx hb d_F_addRomanLetter_34 (tgt := 48) (by decide) (fun hc => ?_) (fun hc => ?_)
    · have h := h.1 hc
      refine lv_iload_n hx hb d_F_addRomanLetter_48 rfl (lv_at hl 0 rfl) ?_
      exact w_F_addRomanLetter_49 hfl K xy0 true M _ _ _ h (lv_sub hl [] rfl) hw
    · have h := h.2 hc
      refine lv_iload_n hx hb d_F_addRomanLetter_37 rfl (lv_at hl 0 rfl) ?_
      refine lv_bipush (v := (97 : Int32)) hx hb d_F_addRomanLetter_38 (by decide) ?_
      refine lv_isub hx hb d_F_addRomanLetter_40 ?_
      refine lv_bipush (v := (65 : Int32)) hx hb d_F_addRomanLetter_41 (by decide) ?_
      refine lv_iadd hx hb d_F_addRomanLetter_43 ?_
      refine lv_i2c hx hb d_F_addRomanLetter_44 rfl ?_
      refine lv_goto hx hb d_F_addRomanLetter_45 (tgt := 49) (by decide) ?_
      exact w_F_addRomanLetter_49 hfl K ((((xy0 - (97 : Int32)) + (65 : Int32)).toUInt32 % 65536).toInt32) true M _ _ _ h (lv_sub hl [] rfl) hw
theorem c_F_addRomanLetter (l : Launch) (hfl : l.flags = flags0) (x1 : Int32) (x2 : Int32) : nf_C nf_jN l nm_F_addRomanLetter nb_F_addRomanLetter 4 none rm_F_addRomanLetter (fun a => [.ref (a 0), .int x1, .int x2]) (fun M post ex => P_F_addRomanLetter x1 x2 M post) := by
  refine nf_start (plainFor_of_name (by decide +kernel)) (fun a => Nat.le_of_ble_eq_true rfl) ?_
  intro D a sz M post ex p e s m below meth c ls h K hl hw
  have hx := K.1
  have hb := K.2.1
  have hl : lv_has ls 4 [(0, .ref (a 0)), (1, .int x1), (2, .int x2)] := hl
  refine lv_iload_n hx hb d_F_addRomanLetter_0 rfl (lv_at hl 1 rfl) ?_
  refine nf_ldcwS K 4 rfl d_F_addRomanLetter_1 ?_
  refine W.eq (g2 := F0 m 4 ls [.ref (a (100 + ((4 : Fin 5) : Fin 5).val)), .int x1]) rfl ?_
  refine nf_callW (ex := (fun _ _ => False)) (As := [.ref (a (100 + ((4 : Fin 5) : Fin 5).val))]) (st0 := [.ref (a (100 + ((4 : Fin 5) : Fin 5).val)), .int x1]) (rest := [.int x1]) K hw (nf_invV hx hb K.2.2.2.1 (nf_Kg K nw_914) (nf_Kg K nw_736) (nf_Kg K nw_737) (nf_Kg K nw_738) ⟨by decide, by decide⟩ (nf_rcvS K hw (4 : Fin 5)) rfl nl_JS_length rfl d_F_addRomanLetter_4) (c_JS_length l hfl (4 : Fin 5)) nw_738 nw_19 rfl ⟨by decide, by decide⟩ (Nat.le_of_ble_eq_true rfl) hl.1 ⟨Nat.le_of_ble_eq_true rfl, Nat.le_of_ble_eq_true rfl⟩ h (fun _ _ h => h.elim) (fun r1 M2 H locs h hw => ?_)
  refine W.eq (g2 := F0 m 7 ls [.int r1, .int x1]) rfl ?_
  refine nf_ic_ge hx hb d_F_addRomanLetter_7 (tgt := 20) (by decide) (fun hc => ?_) (fun hc => ?_)
  · have h := h.1 hc
    refine nf_ldcwS K 4 rfl d_F_addRomanLetter_10 ?_
    refine W.eq (g2 := F0 m 13 ls [.ref (a (100 + ((4 : Fin 5) : Fin 5).val))]) rfl ?_
    refine lv_iload_n hx hb d_F_addRomanLetter_13 rfl (lv_at hl 1 rfl) ?_
    refine nf_callW (ex := (fun _ _ => False)) (As := [.ref (a (100 + ((4 : Fin 5) : Fin 5).val)), .int x1]) (st0 := [.int x1, .ref (a (100 + ((4 : Fin 5) : Fin 5).val))]) (rest := []) K hw (nf_invV hx hb K.2.2.2.1 (nf_Kg K nw_915) (nf_Kg K nw_746) (nf_Kg K nw_747) (nf_Kg K nw_748) ⟨by decide, by decide⟩ (nf_rcvS K hw (4 : Fin 5)) rfl nl_JS_charAt rfl d_F_addRomanLetter_14) (c_JS_charAt l hfl (4 : Fin 5) x1) nw_748 nw_19 rfl ⟨by decide, by decide⟩ (Nat.le_of_ble_eq_true rfl) hl.1 ⟨Nat.le_of_ble_eq_true rfl, Nat.le_of_ble_eq_true rfl⟩ h (fun _ _ h => h.elim) (fun r3 M4 H locs h hw => ?_)
    refine W.eq (g2 := F0 m 17 ls [.int r3]) rfl ?_
    refine lv_goto hx hb d_F_addRomanLetter_17 (tgt := 22) (by decide) ?_
    exact w_F_addRomanLetter_22 hfl K x2 r3 M4 _ _ _ h (lv_sub hl [0, 2] rfl) hw
  · have h := h.2 hc
    refine lv_bipush (v := (32 : Int32)) hx hb d_F_addRomanLetter_20 (by decide) ?_
    exact w_F_addRomanLetter_22 hfl K x2 (32 : Int32) M2 _ _ _ h (lv_sub hl [0, 2] rfl) hw
theorem d_F_writeRoman_0 : decode nb_F_writeRoman 0 = .ok (.aload_n 0, 1) := by decide +kernel
theorem d_F_writeRoman_1 : decode nb_F_writeRoman 1 = .ok (.getfield 29, 3) := by decide +kernel
theorem d_F_writeRoman_4 : decode nb_F_writeRoman 4 = .ok (.invokevirtual 68, 3) := by decide +kernel
theorem d_F_writeRoman_7 : decode nb_F_writeRoman 7 = .ok (.lload_n 1, 1) := by decide +kernel
theorem d_F_writeRoman_8 : decode nb_F_writeRoman 8 = .ok (.lstore 4, 2) := by decide +kernel
theorem d_F_writeRoman_10 : decode nb_F_writeRoman 10 = .ok (.iconst 0, 1) := by decide +kernel
theorem d_F_writeRoman_11 : decode nb_F_writeRoman 11 = .ok (.istore 6, 2) := by decide +kernel
theorem d_F_writeRoman_13 : decode nb_F_writeRoman 13 = .ok (.iload 6, 2) := by decide +kernel
theorem d_F_writeRoman_15 : decode nb_F_writeRoman 15 = .ok (.getstatic 478, 3) := by decide +kernel
theorem d_F_writeRoman_18 : decode nb_F_writeRoman 18 = .ok (.arraylength, 1) := by decide +kernel
theorem d_F_writeRoman_19 : decode nb_F_writeRoman 19 = .ok (.if_icmp .ge 69, 3) := by decide +kernel
theorem d_F_writeRoman_22 : decode nb_F_writeRoman 22 = .ok (.iconst 0, 1) := by decide +kernel
theorem d_F_writeRoman_23 : decode nb_F_writeRoman 23 = .ok (.istore 7, 2) := by decide +kernel
theorem d_F_writeRoman_25 : decode nb_F_writeRoman 25 = .ok (.iload 7, 2) := by decide +kernel
theorem d_F_writeRoman_27 : decode nb_F_writeRoman 27 = .ok (.iconst 3, 1) := by decide +kernel
theorem d_F_writeRoman_28 : decode nb_F_writeRoman 28 = .ok (.if_icmp .ge 54, 3) := by decide +kernel
theorem d_F_writeRoman_31 : decode nb_F_writeRoman 31 = .ok (.lload 4, 2) := by decide +kernel
theorem d_F_writeRoman_33 : decode nb_F_writeRoman 33 = .ok (.getstatic 478, 3) := by decide +kernel
theorem d_F_writeRoman_36 : decode nb_F_writeRoman 36 = .ok (.iload 6, 2) := by decide +kernel
theorem d_F_writeRoman_38 : decode nb_F_writeRoman 38 = .ok (.iaload, 1) := by decide +kernel
theorem d_F_writeRoman_39 : decode nb_F_writeRoman 39 = .ok (.i2l, 1) := by decide +kernel
theorem d_F_writeRoman_40 : decode nb_F_writeRoman 40 = .ok (.lcmp, 1) := by decide +kernel
theorem d_F_writeRoman_41 : decode nb_F_writeRoman 41 = .ok (.ifCond .lt 41, 3) := by decide +kernel
theorem d_F_writeRoman_44 : decode nb_F_writeRoman 44 = .ok (.aload_n 0, 1) := by decide +kernel
theorem d_F_writeRoman_45 : decode nb_F_writeRoman 45 = .ok (.iconst 2, 1) := by decide +kernel
theorem d_F_writeRoman_46 : decode nb_F_writeRoman 46 = .ok (.iload 6, 2) := by decide +kernel
theorem d_F_writeRoman_48 : decode nb_F_writeRoman 48 = .ok (.imul, 1) := by decide +kernel
theorem d_F_writeRoman_49 : decode nb_F_writeRoman 49 = .ok (.iload_n 3, 1) := by decide +kernel
theorem d_F_writeRoman_50 : decode nb_F_writeRoman 50 = .ok (.invokevirtual 482, 3) := by decide +kernel
theorem d_F_writeRoman_53 : decode nb_F_writeRoman 53 = .ok (.aload_n 0, 1) := by decide +kernel
theorem d_F_writeRoman_54 : decode nb_F_writeRoman 54 = .ok (.iconst 2, 1) := by decide +kernel
theorem d_F_writeRoman_55 : decode nb_F_writeRoman 55 = .ok (.iload 6, 2) := by decide +kernel
theorem d_F_writeRoman_57 : decode nb_F_writeRoman 57 = .ok (.imul, 1) := by decide +kernel
theorem d_F_writeRoman_58 : decode nb_F_writeRoman 58 = .ok (.iconst 1, 1) := by decide +kernel
theorem d_F_writeRoman_59 : decode nb_F_writeRoman 59 = .ok (.iadd, 1) := by decide +kernel
theorem d_F_writeRoman_60 : decode nb_F_writeRoman 60 = .ok (.iload_n 3, 1) := by decide +kernel
theorem d_F_writeRoman_61 : decode nb_F_writeRoman 61 = .ok (.invokevirtual 482, 3) := by decide +kernel
theorem d_F_writeRoman_64 : decode nb_F_writeRoman 64 = .ok (.lload 4, 2) := by decide +kernel
theorem d_F_writeRoman_66 : decode nb_F_writeRoman 66 = .ok (.getstatic 478, 3) := by decide +kernel
theorem d_F_writeRoman_69 : decode nb_F_writeRoman 69 = .ok (.iload 6, 2) := by decide +kernel
theorem d_F_writeRoman_71 : decode nb_F_writeRoman 71 = .ok (.iaload, 1) := by decide +kernel
theorem d_F_writeRoman_72 : decode nb_F_writeRoman 72 = .ok (.i2l, 1) := by decide +kernel
theorem d_F_writeRoman_73 : decode nb_F_writeRoman 73 = .ok (.lsub, 1) := by decide +kernel
theorem d_F_writeRoman_74 : decode nb_F_writeRoman 74 = .ok (.lstore 4, 2) := by decide +kernel
theorem d_F_writeRoman_76 : decode nb_F_writeRoman 76 = .ok (.iinc 7 1, 3) := by decide +kernel
theorem d_F_writeRoman_79 : decode nb_F_writeRoman 79 = .ok (.goto (-54), 3) := by decide +kernel
theorem d_F_writeRoman_82 : decode nb_F_writeRoman 82 = .ok (.iinc 6 1, 3) := by decide +kernel
theorem d_F_writeRoman_85 : decode nb_F_writeRoman 85 = .ok (.goto (-72), 3) := by decide +kernel
theorem d_F_writeRoman_88 : decode nb_F_writeRoman 88 = .ok (.return_, 1) := by decide +kernel
abbrev rm_F_writeRoman : Room := ({ frames := 7, cells := 0, slots := 0, locals := 184 })
theorem w_F_writeRoman_82 {post : Unit → nf_M → Prop} (hfl : l.flags = flags0) (K : nf_K p s m args meth c "NumberForge" nb_F_writeRoman 8 none D a sz) (k13 : Int32 → Int64 → Int32 → nf_M → Prop) (hk13 : ∀ (x3 : Int32) (x4 : Int64) (x6 : Int32) (M : nf_M) (H : Heap) (locs : List Loc) (ls : Array Slot), k13 x3 x4 x6 M → lv_has ls 8 [(0, .ref (a 0)), (3, .int x3), (4, .long x4), (6, .int x6)] → nf_W D a s sz H locs M → W p l e rm_F_writeRoman s m args below meth c H locs 0 0 (nf_MQ below (nf_Q nf_jN D a post ex (nf_A a sz)) args s rm_F_writeRoman.cells rm_F_writeRoman.slots (nf_A a sz)) (F0 m 13 ls [])) : ∀ (x3 : Int32) (x4 : Int64) (x6 : Int32) (M : nf_M) (H : Heap) (locs : List Loc) (ls : Array Slot), B_F_writeRoman_82 k13 post x3 x4 x6 M → lv_has ls 8 [(0, .ref (a 0)), (3, .int x3), (4, .long x4), (6, .int x6)] → nf_W D a s sz H locs M → W p l e rm_F_writeRoman s m args below meth c H locs 0 0 (nf_MQ below (nf_Q nf_jN D a post ex (nf_A a sz)) args s rm_F_writeRoman.cells rm_F_writeRoman.slots (nf_A a sz)) (F0 m 82 ls []) := by
  have hx := K.1
  have hb := K.2.1
  intro x3 x4 x6 M H locs ls h hl hw
  refine lv_iinc (k := 3) (v := x6 + (1 : Int32)) (lv' := [(6, .int (x6 + (1 : Int32))), (0, .ref (a 0)), (3, .int x3), (4, .long x4)]) hx hb d_F_writeRoman_82 hl rfl (nf_inc (by decide)) (by decide) rfl (fun ls hl => ?_)
  refine lv_goto hx hb d_F_writeRoman_85 (tgt := 13) (by decide) ?_
  exact hk13 x3 x4 (x6 + (1 : Int32)) M _ _ _ h (lv_sub hl [1, 2, 3, 0] rfl) hw
theorem w_F_writeRoman_25 {post : Unit → nf_M → Prop} (hfl : l.flags = flags0) (K : nf_K p s m args meth c "NumberForge" nb_F_writeRoman 8 none D a sz) (k13 : Int32 → Int64 → Int32 → nf_M → Prop) (hk13 : ∀ (x3 : Int32) (x4 : Int64) (x6 : Int32) (M : nf_M) (H : Heap) (locs : List Loc) (ls : Array Slot), k13 x3 x4 x6 M → lv_has ls 8 [(0, .ref (a 0)), (3, .int x3), (4, .long x4), (6, .int x6)] → nf_W D a s sz H locs M → W p l e rm_F_writeRoman s m args below meth c H locs 0 0 (nf_MQ below (nf_Q nf_jN D a post ex (nf_A a sz)) args s rm_F_writeRoman.cells rm_F_writeRoman.slots (nf_A a sz)) (F0 m 13 ls [])) : ∀ (n : Nat) (x3 : Int32) (x4 : Int64) (x6 : Int32) (x7 : Int32) (M : nf_M) (H : Heap) (locs : List Loc) (ls : Array Slot), B_F_writeRoman_25 k13 post n x3 x4 x6 x7 M → lv_has ls 8 [(0, .ref (a 0)), (3, .int x3), (4, .long x4), (6, .int x6), (7, .int x7)] → nf_W D a s sz H locs M → W p l e rm_F_writeRoman s m args below meth c H locs 0 0 (nf_MQ below (nf_Q nf_jN D a post ex (nf_A a sz)) args s rm_F_writeRoman.cells rm_F_writeRoman.slots (nf_A a sz)) (F0 m 25 ls []) := by
  have hx := K.1
  have hb := K.2.1
  intro n
  induction n with
  | zero => intro x3 x4 x6 x7 M H locs ls h hl hw; exact h.elim
  | succ n ih =>
    intro x3 x4 x6 x7 M H locs ls h hl hw
    refine lv_iload hx hb d_F_writeRoman_25 (lv_at hl 4 rfl) ?_
    refine lv_iconst (v := (3 : Int32)) hx hb d_F_writeRoman_27 (by decide) ?_
    refine nf_ic_ge hx hb d_F_writeRoman_28 (tgt := 82) (by decide) (fun hc => ?_) (fun hc => ?_)
    · have h := h.1 hc
      refine lv_lload hx hb d_F_writeRoman_31 (lv_at hl 2 rfl) ?_
      refine nf_gets K hw (nf_st0 K).2.2.2.2.2.2.1 nw_907 d_F_writeRoman_33 ?_
      refine lv_iload hx hb d_F_writeRoman_36 (lv_at hl 3 rfl) ?_
      obtain ⟨g1, h⟩ := h
      refine va_ti (v := .int (nf_ROM.getD x6.toNatClampNeg 0)) hx hb (nf_st0 K).2.2.2.2.2.2.2.1 hw.2.2 g1 rfl d_F_writeRoman_38 ?_
      refine lv_i2l hx hb d_F_writeRoman_39 rfl ?_
      refine nf_lc_lt hx hb d_F_writeRoman_40 d_F_writeRoman_41 (tgt := 82) (by decide) (fun hc => ?_) (fun hc => ?_)
      · have h := h.1 hc
        exact w_F_writeRoman_82 hfl K k13 hk13 x3 x4 x6 M _ _ _ h (lv_sub hl [0, 1, 2, 3] rfl) hw
      · have h := h.2 hc
        refine lv_aload_n hx hb d_F_writeRoman_44 rfl (lv_at hl 0 rfl) ?_
        refine lv_iconst (v := (2 : Int32)) hx hb d_F_writeRoman_45 (by decide) ?_
        refine lv_iload hx hb d_F_writeRoman_46 (lv_at hl 3 rfl) ?_
        refine lv_imul hx hb d_F_writeRoman_48 ?_
        refine lv_iload_n hx hb d_F_writeRoman_49 rfl (lv_at hl 1 rfl) ?_
        refine nf_callW (ex := (fun _ _ => False)) (As := [.ref (a 0), .int ((2 : Int32) * x6), .int x3]) (st0 := [.int x3, .int ((2 : Int32) * x6), .ref (a 0)]) (rest := []) K hw (nf_invV hx hb K.2.2.2.1 (nf_Kg K nw_909) (nf_Kg K nw_911) (nf_Kg K nx_F_addRomanLetter) (nf_Kg K nw_912) ⟨by decide, by decide⟩ (nf_rcv K hw 0 6 rfl rfl) rfl nl_F_addRomanLetter rfl d_F_writeRoman_50) (c_F_addRomanLetter l hfl ((2 : Int32) * x6) x3) nw_912 nw_1 rfl ⟨by decide, by decide⟩ (Nat.le_of_ble_eq_true rfl) hl.1 ⟨Nat.le_of_ble_eq_true rfl, Nat.le_of_ble_eq_true rfl⟩ h (fun _ _ h => h.elim) (fun r2 M3 H locs h hw => ?_)
        refine W.eq (g2 := F0 m 53 ls []) rfl ?_
        refine lv_aload_n hx hb d_F_writeRoman_53 rfl (lv_at hl 0 rfl) ?_
        refine lv_iconst (v := (2 : Int32)) hx hb d_F_writeRoman_54 (by decide) ?_
        refine lv_iload hx hb d_F_writeRoman_55 (lv_at hl 3 rfl) ?_
        refine lv_imul hx hb d_F_writeRoman_57 ?_
        refine lv_iconst (v := (1 : Int32)) hx hb d_F_writeRoman_58 (by decide) ?_
        refine lv_iadd hx hb d_F_writeRoman_59 ?_
        refine lv_iload_n hx hb d_F_writeRoman_60 rfl (lv_at hl 1 rfl) ?_
        refine nf_callW (ex := (fun _ _ => False)) (As := [.ref (a 0), .int (((2 : Int32) * x6) + (1 : Int32)), .int x3]) (st0 := [.int x3, .int (((2 : Int32) * x6) + (1 : Int32)), .ref (a 0)]) (rest := []) K hw (nf_invV hx hb K.2.2.2.1 (nf_Kg K nw_909) (nf_Kg K nw_911) (nf_Kg K nx_F_addRomanLetter) (nf_Kg K nw_912) ⟨by decide, by decide⟩ (nf_rcv K hw 0 6 rfl rfl) rfl nl_F_addRomanLetter rfl d_F_writeRoman_61) (c_F_addRomanLetter l hfl (((2 : Int32) * x6) + (1 : Int32)) x3) nw_912 nw_1 rfl ⟨by decide, by decide⟩ (Nat.le_of_ble_eq_true rfl) hl.1 ⟨Nat.le_of_ble_eq_true rfl, Nat.le_of_ble_eq_true rfl⟩ h (fun _ _ h => h.elim) (fun r4 M5 H locs h hw => ?_)
        refine W.eq (g2 := F0 m 64 ls []) rfl ?_
        refine lv_lload hx hb d_F_writeRoman_64 (lv_at hl 2 rfl) ?_
        refine nf_gets K hw (nf_st0 K).2.2.2.2.2.2.1 nw_907 d_F_writeRoman_66 ?_
        refine lv_iload hx hb d_F_writeRoman_69 (lv_at hl 3 rfl) ?_
        obtain ⟨g6, h⟩ := h
        refine va_ti (v := .int (nf_ROM.getD x6.toNatClampNeg 0)) hx hb (nf_st0 K).2.2.2.2.2.2.2.1 hw.2.2 g6 rfl d_F_writeRoman_71 ?_
        refine lv_i2l hx hb d_F_writeRoman_72 rfl ?_
        refine lv_lsub hx hb d_F_writeRoman_73 ?_
        refine lv_topl (fun t7 et7 => ?_)
        have h := h t7 et7
        refine lv_lstore (lv' := [(4, .long t7), (0, .ref (a 0)), (3, .int x3), (6, .int x6), (7, .int x7)]) hx hb d_F_writeRoman_74 hl (by decide) rfl (fun ls hl => ?_)
        refine lv_iinc (k := 4) (v := x7 + (1 : Int32)) (lv' := [(7, .int (x7 + (1 : Int32))), (4, .long t7), (0, .ref (a 0)), (3, .int x3), (6, .int x6)]) hx hb d_F_writeRoman_76 hl rfl (nf_inc (by decide)) (by decide) rfl (fun ls hl => ?_)
        refine lv_goto hx hb d_F_writeRoman_79 (tgt := 25) (by decide) ?_
        exact ih x3 t7 x6 (x7 + (1 : Int32)) M5 _ _ _ h (lv_sub hl [2, 3, 1, 4, 0] rfl) hw
    · have h := h.2 hc
      exact w_F_writeRoman_82 hfl K k13 hk13 x3 x4 x6 M _ _ _ h (lv_sub hl [0, 1, 2, 3] rfl) hw
theorem w_F_writeRoman_13 {post : Unit → nf_M → Prop} (hfl : l.flags = flags0) (K : nf_K p s m args meth c "NumberForge" nb_F_writeRoman 8 none D a sz) : ∀ (n : Nat) (x3 : Int32) (x4 : Int64) (x6 : Int32) (M : nf_M) (H : Heap) (locs : List Loc) (ls : Array Slot), B_F_writeRoman_13 post n x3 x4 x6 M → lv_has ls 8 [(0, .ref (a 0)), (3, .int x3), (4, .long x4), (6, .int x6)] → nf_W D a s sz H locs M → W p l e rm_F_writeRoman s m args below meth c H locs 0 0 (nf_MQ below (nf_Q nf_jN D a post ex (nf_A a sz)) args s rm_F_writeRoman.cells rm_F_writeRoman.slots (nf_A a sz)) (F0 m 13 ls []) := by
  have hx := K.1
  have hb := K.2.1
  intro n
  induction n with
  | zero => intro x3 x4 x6 M H locs ls h hl hw; exact h.elim
  | succ n ih =>
    intro x3 x4 x6 M H locs ls h hl hw
    refine lv_iload hx hb d_F_writeRoman_13 (lv_at hl 3 rfl) ?_
    refine nf_gets K hw (nf_st0 K).2.2.2.2.2.2.1 nw_907 d_F_writeRoman_15 ?_
    refine va_tlen (v := (13 : Int32)) hx hb (nf_st0 K).2.2.2.2.2.2.2.1 hw.2.2 (by decide) d_F_writeRoman_18 ?_
    refine nf_ic_ge hx hb d_F_writeRoman_19 (tgt := 88) (by decide) (fun hc => ?_) (fun hc => ?_)
    · have h := h.1 hc
      refine lv_iconst (v := (0 : Int32)) hx hb d_F_writeRoman_22 (by decide) ?_
      refine lv_istore (lv' := [(7, .int (0 : Int32)), (0, .ref (a 0)), (3, .int x3), (4, .long x4), (6, .int x6)]) hx hb d_F_writeRoman_23 hl (by decide) rfl (fun ls hl => ?_)
      obtain ⟨n9, h⟩ := h
      exact w_F_writeRoman_25 hfl K (fun x3 x4 x6 z => B_F_writeRoman_13 post n x3 x4 x6 z) (fun x3 x4 x6 z H locs ls hh hll hww => ih x3 x4 x6 z H locs ls hh hll hww) n9 x3 x4 x6 (0 : Int32) M _ _ _ h (lv_sub hl [1, 2, 3, 4, 0] rfl) hw
    · have h := h.2 hc
      exact nf_vret K hw d_F_writeRoman_88 (Nat.le_of_ble_eq_true rfl) (Nat.le_of_ble_eq_true rfl) (r := ()) rfl h
theorem c_F_writeRoman (l : Launch) (hfl : l.flags = flags0) (x1 : Int64) (x3 : Int32) : nf_C nf_jN l nm_F_writeRoman nb_F_writeRoman 8 none rm_F_writeRoman (fun a => [.ref (a 0), .long x1, .int x3]) (fun M post ex => P_F_writeRoman x1 x3 M post) := by
  refine nf_start (plainFor_of_name (by decide +kernel)) (fun a => Nat.le_of_ble_eq_true rfl) ?_
  intro D a sz M post ex p e s m below meth c ls h K hl hw
  have hx := K.1
  have hb := K.2.1
  have hl : lv_has ls 8 [(0, .ref (a 0)), (1, .long x1), (3, .int x3)] := hl
  refine lv_aload_n hx hb d_F_writeRoman_0 rfl (lv_at hl 0 rfl) ?_
  refine nf_get (v := .ref (a (nf_ro true))) K hw 0 6 3 nw_171 rfl rfl ni_F (by decide) rfl rfl d_F_writeRoman_1 ?_
  refine nf_callW (ex := (fun _ _ => False)) (As := [.ref (a (nf_ro true))]) (st0 := [.ref (a (nf_ro true))]) (rest := []) K hw (nf_invVN hx hb K.2.2.2.1 ((nf_Kr K nv_205).use rfl) (nf_Kg K nw_207) (nf_Kg K nx_R_clear) (nf_Kg K nw_208) ⟨by decide, by decide⟩ (nf_rcv K hw (nf_ro true) 3 (nf_heR _ _ _) rfl) rfl nl_R_clear rfl d_F_writeRoman_4) (c_R_clear l hfl true) nw_208 nw_3 rfl ⟨by decide, by decide⟩ (Nat.le_of_ble_eq_true rfl) hl.1 ⟨Nat.le_of_ble_eq_true rfl, Nat.le_of_ble_eq_true rfl⟩ h (fun _ _ h => h.elim) (fun r1 M2 H locs h hw => ?_)
  refine W.eq (g2 := F0 m 7 ls []) rfl ?_
  refine lv_lload_n hx hb d_F_writeRoman_7 rfl (lv_at hl 1 rfl) ?_
  refine lv_lstore (lv' := [(4, .long x1), (0, .ref (a 0)), (1, .long x1), (3, .int x3)]) hx hb d_F_writeRoman_8 hl (by decide) rfl (fun ls hl => ?_)
  refine lv_iconst (v := (0 : Int32)) hx hb d_F_writeRoman_10 (by decide) ?_
  refine lv_istore (lv' := [(6, .int (0 : Int32)), (4, .long x1), (0, .ref (a 0)), (1, .long x1), (3, .int x3)]) hx hb d_F_writeRoman_11 hl (by decide) rfl (fun ls hl => ?_)
  obtain ⟨n, h⟩ := h
  exact w_F_writeRoman_13 hfl K n x3 x1 (0 : Int32) M2 _ _ _ h (lv_sub hl [2, 4, 1, 0] rfl) hw
theorem d_R_turn_0 : decode nb_R_turn 0 = .ok (.iconst 0, 1) := by decide +kernel
theorem d_R_turn_1 : decode nb_R_turn 1 = .ok (.istore_n 1, 1) := by decide +kernel
theorem d_R_turn_2 : decode nb_R_turn 2 = .ok (.aload_n 0, 1) := by decide +kernel
theorem d_R_turn_3 : decode nb_R_turn 3 = .ok (.getfield 19, 3) := by decide +kernel
theorem d_R_turn_6 : decode nb_R_turn 6 = .ok (.iconst 1, 1) := by decide +kernel
theorem d_R_turn_7 : decode nb_R_turn 7 = .ok (.isub, 1) := by decide +kernel
theorem d_R_turn_8 : decode nb_R_turn 8 = .ok (.istore_n 2, 1) := by decide +kernel
theorem d_R_turn_9 : decode nb_R_turn 9 = .ok (.iload_n 1, 1) := by decide +kernel
theorem d_R_turn_10 : decode nb_R_turn 10 = .ok (.iload_n 2, 1) := by decide +kernel
theorem d_R_turn_11 : decode nb_R_turn 11 = .ok (.if_icmp .ge 47, 3) := by decide +kernel
theorem d_R_turn_14 : decode nb_R_turn 14 = .ok (.iload_n 2, 1) := by decide +kernel
theorem d_R_turn_15 : decode nb_R_turn 15 = .ok (.aload_n 0, 1) := by decide +kernel
theorem d_R_turn_16 : decode nb_R_turn 16 = .ok (.getfield 13, 3) := by decide +kernel
theorem d_R_turn_19 : decode nb_R_turn 19 = .ok (.arraylength, 1) := by decide +kernel
theorem d_R_turn_20 : decode nb_R_turn 20 = .ok (.if_icmp .ge 38, 3) := by decide +kernel
theorem d_R_turn_23 : decode nb_R_turn 23 = .ok (.aload_n 0, 1) := by decide +kernel
theorem d_R_turn_24 : decode nb_R_turn 24 = .ok (.getfield 13, 3) := by decide +kernel
theorem d_R_turn_27 : decode nb_R_turn 27 = .ok (.iload_n 1, 1) := by decide +kernel
theorem d_R_turn_28 : decode nb_R_turn 28 = .ok (.caload, 1) := by decide +kernel
theorem d_R_turn_29 : decode nb_R_turn 29 = .ok (.istore_n 3, 1) := by decide +kernel
theorem d_R_turn_30 : decode nb_R_turn 30 = .ok (.aload_n 0, 1) := by decide +kernel
theorem d_R_turn_31 : decode nb_R_turn 31 = .ok (.getfield 13, 3) := by decide +kernel
theorem d_R_turn_34 : decode nb_R_turn 34 = .ok (.iload_n 1, 1) := by decide +kernel
theorem d_R_turn_35 : decode nb_R_turn 35 = .ok (.aload_n 0, 1) := by decide +kernel
theorem d_R_turn_36 : decode nb_R_turn 36 = .ok (.getfield 13, 3) := by decide +kernel
theorem d_R_turn_39 : decode nb_R_turn 39 = .ok (.iload_n 2, 1) := by decide +kernel
theorem d_R_turn_40 : decode nb_R_turn 40 = .ok (.caload, 1) := by decide +kernel
theorem d_R_turn_41 : decode nb_R_turn 41 = .ok (.castore, 1) := by decide +kernel
theorem d_R_turn_42 : decode nb_R_turn 42 = .ok (.aload_n 0, 1) := by decide +kernel
theorem d_R_turn_43 : decode nb_R_turn 43 = .ok (.getfield 13, 3) := by decide +kernel
theorem d_R_turn_46 : decode nb_R_turn 46 = .ok (.iload_n 2, 1) := by decide +kernel
theorem d_R_turn_47 : decode nb_R_turn 47 = .ok (.iload_n 3, 1) := by decide +kernel
theorem d_R_turn_48 : decode nb_R_turn 48 = .ok (.castore, 1) := by decide +kernel
theorem d_R_turn_49 : decode nb_R_turn 49 = .ok (.iinc 1 1, 3) := by decide +kernel
theorem d_R_turn_52 : decode nb_R_turn 52 = .ok (.iinc 2 (-1), 3) := by decide +kernel
theorem d_R_turn_55 : decode nb_R_turn 55 = .ok (.goto (-46), 3) := by decide +kernel
theorem d_R_turn_58 : decode nb_R_turn 58 = .ok (.return_, 1) := by decide +kernel
abbrev rm_R_turn : Room := ({ frames := 0, cells := 0, slots := 0, locals := 0 })
theorem w_R_turn_58 {post : Unit → nf_M → Prop} (hfl : l.flags = flags0) (K : nf_K p s m args meth c "NumberForge$Row" nb_R_turn 4 none D a sz) : ∀ (M : nf_M) (H : Heap) (locs : List Loc) (ls : Array Slot), B_R_turn_58 post  M → lv_has ls 4 [] → nf_W D a s sz H locs M → W p l e rm_R_turn s m args below meth c H locs 0 0 (nf_MQ below (nf_Q nf_jN D a post ex (nf_A a sz)) args s rm_R_turn.cells rm_R_turn.slots (nf_A a sz)) (F0 m 58 ls []) := by
  have hx := K.1
  have hb := K.2.1
  intro  M H locs ls h hl hw
  exact nf_vret K hw d_R_turn_58 (Nat.le_of_ble_eq_true rfl) (Nat.le_of_ble_eq_true rfl) (r := ()) rfl h
theorem w_R_turn_9 {post : Unit → nf_M → Prop} (hfl : l.flags = flags0) (K : nf_K p s m args meth c "NumberForge$Row" nb_R_turn 4 none D a sz) : ∀ (n : Nat) (b0 : Bool) (x1 : Int32) (x2 : Int32) (M : nf_M) (H : Heap) (locs : List Loc) (ls : Array Slot), B_R_turn_9 post n b0 x1 x2 M → lv_has ls 4 [(0, .ref (a (nf_ro b0))), (1, .int x1), (2, .int x2)] → nf_W D a s sz H locs M → W p l e rm_R_turn s m args below meth c H locs 0 0 (nf_MQ below (nf_Q nf_jN D a post ex (nf_A a sz)) args s rm_R_turn.cells rm_R_turn.slots (nf_A a sz)) (F0 m 9 ls []) := by
  have hx := K.1
  have hb := K.2.1
  intro n
  induction n with
  | zero => intro b0 x1 x2 M H locs ls h hl hw; exact h.elim
  | succ n ih =>
    intro b0 x1 x2 M H locs ls h hl hw
    refine lv_iload_n hx hb d_R_turn_9 rfl (lv_at hl 1 rfl) ?_
    refine lv_iload_n hx hb d_R_turn_10 rfl (lv_at hl 2 rfl) ?_
    refine nf_ic_ge hx hb d_R_turn_11 (tgt := 58) (by decide) (fun hc => ?_) (fun hc => ?_)
    · have h := h.1 hc
      refine lv_iload_n hx hb d_R_turn_14 rfl (lv_at hl 2 rfl) ?_
      refine lv_aload_n hx hb d_R_turn_15 rfl (lv_at hl 0 rfl) ?_
      refine nf_get (v := .ref (a (nf_ro b0 + 1))) K hw (nf_ro b0) 3 0 nw_66 (nf_heR _ _ _) rfl ni_R (by decide) rfl rfl d_R_turn_16 ?_
      refine nf_clen K hw d_R_turn_19 ?_
      refine nf_ic_ge hx hb d_R_turn_20 (tgt := 58) (by decide) (fun hc => ?_) (fun hc => ?_)
      · have h := h.1 hc
        refine lv_aload_n hx hb d_R_turn_23 rfl (lv_at hl 0 rfl) ?_
        refine nf_get (v := .ref (a (nf_ro b0 + 1))) K hw (nf_ro b0) 3 0 nw_66 (nf_heR _ _ _) rfl ni_R (by decide) rfl rfl d_R_turn_24 ?_
        refine lv_iload_n hx hb d_R_turn_27 rfl (lv_at hl 1 rfl) ?_
        obtain ⟨g1, h⟩ := h
        refine nf_cald K hw g1 d_R_turn_28 ?_
        refine lv_topi (fun t2 et2 => ?_)
        have h := h t2 et2
        refine lv_istore_n (lv' := [(3, .int t2), (0, .ref (a (nf_ro b0))), (1, .int x1), (2, .int x2)]) hx hb d_R_turn_29 rfl hl (by decide) rfl (fun ls hl => ?_)
        refine lv_aload_n hx hb d_R_turn_30 rfl (lv_at hl 1 rfl) ?_
        refine nf_get (v := .ref (a (nf_ro b0 + 1))) K hw (nf_ro b0) 3 0 nw_66 (nf_heR _ _ _) rfl ni_R (by decide) rfl rfl d_R_turn_31 ?_
        refine lv_iload_n hx hb d_R_turn_34 rfl (lv_at hl 2 rfl) ?_
        refine lv_aload_n hx hb d_R_turn_35 rfl (lv_at hl 1 rfl) ?_
        refine nf_get (v := .ref (a (nf_ro b0 + 1))) K hw (nf_ro b0) 3 0 nw_66 (nf_heR _ _ _) rfl ni_R (by decide) rfl rfl d_R_turn_36 ?_
        refine lv_iload_n hx hb d_R_turn_39 rfl (lv_at hl 3 rfl) ?_
        obtain ⟨g3, h⟩ := h
        refine nf_cald K hw g3 d_R_turn_40 ?_
        refine lv_topi (fun t4 et4 => ?_)
        have h := h t4 et4
        obtain ⟨g5, h⟩ := h
        refine nf_cast K hw g5 d_R_turn_41 (fun H locs hw => ?_)
        obtain ⟨M6, eM6⟩ : ∃ z, z = ms_C M b0 x1.toNatClampNeg (vp_nar .char t4) := ⟨_, rfl⟩
        rw [← eM6] at hw
        have h := h M6 eM6
        refine lv_aload_n hx hb d_R_turn_42 rfl (lv_at hl 1 rfl) ?_
        refine nf_get (v := .ref (a (nf_ro b0 + 1))) K hw (nf_ro b0) 3 0 nw_66 (nf_heR _ _ _) rfl ni_R (by decide) rfl rfl d_R_turn_43 ?_
        refine lv_iload_n hx hb d_R_turn_46 rfl (lv_at hl 3 rfl) ?_
        refine lv_iload_n hx hb d_R_turn_47 rfl (lv_at hl 0 rfl) ?_
        obtain ⟨g7, h⟩ := h
        refine nf_cast K hw g7 d_R_turn_48 (fun H locs hw => ?_)
        obtain ⟨M8, eM8⟩ : ∃ z, z = ms_C M6 b0 x2.toNatClampNeg (vp_nar .char t2) := ⟨_, rfl⟩
        rw [← eM8] at hw
        have h := h M8 eM8
        refine lv_iinc (k := 2) (v := x1 + (1 : Int32)) (lv' := [(1, .int (x1 + (1 : Int32))), (3, .int t2), (0, .ref (a (nf_ro b0))), (2, .int x2)]) hx hb d_R_turn_49 hl rfl (nf_inc (by decide)) (by decide) rfl (fun ls hl => ?_)
        refine lv_iinc (k := 3) (v := x2 + (-1 : Int32)) (lv' := [(2, .int (x2 + (-1 : Int32))), (1, .int (x1 + (1 : Int32))), (3, .int t2), (0, .ref (a (nf_ro b0)))]) hx hb d_R_turn_52 hl rfl (nf_inc (by decide)) (by decide) rfl (fun ls hl => ?_)
        refine lv_goto hx hb d_R_turn_55 (tgt := 9) (by decide) ?_
        exact ih b0 (x1 + (1 : Int32)) (x2 + (-1 : Int32)) M8 _ _ _ h (lv_sub hl [3, 1, 0] rfl) hw
      · have h := h.2 hc
        exact w_R_turn_58 hfl K  M _ _ _ h (lv_sub hl [] rfl) hw
    · have h := h.2 hc
      exact w_R_turn_58 hfl K  M _ _ _ h (lv_sub hl [] rfl) hw
theorem c_R_turn (l : Launch) (hfl : l.flags = flags0) (b0 : Bool) : nf_C nf_jN l nm_R_turn nb_R_turn 4 none rm_R_turn (fun a => [.ref (a (nf_ro b0))]) (fun M post ex => P_R_turn b0 M post) := by
  refine nf_start (plainFor_of_name (by decide +kernel)) (fun a => Nat.le_of_ble_eq_true rfl) ?_
  intro D a sz M post ex p e s m below meth c ls h K hl hw
  have hx := K.1
  have hb := K.2.1
  have hl : lv_has ls 4 [(0, .ref (a (nf_ro b0)))] := hl
  refine lv_iconst (v := (0 : Int32)) hx hb d_R_turn_0 (by decide) ?_
  refine lv_istore_n (lv' := [(1, .int (0 : Int32)), (0, .ref (a (nf_ro b0)))]) hx hb d_R_turn_1 rfl hl (by decide) rfl (fun ls hl => ?_)
  refine lv_aload_n hx hb d_R_turn_2 rfl (lv_at hl 1 rfl) ?_
  refine nf_get (v := .int (mg_N M b0)) K hw (nf_ro b0) 3 1 nw_67 (nf_heR _ _ _) rfl ni_R (by decide) rfl rfl d_R_turn_3 ?_
  refine lv_iconst (v := (1 : Int32)) hx hb d_R_turn_6 (by decide) ?_
  refine lv_isub hx hb d_R_turn_7 ?_
  refine lv_topi (fun t1 et1 => ?_)
  have h := h t1 et1
  refine lv_istore_n (lv' := [(2, .int t1), (1, .int (0 : Int32)), (0, .ref (a (nf_ro b0)))]) hx hb d_R_turn_8 rfl hl (by decide) rfl (fun ls hl => ?_)
  obtain ⟨n, h⟩ := h
  exact w_R_turn_9 hfl K n b0 (0 : Int32) t1 M _ _ _ h (lv_sub hl [2, 1, 0] rfl) hw
theorem d_F_writeAlphabet_0 : decode nb_F_writeAlphabet 0 = .ok (.aload_n 0, 1) := by decide +kernel
theorem d_F_writeAlphabet_1 : decode nb_F_writeAlphabet 1 = .ok (.getfield 29, 3) := by decide +kernel
theorem d_F_writeAlphabet_4 : decode nb_F_writeAlphabet 4 = .ok (.invokevirtual 68, 3) := by decide +kernel
theorem d_F_writeAlphabet_7 : decode nb_F_writeAlphabet 7 = .ok (.lload_n 1, 1) := by decide +kernel
theorem d_F_writeAlphabet_8 : decode nb_F_writeAlphabet 8 = .ok (.lstore 4, 2) := by decide +kernel
theorem d_F_writeAlphabet_10 : decode nb_F_writeAlphabet 10 = .ok (.lload 4, 2) := by decide +kernel
theorem d_F_writeAlphabet_12 : decode nb_F_writeAlphabet 12 = .ok (.lconst 0, 1) := by decide +kernel
theorem d_F_writeAlphabet_13 : decode nb_F_writeAlphabet 13 = .ok (.lcmp, 1) := by decide +kernel
theorem d_F_writeAlphabet_14 : decode nb_F_writeAlphabet 14 = .ok (.ifCond .le 58, 3) := by decide +kernel
theorem d_F_writeAlphabet_17 : decode nb_F_writeAlphabet 17 = .ok (.aload_n 0, 1) := by decide +kernel
theorem d_F_writeAlphabet_18 : decode nb_F_writeAlphabet 18 = .ok (.getfield 29, 3) := by decide +kernel
theorem d_F_writeAlphabet_21 : decode nb_F_writeAlphabet 21 = .ok (.getfield 60, 3) := by decide +kernel
theorem d_F_writeAlphabet_24 : decode nb_F_writeAlphabet 24 = .ok (.bipush 15, 2) := by decide +kernel
theorem d_F_writeAlphabet_26 : decode nb_F_writeAlphabet 26 = .ok (.if_icmp .ge 46, 3) := by decide +kernel
theorem d_F_writeAlphabet_29 : decode nb_F_writeAlphabet 29 = .ok (.aload_n 0, 1) := by decide +kernel
theorem d_F_writeAlphabet_30 : decode nb_F_writeAlphabet 30 = .ok (.getfield 29, 3) := by decide +kernel
theorem d_F_writeAlphabet_33 : decode nb_F_writeAlphabet 33 = .ok (.iload_n 3, 1) := by decide +kernel
theorem d_F_writeAlphabet_34 : decode nb_F_writeAlphabet 34 = .ok (.ifCond .eq 8, 3) := by decide +kernel
theorem d_F_writeAlphabet_37 : decode nb_F_writeAlphabet 37 = .ok (.bipush 65, 2) := by decide +kernel
theorem d_F_writeAlphabet_39 : decode nb_F_writeAlphabet 39 = .ok (.goto 5, 3) := by decide +kernel
theorem d_F_writeAlphabet_42 : decode nb_F_writeAlphabet 42 = .ok (.bipush 97, 2) := by decide +kernel
theorem d_F_writeAlphabet_44 : decode nb_F_writeAlphabet 44 = .ok (.i2l, 1) := by decide +kernel
theorem d_F_writeAlphabet_45 : decode nb_F_writeAlphabet 45 = .ok (.lload 4, 2) := by decide +kernel
theorem d_F_writeAlphabet_47 : decode nb_F_writeAlphabet 47 = .ok (.lconst 1, 1) := by decide +kernel
theorem d_F_writeAlphabet_48 : decode nb_F_writeAlphabet 48 = .ok (.lsub, 1) := by decide +kernel
theorem d_F_writeAlphabet_49 : decode nb_F_writeAlphabet 49 = .ok (.ldc2_w 473, 3) := by decide +kernel
theorem d_F_writeAlphabet_52 : decode nb_F_writeAlphabet 52 = .ok (.lrem, 1) := by decide +kernel
theorem d_F_writeAlphabet_53 : decode nb_F_writeAlphabet 53 = .ok (.ladd, 1) := by decide +kernel
theorem d_F_writeAlphabet_54 : decode nb_F_writeAlphabet 54 = .ok (.l2i, 1) := by decide +kernel
theorem d_F_writeAlphabet_55 : decode nb_F_writeAlphabet 55 = .ok (.i2c, 1) := by decide +kernel
theorem d_F_writeAlphabet_56 : decode nb_F_writeAlphabet 56 = .ok (.invokevirtual 64, 3) := by decide +kernel
theorem d_F_writeAlphabet_59 : decode nb_F_writeAlphabet 59 = .ok (.lload 4, 2) := by decide +kernel
theorem d_F_writeAlphabet_61 : decode nb_F_writeAlphabet 61 = .ok (.lconst 1, 1) := by decide +kernel
theorem d_F_writeAlphabet_62 : decode nb_F_writeAlphabet 62 = .ok (.lsub, 1) := by decide +kernel
theorem d_F_writeAlphabet_63 : decode nb_F_writeAlphabet 63 = .ok (.ldc2_w 473, 3) := by decide +kernel
theorem d_F_writeAlphabet_66 : decode nb_F_writeAlphabet 66 = .ok (.ldiv, 1) := by decide +kernel
theorem d_F_writeAlphabet_67 : decode nb_F_writeAlphabet 67 = .ok (.lstore 4, 2) := by decide +kernel
theorem d_F_writeAlphabet_69 : decode nb_F_writeAlphabet 69 = .ok (.goto (-59), 3) := by decide +kernel
theorem d_F_writeAlphabet_72 : decode nb_F_writeAlphabet 72 = .ok (.aload_n 0, 1) := by decide +kernel
theorem d_F_writeAlphabet_73 : decode nb_F_writeAlphabet 73 = .ok (.getfield 29, 3) := by decide +kernel
theorem d_F_writeAlphabet_76 : decode nb_F_writeAlphabet 76 = .ok (.invokevirtual 475, 3) := by decide +kernel
theorem d_F_writeAlphabet_79 : decode nb_F_writeAlphabet 79 = .ok (.return_, 1) := by decide +kernel
abbrev rm_F_writeAlphabet : Room := ({ frames := 1, cells := 0, slots := 0, locals := 23 })
theorem w_F_writeAlphabet_44 {post : Unit → nf_M → Prop} (hfl : l.flags = flags0) (K : nf_K p s m args meth c "NumberForge" nb_F_writeAlphabet 6 none D a sz) (k10 : Int32 → Int64 → nf_M → Prop) (hk10 : ∀ (x3 : Int32) (x4 : Int64) (M : nf_M) (H : Heap) (locs : List Loc) (ls : Array Slot), k10 x3 x4 M → lv_has ls 6 [(0, .ref (a 0)), (3, .int x3), (4, .long x4)] → nf_W D a s sz H locs M → W p l e rm_F_writeAlphabet s m args below meth c H locs 0 0 (nf_MQ below (nf_Q nf_jN D a post ex (nf_A a sz)) args s rm_F_writeAlphabet.cells rm_F_writeAlphabet.slots (nf_A a sz)) (F0 m 10 ls [])) : ∀ (x3 : Int32) (x4 : Int64) (xy0 : Int32) (by1 : Bool) (M : nf_M) (H : Heap) (locs : List Loc) (ls : Array Slot), B_F_writeAlphabet_44 k10 post x3 x4 xy0 by1 M → lv_has ls 6 [(0, .ref (a 0)), (3, .int x3), (4, .long x4)] → nf_W D a s sz H locs M → W p l e rm_F_writeAlphabet s m args below meth c H locs 0 0 (nf_MQ below (nf_Q nf_jN D a post ex (nf_A a sz)) args s rm_F_writeAlphabet.cells rm_F_writeAlphabet.slots (nf_A a sz)) (F0 m 44 ls [.int xy0, .ref (a (nf_ro by1))]) := by
  have hx := K.1
  have hb := K.2.1
  intro x3 x4 xy0 by1 M H locs ls h hl hw
  refine lv_i2l hx hb d_F_writeAlphabet_44 rfl ?_
  refine lv_lload hx hb d_F_writeAlphabet_45 (lv_at hl 2 rfl) ?_
  refine lv_lconst (v := (1 : Int64)) hx hb d_F_writeAlphabet_47 (by decide) ?_
  refine lv_lsub hx hb d_F_writeAlphabet_48 ?_
  refine lv_ldc2 (v := (26 : Int64)) hx hb K.2.2.2.1 (nf_Kg K nw_920) d_F_writeAlphabet_49 ?_
  refine lv_lrem hx hb d_F_writeAlphabet_52 (by decide) ?_
  refine lv_ladd hx hb d_F_writeAlphabet_53 ?_
  refine lv_l2i hx hb d_F_writeAlphabet_54 rfl ?_
  refine lv_i2c hx hb d_F_writeAlphabet_55 rfl ?_
  refine nf_callW (ex := (fun _ _ => False)) (As := [.ref (a (nf_ro by1)), .int (((((xy0.toInt64) + ((x4 - (1 : Int64)) - (x4 - (1 : Int64)) / (26 : Int64) * (26 : Int64))).toInt32).toUInt32 % 65536).toInt32)]) (st0 := [.int (((((xy0.toInt64) + ((x4 - (1 : Int64)) - (x4 - (1 : Int64)) / (26 : Int64) * (26 : Int64))).toInt32).toUInt32 % 65536).toInt32), .ref (a (nf_ro by1))]) (rest := []) K hw (nf_invVN hx hb K.2.2.2.1 ((nf_Kr K nv_197).use rfl) (nf_Kg K nw_199) (nf_Kg K nx_R_add) (nf_Kg K nw_200) ⟨by decide, by decide⟩ (nf_rcv K hw (nf_ro by1) 3 (nf_heR _ _ _) rfl) rfl nl_R_add rfl d_F_writeAlphabet_56) (c_R_add l hfl by1 (((((xy0.toInt64) + ((x4 - (1 : Int64)) - (x4 - (1 : Int64)) / (26 : Int64) * (26 : Int64))).toInt32).toUInt32 % 65536).toInt32)) nw_200 nw_3 rfl ⟨by decide, by decide⟩ (Nat.le_of_ble_eq_true rfl) hl.1 ⟨Nat.le_of_ble_eq_true rfl, Nat.le_of_ble_eq_true rfl⟩ h (fun _ _ h => h.elim) (fun r1 M2 H locs h hw => ?_)
  refine W.eq (g2 := F0 m 59 ls []) rfl ?_
  refine lv_lload hx hb d_F_writeAlphabet_59 (lv_at hl 2 rfl) ?_
  refine lv_lconst (v := (1 : Int64)) hx hb d_F_writeAlphabet_61 (by decide) ?_
  refine lv_lsub hx hb d_F_writeAlphabet_62 ?_
  refine lv_ldc2 (v := (26 : Int64)) hx hb K.2.2.2.1 (nf_Kg K nw_920) d_F_writeAlphabet_63 ?_
  refine lv_ldiv hx hb d_F_writeAlphabet_66 (by decide) ?_
  refine lv_topl (fun t3 et3 => ?_)
  have h := h t3 et3
  refine lv_lstore (lv' := [(4, .long t3), (0, .ref (a 0)), (3, .int x3)]) hx hb d_F_writeAlphabet_67 hl (by decide) rfl (fun ls hl => ?_)
  refine lv_goto hx hb d_F_writeAlphabet_69 (tgt := 10) (by decide) ?_
  exact hk10 x3 t3 M2 _ _ _ h (lv_sub hl [1, 2, 0] rfl) hw
theorem w_F_writeAlphabet_72 {post : Unit → nf_M → Prop} (hfl : l.flags = flags0) (K : nf_K p s m args meth c "NumberForge" nb_F_writeAlphabet 6 none D a sz) : ∀ (M : nf_M) (H : Heap) (locs : List Loc) (ls : Array Slot), B_F_writeAlphabet_72 post  M → lv_has ls 6 [(0, .ref (a 0))] → nf_W D a s sz H locs M → W p l e rm_F_writeAlphabet s m args below meth c H locs 0 0 (nf_MQ below (nf_Q nf_jN D a post ex (nf_A a sz)) args s rm_F_writeAlphabet.cells rm_F_writeAlphabet.slots (nf_A a sz)) (F0 m 72 ls []) := by
  have hx := K.1
  have hb := K.2.1
  intro  M H locs ls h hl hw
  refine lv_aload_n hx hb d_F_writeAlphabet_72 rfl (lv_at hl 0 rfl) ?_
  refine nf_get (v := .ref (a (nf_ro true))) K hw 0 6 3 nw_171 rfl rfl ni_F (by decide) rfl rfl d_F_writeAlphabet_73 ?_
  refine nf_callW (ex := (fun _ _ => False)) (As := [.ref (a (nf_ro true))]) (st0 := [.ref (a (nf_ro true))]) (rest := []) K hw (nf_invVN hx hb K.2.2.2.1 ((nf_Kr K nv_921).use rfl) (nf_Kg K nw_923) (nf_Kg K nx_R_turn) (nf_Kg K nw_924) ⟨by decide, by decide⟩ (nf_rcv K hw (nf_ro true) 3 (nf_heR _ _ _) rfl) rfl nl_R_turn rfl d_F_writeAlphabet_76) (c_R_turn l hfl true) nw_924 nw_3 rfl ⟨by decide, by decide⟩ (Nat.le_of_ble_eq_true rfl) hl.1 ⟨Nat.le_of_ble_eq_true rfl, Nat.le_of_ble_eq_true rfl⟩ h (fun _ _ h => h.elim) (fun r1 M2 H locs h hw => ?_)
  refine W.eq (g2 := F0 m 79 ls []) rfl ?_
  exact nf_vret K hw d_F_writeAlphabet_79 (Nat.le_of_ble_eq_true rfl) (Nat.le_of_ble_eq_true rfl) (r := ()) rfl h
theorem w_F_writeAlphabet_10 {post : Unit → nf_M → Prop} (hfl : l.flags = flags0) (K : nf_K p s m args meth c "NumberForge" nb_F_writeAlphabet 6 none D a sz) : ∀ (n : Nat) (x3 : Int32) (x4 : Int64) (M : nf_M) (H : Heap) (locs : List Loc) (ls : Array Slot), B_F_writeAlphabet_10 post n x3 x4 M → lv_has ls 6 [(0, .ref (a 0)), (3, .int x3), (4, .long x4)] → nf_W D a s sz H locs M → W p l e rm_F_writeAlphabet s m args below meth c H locs 0 0 (nf_MQ below (nf_Q nf_jN D a post ex (nf_A a sz)) args s rm_F_writeAlphabet.cells rm_F_writeAlphabet.slots (nf_A a sz)) (F0 m 10 ls []) := by
  have hx := K.1
  have hb := K.2.1
  intro n
  induction n with
  | zero => intro x3 x4 M H locs ls h hl hw; exact h.elim
  | succ n ih =>
    intro x3 x4 M H locs ls h hl hw
    refine lv_lload hx hb d_F_writeAlphabet_10 (lv_at hl 2 rfl) ?_
    refine lv_lconst (v := (0 : Int64)) hx hb d_F_writeAlphabet_12 (by decide) ?_
    refine nf_lc_le hx hb d_F_writeAlphabet_13 d_F_writeAlphabet_14 (tgt := 72) (by decide) (fun hc => ?_) (fun hc => ?_)
    · have h := h.1 hc
      refine lv_aload_n hx hb d_F_writeAlphabet_17 rfl (lv_at hl 0 rfl) ?_
      refine nf_get (v := .ref (a (nf_ro true))) K hw 0 6 3 nw_171 rfl rfl ni_F (by decide) rfl rfl d_F_writeAlphabet_18 ?_
      refine nf_getN (v := .int (mg_N M true)) K hw (nf_ro true) 3 1 nv_68 (nf_heR _ _ _) rfl ni_R (by decide) rfl rfl d_F_writeAlphabet_21 ?_
      refine lv_bipush (v := (15 : Int32)) hx hb d_F_writeAlphabet_24 (by decide) ?_
      refine nf_ic_ge hx hb d_F_writeAlphabet_26 (tgt := 72) (by decide) (fun hc => ?_) (fun hc => ?_)
      · have h := h.1 hc
        refine lv_aload_n hx hb d_F_writeAlphabet_29 rfl (lv_at hl 0 rfl) ?_
        refine nf_get (v := .ref (a (nf_ro true))) K hw 0 6 3 nw_171 rfl rfl ni_F (by decide) rfl rfl d_F_writeAlphabet_30 ?_
        refine lv_iload_n hx hb d_F_writeAlphabet_33 rfl (lv_at hl 1 rfl) ?_
        refine nf_if_eq hx hb d_F_writeAlphabet_34 (tgt := 42) (by decide) (fun hc => ?_) (fun hc => ?_)
        · have h := h.1 hc
          refine lv_bipush (v := (97 : Int32)) hx hb d_F_writeAlphabet_42 (by decide) ?_
          exact w_F_writeAlphabet_44 hfl K (fun x3 x4 z => B_F_writeAlphabet_10 post n x3 x4 z) (fun x3 x4 z H locs ls hh hll hww => ih x3 x4 z H locs ls hh hll hww) x3 x4 (97 : Int32) true M _ _ _ h (lv_sub hl [0, 1, 2] rfl) hw
        · have h := h.2 hc
          refine lv_bipush (v := (65 : Int32)) hx hb d_F_writeAlphabet_37 (by decide) ?_
          refine lv_goto hx hb d_F_writeAlphabet_39 (tgt := 44) (by decide) ?_
          exact w_F_writeAlphabet_44 hfl K (fun x3 x4 z => B_F_writeAlphabet_10 post n x3 x4 z) (fun x3 x4 z H locs ls hh hll hww => ih x3 x4 z H locs ls hh hll hww) x3 x4 (65 : Int32) true M _ _ _ h (lv_sub hl [0, 1, 2] rfl) hw
      · have h := h.2 hc
        exact w_F_writeAlphabet_72 hfl K  M _ _ _ h (lv_sub hl [0] rfl) hw
    · have h := h.2 hc
      exact w_F_writeAlphabet_72 hfl K  M _ _ _ h (lv_sub hl [0] rfl) hw
theorem c_F_writeAlphabet (l : Launch) (hfl : l.flags = flags0) (x1 : Int64) (x3 : Int32) : nf_C nf_jN l nm_F_writeAlphabet nb_F_writeAlphabet 6 none rm_F_writeAlphabet (fun a => [.ref (a 0), .long x1, .int x3]) (fun M post ex => P_F_writeAlphabet x1 x3 M post) := by
  refine nf_start (plainFor_of_name (by decide +kernel)) (fun a => Nat.le_of_ble_eq_true rfl) ?_
  intro D a sz M post ex p e s m below meth c ls h K hl hw
  have hx := K.1
  have hb := K.2.1
  have hl : lv_has ls 6 [(0, .ref (a 0)), (1, .long x1), (3, .int x3)] := hl
  refine lv_aload_n hx hb d_F_writeAlphabet_0 rfl (lv_at hl 0 rfl) ?_
  refine nf_get (v := .ref (a (nf_ro true))) K hw 0 6 3 nw_171 rfl rfl ni_F (by decide) rfl rfl d_F_writeAlphabet_1 ?_
  refine nf_callW (ex := (fun _ _ => False)) (As := [.ref (a (nf_ro true))]) (st0 := [.ref (a (nf_ro true))]) (rest := []) K hw (nf_invVN hx hb K.2.2.2.1 ((nf_Kr K nv_205).use rfl) (nf_Kg K nw_207) (nf_Kg K nx_R_clear) (nf_Kg K nw_208) ⟨by decide, by decide⟩ (nf_rcv K hw (nf_ro true) 3 (nf_heR _ _ _) rfl) rfl nl_R_clear rfl d_F_writeAlphabet_4) (c_R_clear l hfl true) nw_208 nw_3 rfl ⟨by decide, by decide⟩ (Nat.le_of_ble_eq_true rfl) hl.1 ⟨Nat.le_of_ble_eq_true rfl, Nat.le_of_ble_eq_true rfl⟩ h (fun _ _ h => h.elim) (fun r1 M2 H locs h hw => ?_)
  refine W.eq (g2 := F0 m 7 ls []) rfl ?_
  refine lv_lload_n hx hb d_F_writeAlphabet_7 rfl (lv_at hl 1 rfl) ?_
  refine lv_lstore (lv' := [(4, .long x1), (0, .ref (a 0)), (1, .long x1), (3, .int x3)]) hx hb d_F_writeAlphabet_8 hl (by decide) rfl (fun ls hl => ?_)
  obtain ⟨n, h⟩ := h
  exact w_F_writeAlphabet_10 hfl K n x3 x1 M2 _ _ _ h (lv_sub hl [1, 3, 0] rfl) hw
theorem d_F_letters_0 : decode nb_F_letters 0 = .ok (.aload_n 0, 1) := by decide +kernel
theorem d_F_letters_1 : decode nb_F_letters 1 = .ok (.iload_n 1, 1) := by decide +kernel
theorem d_F_letters_2 : decode nb_F_letters 2 = .ok (.invokevirtual 71, 3) := by decide +kernel
theorem d_F_letters_5 : decode nb_F_letters 5 = .ok (.astore_n 3, 1) := by decide +kernel
theorem d_F_letters_6 : decode nb_F_letters 6 = .ok (.iload_n 2, 1) := by decide +kernel
theorem d_F_letters_7 : decode nb_F_letters 7 = .ok (.iconst 5, 1) := by decide +kernel
theorem d_F_letters_8 : decode nb_F_letters 8 = .ok (.invokestatic 75, 3) := by decide +kernel
theorem d_F_letters_11 : decode nb_F_letters 11 = .ok (.aload_n 3, 1) := by decide +kernel
theorem d_F_letters_12 : decode nb_F_letters 12 = .ok (.invokevirtual 173, 3) := by decide +kernel
theorem d_F_letters_15 : decode nb_F_letters 15 = .ok (.ifCond .eq 10, 3) := by decide +kernel
theorem d_F_letters_18 : decode nb_F_letters 18 = .ok (.aload_n 3, 1) := by decide +kernel
theorem d_F_letters_19 : decode nb_F_letters 19 = .ok (.getfield 135, 3) := by decide +kernel
theorem d_F_letters_22 : decode nb_F_letters 22 = .ok (.ifCond .ne 13, 3) := by decide +kernel
theorem d_F_letters_25 : decode nb_F_letters 25 = .ok (.new 221, 3) := by decide +kernel
theorem d_F_letters_28 : decode nb_F_letters 28 = .ok (.dup, 1) := by decide +kernel
theorem d_F_letters_29 : decode nb_F_letters 29 = .ok (.ldc 223, 2) := by decide +kernel
theorem d_F_letters_31 : decode nb_F_letters 31 = .ok (.invokespecial 225, 3) := by decide +kernel
theorem d_F_letters_34 : decode nb_F_letters 34 = .ok (.athrow, 1) := by decide +kernel
theorem d_F_letters_35 : decode nb_F_letters 35 = .ok (.iload_n 2, 1) := by decide +kernel
theorem d_F_letters_36 : decode nb_F_letters 36 = .ok (.iconst 2, 1) := by decide +kernel
theorem d_F_letters_37 : decode nb_F_letters 37 = .ok (.if_icmp .eq 8, 3) := by decide +kernel
theorem d_F_letters_40 : decode nb_F_letters 40 = .ok (.iload_n 2, 1) := by decide +kernel
theorem d_F_letters_41 : decode nb_F_letters 41 = .ok (.iconst 4, 1) := by decide +kernel
theorem d_F_letters_42 : decode nb_F_letters 42 = .ok (.if_icmp .ne 7, 3) := by decide +kernel
theorem d_F_letters_45 : decode nb_F_letters 45 = .ok (.iconst 1, 1) := by decide +kernel
theorem d_F_letters_46 : decode nb_F_letters 46 = .ok (.goto 4, 3) := by decide +kernel
theorem d_F_letters_49 : decode nb_F_letters 49 = .ok (.iconst 0, 1) := by decide +kernel
theorem d_F_letters_50 : decode nb_F_letters 50 = .ok (.istore 4, 2) := by decide +kernel
theorem d_F_letters_52 : decode nb_F_letters 52 = .ok (.iload_n 2, 1) := by decide +kernel
theorem d_F_letters_53 : decode nb_F_letters 53 = .ok (.iconst 3, 1) := by decide +kernel
theorem d_F_letters_54 : decode nb_F_letters 54 = .ok (.if_icmp .lt 36, 3) := by decide +kernel
theorem d_F_letters_57 : decode nb_F_letters 57 = .ok (.aload_n 3, 1) := by decide +kernel
theorem d_F_letters_58 : decode nb_F_letters 58 = .ok (.getfield 110, 3) := by decide +kernel
theorem d_F_letters_61 : decode nb_F_letters 61 = .ok (.lconst 1, 1) := by decide +kernel
theorem d_F_letters_62 : decode nb_F_letters 62 = .ok (.lcmp, 1) := by decide +kernel
theorem d_F_letters_63 : decode nb_F_letters 63 = .ok (.ifCond .lt 27, 3) := by decide +kernel
theorem d_F_letters_66 : decode nb_F_letters 66 = .ok (.aload_n 3, 1) := by decide +kernel
theorem d_F_letters_67 : decode nb_F_letters 67 = .ok (.getfield 110, 3) := by decide +kernel
theorem d_F_letters_70 : decode nb_F_letters 70 = .ok (.ldc2_w 226, 3) := by decide +kernel
theorem d_F_letters_73 : decode nb_F_letters 73 = .ok (.lcmp, 1) := by decide +kernel
theorem d_F_letters_74 : decode nb_F_letters 74 = .ok (.ifCond .gt 16, 3) := by decide +kernel
theorem d_F_letters_77 : decode nb_F_letters 77 = .ok (.aload_n 0, 1) := by decide +kernel
theorem d_F_letters_78 : decode nb_F_letters 78 = .ok (.aload_n 3, 1) := by decide +kernel
theorem d_F_letters_79 : decode nb_F_letters 79 = .ok (.getfield 110, 3) := by decide +kernel
theorem d_F_letters_82 : decode nb_F_letters 82 = .ok (.iload 4, 2) := by decide +kernel
theorem d_F_letters_84 : decode nb_F_letters 84 = .ok (.invokevirtual 228, 3) := by decide +kernel
theorem d_F_letters_87 : decode nb_F_letters 87 = .ok (.goto 40, 3) := by decide +kernel
theorem d_F_letters_90 : decode nb_F_letters 90 = .ok (.iload_n 2, 1) := by decide +kernel
theorem d_F_letters_91 : decode nb_F_letters 91 = .ok (.iconst 1, 1) := by decide +kernel
theorem d_F_letters_92 : decode nb_F_letters 92 = .ok (.if_icmp .eq 8, 3) := by decide +kernel
theorem d_F_letters_95 : decode nb_F_letters 95 = .ok (.iload_n 2, 1) := by decide +kernel
theorem d_F_letters_96 : decode nb_F_letters 96 = .ok (.iconst 2, 1) := by decide +kernel
theorem d_F_letters_97 : decode nb_F_letters 97 = .ok (.if_icmp .ne 25, 3) := by decide +kernel
theorem d_F_letters_100 : decode nb_F_letters 100 = .ok (.aload_n 3, 1) := by decide +kernel
theorem d_F_letters_101 : decode nb_F_letters 101 = .ok (.getfield 110, 3) := by decide +kernel
theorem d_F_letters_104 : decode nb_F_letters 104 = .ok (.lconst 1, 1) := by decide +kernel
theorem d_F_letters_105 : decode nb_F_letters 105 = .ok (.lcmp, 1) := by decide +kernel
theorem d_F_letters_106 : decode nb_F_letters 106 = .ok (.ifCond .lt 16, 3) := by decide +kernel
theorem d_F_letters_109 : decode nb_F_letters 109 = .ok (.aload_n 0, 1) := by decide +kernel
theorem d_F_letters_110 : decode nb_F_letters 110 = .ok (.aload_n 3, 1) := by decide +kernel
theorem d_F_letters_111 : decode nb_F_letters 111 = .ok (.getfield 110, 3) := by decide +kernel
theorem d_F_letters_114 : decode nb_F_letters 114 = .ok (.iload 4, 2) := by decide +kernel
theorem d_F_letters_116 : decode nb_F_letters 116 = .ok (.invokevirtual 232, 3) := by decide +kernel
theorem d_F_letters_119 : decode nb_F_letters 119 = .ok (.goto 8, 3) := by decide +kernel
theorem d_F_letters_122 : decode nb_F_letters 122 = .ok (.aload_n 0, 1) := by decide +kernel
theorem d_F_letters_123 : decode nb_F_letters 123 = .ok (.aload_n 3, 1) := by decide +kernel
theorem d_F_letters_124 : decode nb_F_letters 124 = .ok (.invokevirtual 181, 3) := by decide +kernel
theorem d_F_letters_127 : decode nb_F_letters 127 = .ok (.aload_n 0, 1) := by decide +kernel
theorem d_F_letters_128 : decode nb_F_letters 128 = .ok (.getfield 29, 3) := by decide +kernel
theorem d_F_letters_131 : decode nb_F_letters 131 = .ok (.getfield 60, 3) := by decide +kernel
theorem d_F_letters_134 : decode nb_F_letters 134 = .ok (.ireturn, 1) := by decide +kernel
abbrev rm_F_letters : Room := ({ frames := 8, cells := 3, slots := 18, locals := 211 })
theorem w_F_letters_25 {post : Int32 → nf_M → Prop} (hfl : l.flags = flags0) (K : nf_K p s m args meth c "NumberForge" nb_F_letters 5 (some FieldType.int) D a sz) : ∀ (M : nf_M) (H : Heap) (locs : List Loc) (ls : Array Slot), B_F_letters_25 post ex  M → lv_has ls 5 [] → nf_W D a s sz H locs M → W p l e rm_F_letters s m args below meth c H locs 2 12 (nf_MQ below (nf_Q nf_jI D a post ex (nf_A a sz)) args s rm_F_letters.cells rm_F_letters.slots (nf_A a sz)) (F0 m 25 ls []) := by
  have hx := K.1
  have hb := K.2.1
  intro  M H locs ls h hl hw
  exact nf_throw (i := 19) 2 hfl K hw rfl (by decide) na_F_225 nw_452 nw_453 nw_16 rfl d_F_letters_25 d_F_letters_28 d_F_letters_29 d_F_letters_31 d_F_letters_34 hl.1 ⟨by decide, by decide⟩ ⟨Nat.le_of_ble_eq_true rfl, Nat.le_of_ble_eq_true rfl⟩ h
theorem w_F_letters_127 {post : Int32 → nf_M → Prop} (hfl : l.flags = flags0) (K : nf_K p s m args meth c "NumberForge" nb_F_letters 5 (some FieldType.int) D a sz) : ∀ (M : nf_M) (H : Heap) (locs : List Loc) (ls : Array Slot), B_F_letters_127 post ex  M → lv_has ls 5 [(0, .ref (a 0))] → nf_W D a s sz H locs M → W p l e rm_F_letters s m args below meth c H locs 2 12 (nf_MQ below (nf_Q nf_jI D a post ex (nf_A a sz)) args s rm_F_letters.cells rm_F_letters.slots (nf_A a sz)) (F0 m 127 ls []) := by
  have hx := K.1
  have hb := K.2.1
  intro  M H locs ls h hl hw
  refine lv_aload_n hx hb d_F_letters_127 rfl (lv_at hl 0 rfl) ?_
  refine nf_get (v := .ref (a (nf_ro true))) K hw 0 6 3 nw_171 rfl rfl ni_F (by decide) rfl rfl d_F_letters_128 ?_
  refine nf_getN (v := .int (mg_N M true)) K hw (nf_ro true) 3 1 nv_68 (nf_heR _ _ _) rfl ni_R (by decide) rfl rfl d_F_letters_131 ?_
  exact nf_iret K hw d_F_letters_134 rfl (Nat.le_of_ble_eq_true rfl) (Nat.le_of_ble_eq_true rfl) (r := mg_N M true) rfl h
theorem w_F_letters_122 {post : Int32 → nf_M → Prop} (hfl : l.flags = flags0) (K : nf_K p s m args meth c "NumberForge" nb_F_letters 5 (some FieldType.int) D a sz) : ∀ (v3 : Fin 9) (M : nf_M) (H : Heap) (locs : List Loc) (ls : Array Slot), B_F_letters_122 post ex v3 M → lv_has ls 5 [(0, .ref (a 0)), (3, .ref (a (10 + (v3 : Fin 9).val)))] → nf_W D a s sz H locs M → W p l e rm_F_letters s m args below meth c H locs 2 12 (nf_MQ below (nf_Q nf_jI D a post ex (nf_A a sz)) args s rm_F_letters.cells rm_F_letters.slots (nf_A a sz)) (F0 m 122 ls []) := by
  have hx := K.1
  have hb := K.2.1
  intro v3 M H locs ls h hl hw
  refine lv_aload_n hx hb d_F_letters_122 rfl (lv_at hl 0 rfl) ?_
  refine lv_aload_n hx hb d_F_letters_123 rfl (lv_at hl 1 rfl) ?_
  refine nf_callW (ex := (fun _ _ => False)) (As := [.ref (a 0), .ref (a (10 + (v3 : Fin 9).val))]) (st0 := [.ref (a (10 + (v3 : Fin 9).val)), .ref (a 0)]) (rest := []) K hw (nf_invV hx hb K.2.2.2.1 (nf_Kg K nw_824) (nf_Kg K nw_826) (nf_Kg K nx_F_writeUnits) (nf_Kg K nw_827) ⟨by decide, by decide⟩ (nf_rcv K hw 0 6 rfl rfl) rfl nl_F_writeUnits rfl d_F_letters_124) (c_F_writeUnits l hfl v3) nw_827 nw_1 rfl ⟨by decide, by decide⟩ (Nat.le_of_ble_eq_true rfl) hl.1 ⟨Nat.le_of_ble_eq_true rfl, Nat.le_of_ble_eq_true rfl⟩ h (fun _ _ h => h.elim) (fun r1 M2 H locs h hw => ?_)
  refine W.eq (g2 := F0 m 127 ls []) rfl ?_
  exact w_F_letters_127 hfl K  M2 _ _ _ h (lv_sub hl [0] rfl) hw
theorem w_F_letters_100 {post : Int32 → nf_M → Prop} (hfl : l.flags = flags0) (K : nf_K p s m args meth c "NumberForge" nb_F_letters 5 (some FieldType.int) D a sz) : ∀ (v3 : Fin 9) (x4 : Int32) (M : nf_M) (H : Heap) (locs : List Loc) (ls : Array Slot), B_F_letters_100 post ex v3 x4 M → lv_has ls 5 [(0, .ref (a 0)), (3, .ref (a (10 + (v3 : Fin 9).val))), (4, .int x4)] → nf_W D a s sz H locs M → W p l e rm_F_letters s m args below meth c H locs 2 12 (nf_MQ below (nf_Q nf_jI D a post ex (nf_A a sz)) args s rm_F_letters.cells rm_F_letters.slots (nf_A a sz)) (F0 m 100 ls []) := by
  have hx := K.1
  have hb := K.2.1
  intro v3 x4 M H locs ls h hl hw
  refine lv_aload_n hx hb d_F_letters_100 rfl (lv_at hl 1 rfl) ?_
  refine nf_getN (v := .long (mg_U M v3)) K hw (10 + (v3 : Fin 9).val) 4 1 nv_41 (nf_heV _ _ _) rfl ni_V (by decide) rfl rfl d_F_letters_101 ?_
  refine lv_lconst (v := (1 : Int64)) hx hb d_F_letters_104 (by decide) ?_
  refine nf_lc_lt hx hb d_F_letters_105 d_F_letters_106 (tgt := 122) (by decide) (fun hc => ?_) (fun hc => ?_)
  · have h := h.1 hc
    exact w_F_letters_122 hfl K v3 M _ _ _ h (lv_sub hl [0, 1] rfl) hw
  · have h := h.2 hc
    refine lv_aload_n hx hb d_F_letters_109 rfl (lv_at hl 0 rfl) ?_
    refine lv_aload_n hx hb d_F_letters_110 rfl (lv_at hl 1 rfl) ?_
    refine nf_getN (v := .long (mg_U M v3)) K hw (10 + (v3 : Fin 9).val) 4 1 nv_41 (nf_heV _ _ _) rfl ni_V (by decide) rfl rfl d_F_letters_111 ?_
    refine lv_iload hx hb d_F_letters_114 (lv_at hl 2 rfl) ?_
    refine nf_callW (ex := (fun _ _ => False)) (As := [.ref (a 0), .long (mg_U M v3), .int x4]) (st0 := [.int x4, .long (mg_U M v3), .ref (a 0)]) (rest := []) K hw (nf_invV hx hb K.2.2.2.1 (nf_Kg K nw_916) (nf_Kg K nw_918) (nf_Kg K nx_F_writeAlphabet) (nf_Kg K nw_919) ⟨by decide, by decide⟩ (nf_rcv K hw 0 6 rfl rfl) rfl nl_F_writeAlphabet rfl d_F_letters_116) (c_F_writeAlphabet l hfl (mg_U M v3) x4) nw_919 nw_1 rfl ⟨by decide, by decide⟩ (Nat.le_of_ble_eq_true rfl) hl.1 ⟨Nat.le_of_ble_eq_true rfl, Nat.le_of_ble_eq_true rfl⟩ h (fun _ _ h => h.elim) (fun r1 M2 H locs h hw => ?_)
    refine W.eq (g2 := F0 m 119 ls []) rfl ?_
    refine lv_goto hx hb d_F_letters_119 (tgt := 127) (by decide) ?_
    exact w_F_letters_127 hfl K  M2 _ _ _ h (lv_sub hl [0] rfl) hw
theorem w_F_letters_90 {post : Int32 → nf_M → Prop} (hfl : l.flags = flags0) (K : nf_K p s m args meth c "NumberForge" nb_F_letters 5 (some FieldType.int) D a sz) : ∀ (x2 : Int32) (v3 : Fin 9) (x4 : Int32) (M : nf_M) (H : Heap) (locs : List Loc) (ls : Array Slot), B_F_letters_90 post ex x2 v3 x4 M → lv_has ls 5 [(0, .ref (a 0)), (2, .int x2), (3, .ref (a (10 + (v3 : Fin 9).val))), (4, .int x4)] → nf_W D a s sz H locs M → W p l e rm_F_letters s m args below meth c H locs 2 12 (nf_MQ below (nf_Q nf_jI D a post ex (nf_A a sz)) args s rm_F_letters.cells rm_F_letters.slots (nf_A a sz)) (F0 m 90 ls []) := by
  have hx := K.1
  have hb := K.2.1
  intro x2 v3 x4 M H locs ls h hl hw
  refine lv_iload_n hx hb d_F_letters_90 rfl (lv_at hl 1 rfl) ?_
  refine lv_iconst (v := (1 : Int32)) hx hb d_F_letters_91 (by decide) ?_
  refine nf_ic_eq hx hb d_F_letters_92 (tgt := 100) (by decide) (fun hc => ?_) (fun hc => ?_)
  · have h := h.1 hc
    exact w_F_letters_100 hfl K v3 x4 M _ _ _ h (lv_sub hl [0, 2, 3] rfl) hw
  · have h := h.2 hc
    refine lv_iload_n hx hb d_F_letters_95 rfl (lv_at hl 1 rfl) ?_
    refine lv_iconst (v := (2 : Int32)) hx hb d_F_letters_96 (by decide) ?_
    refine nf_ic_ne hx hb d_F_letters_97 (tgt := 122) (by decide) (fun hc => ?_) (fun hc => ?_)
    · have h := h.1 hc
      exact w_F_letters_100 hfl K v3 x4 M _ _ _ h (lv_sub hl [0, 2, 3] rfl) hw
    · have h := h.2 hc
      exact w_F_letters_122 hfl K v3 M _ _ _ h (lv_sub hl [0, 2] rfl) hw
theorem w_F_letters_50 {post : Int32 → nf_M → Prop} (hfl : l.flags = flags0) (K : nf_K p s m args meth c "NumberForge" nb_F_letters 5 (some FieldType.int) D a sz) : ∀ (x2 : Int32) (v3 : Fin 9) (xy0 : Int32) (M : nf_M) (H : Heap) (locs : List Loc) (ls : Array Slot), B_F_letters_50 post ex x2 v3 xy0 M → lv_has ls 5 [(0, .ref (a 0)), (2, .int x2), (3, .ref (a (10 + (v3 : Fin 9).val)))] → nf_W D a s sz H locs M → W p l e rm_F_letters s m args below meth c H locs 2 12 (nf_MQ below (nf_Q nf_jI D a post ex (nf_A a sz)) args s rm_F_letters.cells rm_F_letters.slots (nf_A a sz)) (F0 m 50 ls [.int xy0]) := by
  have hx := K.1
  have hb := K.2.1
  intro x2 v3 xy0 M H locs ls h hl hw
  refine lv_istore (lv' := [(4, .int xy0), (0, .ref (a 0)), (2, .int x2), (3, .ref (a (10 + (v3 : Fin 9).val)))]) hx hb d_F_letters_50 hl (by decide) rfl (fun ls hl => ?_)
  refine lv_iload_n hx hb d_F_letters_52 rfl (lv_at hl 2 rfl) ?_
  refine lv_iconst (v := (3 : Int32)) hx hb d_F_letters_53 (by decide) ?_
  refine nf_ic_lt hx hb d_F_letters_54 (tgt := 90) (by decide) (fun hc => ?_) (fun hc => ?_)
  · have h := h.1 hc
    exact w_F_letters_90 hfl K x2 v3 xy0 M _ _ _ h (lv_sub hl [1, 2, 3, 0] rfl) hw
  · have h := h.2 hc
    refine lv_aload_n hx hb d_F_letters_57 rfl (lv_at hl 3 rfl) ?_
    refine nf_getN (v := .long (mg_U M v3)) K hw (10 + (v3 : Fin 9).val) 4 1 nv_41 (nf_heV _ _ _) rfl ni_V (by decide) rfl rfl d_F_letters_58 ?_
    refine lv_lconst (v := (1 : Int64)) hx hb d_F_letters_61 (by decide) ?_
    refine nf_lc_lt hx hb d_F_letters_62 d_F_letters_63 (tgt := 90) (by decide) (fun hc => ?_) (fun hc => ?_)
    · have h := h.1 hc
      exact w_F_letters_90 hfl K x2 v3 xy0 M _ _ _ h (lv_sub hl [1, 2, 3, 0] rfl) hw
    · have h := h.2 hc
      refine lv_aload_n hx hb d_F_letters_66 rfl (lv_at hl 3 rfl) ?_
      refine nf_getN (v := .long (mg_U M v3)) K hw (10 + (v3 : Fin 9).val) 4 1 nv_41 (nf_heV _ _ _) rfl ni_V (by decide) rfl rfl d_F_letters_67 ?_
      refine lv_ldc2 (v := (3999 : Int64)) hx hb K.2.2.2.1 (nf_Kg K nw_902) d_F_letters_70 ?_
      refine nf_lc_gt hx hb d_F_letters_73 d_F_letters_74 (tgt := 90) (by decide) (fun hc => ?_) (fun hc => ?_)
      · have h := h.1 hc
        exact w_F_letters_90 hfl K x2 v3 xy0 M _ _ _ h (lv_sub hl [1, 2, 3, 0] rfl) hw
      · have h := h.2 hc
        refine lv_aload_n hx hb d_F_letters_77 rfl (lv_at hl 1 rfl) ?_
        refine lv_aload_n hx hb d_F_letters_78 rfl (lv_at hl 3 rfl) ?_
        refine nf_getN (v := .long (mg_U M v3)) K hw (10 + (v3 : Fin 9).val) 4 1 nv_41 (nf_heV _ _ _) rfl ni_V (by decide) rfl rfl d_F_letters_79 ?_
        refine lv_iload hx hb d_F_letters_82 (lv_at hl 0 rfl) ?_
        refine nf_callW (ex := (fun _ _ => False)) (As := [.ref (a 0), .long (mg_U M v3), .int xy0]) (st0 := [.int xy0, .long (mg_U M v3), .ref (a 0)]) (rest := []) K hw (nf_invV hx hb K.2.2.2.1 (nf_Kg K nw_903) (nf_Kg K nw_905) (nf_Kg K nx_F_writeRoman) (nf_Kg K nw_906) ⟨by decide, by decide⟩ (nf_rcv K hw 0 6 rfl rfl) rfl nl_F_writeRoman rfl d_F_letters_84) (c_F_writeRoman l hfl (mg_U M v3) xy0) nw_906 nw_1 rfl ⟨by decide, by decide⟩ (Nat.le_of_ble_eq_true rfl) hl.1 ⟨Nat.le_of_ble_eq_true rfl, Nat.le_of_ble_eq_true rfl⟩ h (fun _ _ h => h.elim) (fun r1 M2 H locs h hw => ?_)
        refine W.eq (g2 := F0 m 87 ls []) rfl ?_
        refine lv_goto hx hb d_F_letters_87 (tgt := 127) (by decide) ?_
        exact w_F_letters_127 hfl K  M2 _ _ _ h (lv_sub hl [1] rfl) hw
theorem w_F_letters_45 {post : Int32 → nf_M → Prop} (hfl : l.flags = flags0) (K : nf_K p s m args meth c "NumberForge" nb_F_letters 5 (some FieldType.int) D a sz) : ∀ (x2 : Int32) (v3 : Fin 9) (M : nf_M) (H : Heap) (locs : List Loc) (ls : Array Slot), B_F_letters_45 post ex x2 v3 M → lv_has ls 5 [(0, .ref (a 0)), (2, .int x2), (3, .ref (a (10 + (v3 : Fin 9).val)))] → nf_W D a s sz H locs M → W p l e rm_F_letters s m args below meth c H locs 2 12 (nf_MQ below (nf_Q nf_jI D a post ex (nf_A a sz)) args s rm_F_letters.cells rm_F_letters.slots (nf_A a sz)) (F0 m 45 ls []) := by
  have hx := K.1
  have hb := K.2.1
  intro x2 v3 M H locs ls h hl hw
  refine lv_iconst (v := (1 : Int32)) hx hb d_F_letters_45 (by decide) ?_
  refine lv_goto hx hb d_F_letters_46 (tgt := 50) (by decide) ?_
  exact w_F_letters_50 hfl K x2 v3 (1 : Int32) M _ _ _ h (lv_sub hl [0, 1, 2] rfl) hw
theorem c_F_letters (l : Launch) (hfl : l.flags = flags0) (x1 : Int32) (x2 : Int32) : nf_C nf_jI l nm_F_letters nb_F_letters 5 (some FieldType.int) rm_F_letters (fun a => [.ref (a 0), .int x1, .int x2]) (fun M post ex => P_F_letters x1 x2 M post ex) := by
  refine nf_start (plainFor_of_name (by decide +kernel)) (fun a => Nat.le_of_ble_eq_true rfl) ?_
  intro D a sz M post ex p e s m below meth c ls h K hl hw
  have hx := K.1
  have hb := K.2.1
  have hl : lv_has ls 5 [(0, .ref (a 0)), (1, .int x1), (2, .int x2)] := hl
  refine lv_aload_n hx hb d_F_letters_0 rfl (lv_at hl 0 rfl) ?_
  refine lv_iload_n hx hb d_F_letters_1 rfl (lv_at hl 1 rfl) ?_
  refine nf_callW (ex := ex) (As := [.ref (a 0), .int x1]) (st0 := [.int x1, .ref (a 0)]) (rest := []) K hw (nf_invV hx hb K.2.2.2.1 (nf_Kg K nw_243) (nf_Kg K nw_245) (nf_Kg K nx_F_register) (nf_Kg K nw_246) ⟨by decide, by decide⟩ (nf_rcv K hw 0 6 rfl rfl) rfl nl_F_register rfl d_F_letters_2) (c_F_register l hfl x1) nw_246 nw_1 rfl ⟨by decide, by decide⟩ (Nat.le_of_ble_eq_true rfl) hl.1 ⟨Nat.le_of_ble_eq_true rfl, Nat.le_of_ble_eq_true rfl⟩ h (fun _ _ h => h) (fun r1 M2 H locs h hw => ?_)
  refine W.eq (g2 := F0 m 5 ls [.ref (a (10 + (r1 : Fin 9).val))]) rfl ?_
  refine W.widen (k := 1) (n := 6) (by decide) (by decide) ?_
  refine lv_astore_n (lv' := [(3, .ref (a (10 + (r1 : Fin 9).val))), (0, .ref (a 0)), (1, .int x1), (2, .int x2)]) hx hb d_F_letters_5 rfl hl (by decide) rfl (fun ls hl => ?_)
  refine lv_iload_n hx hb d_F_letters_6 rfl (lv_at hl 3 rfl) ?_
  refine lv_iconst (v := (5 : Int32)) hx hb d_F_letters_7 (by decide) ?_
  refine nf_callW (ex := ex) (As := [.int x2, .int (5 : Int32)]) (st0 := [.int (5 : Int32), .int x2]) (rest := []) K hw (nf_invS hx hb K.2.2.2.1 (nf_Kg K nw_317) (nf_Kg K nw_318) (nf_Kg K nw_1) (nf_Kg K nw_319) ⟨by decide, by decide⟩ rfl nl_F_checkIndex rfl d_F_letters_8) (c_F_checkIndex l hfl x2 (5 : Int32)) nw_319 nw_1 rfl ⟨by decide, by decide⟩ (Nat.le_of_ble_eq_true rfl) hl.1 ⟨Nat.le_of_ble_eq_true rfl, Nat.le_of_ble_eq_true rfl⟩ h (fun _ _ h => h) (fun r3 M4 H locs h hw => ?_)
  refine W.eq (g2 := F0 m 11 ls []) rfl ?_
  refine W.widen (k := 2) (n := 12) (by decide) (by decide) ?_
  refine lv_aload_n hx hb d_F_letters_11 rfl (lv_at hl 0 rfl) ?_
  refine nf_callW (ex := (fun _ _ => False)) (As := [.ref (a (10 + (r1 : Fin 9).val))]) (st0 := [.ref (a (10 + (r1 : Fin 9).val))]) (rest := []) K hw (nf_invVN hx hb K.2.2.2.1 ((nf_Kr K nv_221).use rfl) (nf_Kg K nw_223) (nf_Kg K nx_V_holdsUnits) (nf_Kg K nw_224) ⟨by decide, by decide⟩ (nf_rcv K hw (10 + (r1 : Fin 9).val) 4 (nf_heV _ _ _) rfl) rfl nl_V_holdsUnits rfl d_F_letters_12) (c_V_holdsUnits l hfl r1) nw_224 nw_2 rfl ⟨by decide, by decide⟩ (Nat.le_of_ble_eq_true rfl) hl.1 ⟨Nat.le_of_ble_eq_true rfl, Nat.le_of_ble_eq_true rfl⟩ h (fun _ _ h => h.elim) (fun r5 M6 H locs h hw => ?_)
  refine W.eq (g2 := F0 m 15 ls [.int r5]) rfl ?_
  refine nf_if_eq hx hb d_F_letters_15 (tgt := 25) (by decide) (fun hc => ?_) (fun hc => ?_)
  · have h := h.1 hc
    exact w_F_letters_25 hfl K  M6 _ _ _ h (lv_sub hl [] rfl) hw
  · have h := h.2 hc
    refine lv_aload_n hx hb d_F_letters_18 rfl (lv_at hl 0 rfl) ?_
    refine nf_getN (v := .int (mg_T M6 r1)) K hw (10 + (r1 : Fin 9).val) 4 0 nv_39 (nf_heV _ _ _) rfl ni_V (by decide) rfl rfl d_F_letters_19 ?_
    refine nf_if_ne hx hb d_F_letters_22 (tgt := 35) (by decide) (fun hc => ?_) (fun hc => ?_)
    · have h := h.1 hc
      exact w_F_letters_25 hfl K  M6 _ _ _ h (lv_sub hl [] rfl) hw
    · have h := h.2 hc
      refine lv_iload_n hx hb d_F_letters_35 rfl (lv_at hl 3 rfl) ?_
      refine lv_iconst (v := (2 : Int32)) hx hb d_F_letters_36 (by decide) ?_
      refine nf_ic_eq hx hb d_F_letters_37 (tgt := 45) (by decide) (fun hc => ?_) (fun hc => ?_)
      · have h := h.1 hc
        exact w_F_letters_45 hfl K x2 r1 M6 _ _ _ h (lv_sub hl [1, 3, 0] rfl) hw
      · have h := h.2 hc
        refine lv_iload_n hx hb d_F_letters_40 rfl (lv_at hl 3 rfl) ?_
        refine lv_iconst (v := (4 : Int32)) hx hb d_F_letters_41 (by decide) ?_
        refine nf_ic_ne hx hb d_F_letters_42 (tgt := 49) (by decide) (fun hc => ?_) (fun hc => ?_)
        · have h := h.1 hc
          exact w_F_letters_45 hfl K x2 r1 M6 _ _ _ h (lv_sub hl [1, 3, 0] rfl) hw
        · have h := h.2 hc
          refine lv_iconst (v := (0 : Int32)) hx hb d_F_letters_49 (by decide) ?_
          exact w_F_letters_50 hfl K x2 r1 (0 : Int32) M6 _ _ _ h (lv_sub hl [1, 3, 0] rfl) hw
theorem d_M_thrown_0 : decode nb_M_thrown 0 = .ok (.aload_n 0, 1) := by decide +kernel
theorem d_M_thrown_1 : decode nb_M_thrown 1 = .ok (.getfield 33, 3) := by decide +kernel
theorem d_M_thrown_4 : decode nb_M_thrown 4 = .ok (.ireturn, 1) := by decide +kernel
abbrev rm_M_thrown : Room := ({ frames := 0, cells := 0, slots := 0, locals := 0 })
theorem c_M_thrown (l : Launch) (hfl : l.flags = flags0) : nf_C nf_jI l nm_M_thrown nb_M_thrown 1 (some FieldType.int) rm_M_thrown (fun a => [.ref (a 19)]) (fun M post ex => P_M_thrown  M post) := by
  refine nf_start (plainFor_of_name (by decide +kernel)) (fun a => Nat.le_of_ble_eq_true rfl) ?_
  intro D a sz M post ex p e s m below meth c ls h K hl hw
  have hx := K.1
  have hb := K.2.1
  have hl : lv_has ls 1 [(0, .ref (a 19))] := hl
  refine lv_aload_n hx hb d_M_thrown_0 rfl (lv_at hl 0 rfl) ?_
  refine nf_get (v := .int (mg_I M 19 0)) K hw 19 7 0 nw_931 rfl rfl ni_M (by decide) rfl rfl d_M_thrown_1 ?_
  exact nf_iret K hw d_M_thrown_4 rfl (Nat.le_of_ble_eq_true rfl) (Nat.le_of_ble_eq_true rfl) (r := mg_I M 19 0) rfl h
theorem d_M_type_0 : decode nb_M_type 0 = .ok (.aload_n 0, 1) := by decide +kernel
theorem d_M_type_1 : decode nb_M_type 1 = .ok (.iconst 0, 1) := by decide +kernel
theorem d_M_type_2 : decode nb_M_type 2 = .ok (.putfield 33, 3) := by decide +kernel
theorem d_M_type_5 : decode nb_M_type 5 = .ok (.aload_n 0, 1) := by decide +kernel
theorem d_M_type_6 : decode nb_M_type 6 = .ok (.getfield 37, 3) := by decide +kernel
theorem d_M_type_9 : decode nb_M_type 9 = .ok (.istore_n 3, 1) := by decide +kernel
theorem d_M_type_10 : decode nb_M_type 10 = .ok (.bipush 7, 2) := by decide +kernel
theorem d_M_type_12 : decode nb_M_type 12 = .ok (.istore 4, 2) := by decide +kernel
theorem d_M_type_14 : decode nb_M_type 14 = .ok (.iload 4, 2) := by decide +kernel
theorem d_M_type_16 : decode nb_M_type 16 = .ok (.ifCond .lt 66, 3) := by decide +kernel
theorem d_M_type_19 : decode nb_M_type 19 = .ok (.lload_n 1, 1) := by decide +kernel
theorem d_M_type_20 : decode nb_M_type 20 = .ok (.bipush 8, 2) := by decide +kernel
theorem d_M_type_22 : decode nb_M_type 22 = .ok (.iload 4, 2) := by decide +kernel
theorem d_M_type_24 : decode nb_M_type 24 = .ok (.imul, 1) := by decide +kernel
theorem d_M_type_25 : decode nb_M_type 25 = .ok (.lshr, 1) := by decide +kernel
theorem d_M_type_26 : decode nb_M_type 26 = .ok (.l2i, 1) := by decide +kernel
theorem d_M_type_27 : decode nb_M_type 27 = .ok (.sipush 255, 3) := by decide +kernel
theorem d_M_type_30 : decode nb_M_type 30 = .ok (.iand, 1) := by decide +kernel
theorem d_M_type_31 : decode nb_M_type 31 = .ok (.istore 5, 2) := by decide +kernel
theorem d_M_type_33 : decode nb_M_type 33 = .ok (.iload 5, 2) := by decide +kernel
theorem d_M_type_35 : decode nb_M_type 35 = .ok (.ifCond .eq 25, 3) := by decide +kernel
theorem d_M_type_38 : decode nb_M_type 38 = .ok (.iload 5, 2) := by decide +kernel
theorem d_M_type_40 : decode nb_M_type 40 = .ok (.bipush 32, 2) := by decide +kernel
theorem d_M_type_42 : decode nb_M_type 42 = .ok (.if_icmp .lt 16, 3) := by decide +kernel
theorem d_M_type_45 : decode nb_M_type 45 = .ok (.iload 5, 2) := by decide +kernel
theorem d_M_type_47 : decode nb_M_type 47 = .ok (.bipush 126, 2) := by decide +kernel
theorem d_M_type_49 : decode nb_M_type 49 = .ok (.if_icmp .gt 9, 3) := by decide +kernel
theorem d_M_type_52 : decode nb_M_type 52 = .ok (.iload_n 3, 1) := by decide +kernel
theorem d_M_type_53 : decode nb_M_type 53 = .ok (.bipush 40, 2) := by decide +kernel
theorem d_M_type_55 : decode nb_M_type 55 = .ok (.if_icmp .ne 5, 3) := by decide +kernel
theorem d_M_type_58 : decode nb_M_type 58 = .ok (.iconst 0, 1) := by decide +kernel
theorem d_M_type_59 : decode nb_M_type 59 = .ok (.ireturn, 1) := by decide +kernel
theorem d_M_type_60 : decode nb_M_type 60 = .ok (.iload 5, 2) := by decide +kernel
theorem d_M_type_62 : decode nb_M_type 62 = .ok (.ifCond .eq 14, 3) := by decide +kernel
theorem d_M_type_65 : decode nb_M_type 65 = .ok (.aload_n 0, 1) := by decide +kernel
theorem d_M_type_66 : decode nb_M_type 66 = .ok (.getfield 7, 3) := by decide +kernel
theorem d_M_type_69 : decode nb_M_type 69 = .ok (.iload_n 3, 1) := by decide +kernel
theorem d_M_type_70 : decode nb_M_type 70 = .ok (.iload 5, 2) := by decide +kernel
theorem d_M_type_72 : decode nb_M_type 72 = .ok (.iastore, 1) := by decide +kernel
theorem d_M_type_73 : decode nb_M_type 73 = .ok (.iinc 3 1, 3) := by decide +kernel
theorem d_M_type_76 : decode nb_M_type 76 = .ok (.iinc 4 (-1), 3) := by decide +kernel
theorem d_M_type_79 : decode nb_M_type 79 = .ok (.goto (-65), 3) := by decide +kernel
theorem d_M_type_82 : decode nb_M_type 82 = .ok (.aload_n 0, 1) := by decide +kernel
theorem d_M_type_83 : decode nb_M_type 83 = .ok (.iload_n 3, 1) := by decide +kernel
theorem d_M_type_84 : decode nb_M_type 84 = .ok (.putfield 37, 3) := by decide +kernel
theorem d_M_type_87 : decode nb_M_type 87 = .ok (.iconst 1, 1) := by decide +kernel
theorem d_M_type_88 : decode nb_M_type 88 = .ok (.ireturn, 1) := by decide +kernel
abbrev rm_M_type : Room := ({ frames := 0, cells := 0, slots := 0, locals := 0 })
theorem w_M_type_58 {post : Int32 → nf_M → Prop} (hfl : l.flags = flags0) (K : nf_K p s m args meth c "NumberForgeModel" nb_M_type 6 (some FieldType.boolean) D a sz) : ∀ (M : nf_M) (H : Heap) (locs : List Loc) (ls : Array Slot), B_M_type_58 post  M → lv_has ls 6 [] → nf_W D a s sz H locs M → W p l e rm_M_type s m args below meth c H locs 0 0 (nf_MQ below (nf_Q nf_jI D a post ex (nf_A a sz)) args s rm_M_type.cells rm_M_type.slots (nf_A a sz)) (F0 m 58 ls []) := by
  have hx := K.1
  have hb := K.2.1
  intro  M H locs ls h hl hw
  refine lv_iconst (v := (0 : Int32)) hx hb d_M_type_58 (by decide) ?_
  exact nf_iret K hw d_M_type_59 rfl (Nat.le_of_ble_eq_true rfl) (Nat.le_of_ble_eq_true rfl) (r := (0 : Int32)) rfl h
theorem w_M_type_76 {post : Int32 → nf_M → Prop} (hfl : l.flags = flags0) (K : nf_K p s m args meth c "NumberForgeModel" nb_M_type 6 (some FieldType.boolean) D a sz) (k14 : Int64 → Int32 → Int32 → nf_M → Prop) (hk14 : ∀ (x1 : Int64) (x3 : Int32) (x4 : Int32) (M : nf_M) (H : Heap) (locs : List Loc) (ls : Array Slot), k14 x1 x3 x4 M → lv_has ls 6 [(0, .ref (a 19)), (1, .long x1), (3, .int x3), (4, .int x4)] → nf_W D a s sz H locs M → W p l e rm_M_type s m args below meth c H locs 0 0 (nf_MQ below (nf_Q nf_jI D a post ex (nf_A a sz)) args s rm_M_type.cells rm_M_type.slots (nf_A a sz)) (F0 m 14 ls [])) : ∀ (x1 : Int64) (x3 : Int32) (x4 : Int32) (M : nf_M) (H : Heap) (locs : List Loc) (ls : Array Slot), B_M_type_76 k14 post x1 x3 x4 M → lv_has ls 6 [(0, .ref (a 19)), (1, .long x1), (3, .int x3), (4, .int x4)] → nf_W D a s sz H locs M → W p l e rm_M_type s m args below meth c H locs 0 0 (nf_MQ below (nf_Q nf_jI D a post ex (nf_A a sz)) args s rm_M_type.cells rm_M_type.slots (nf_A a sz)) (F0 m 76 ls []) := by
  have hx := K.1
  have hb := K.2.1
  intro x1 x3 x4 M H locs ls h hl hw
  refine lv_iinc (k := 3) (v := x4 + (-1 : Int32)) (lv' := [(4, .int (x4 + (-1 : Int32))), (0, .ref (a 19)), (1, .long x1), (3, .int x3)]) hx hb d_M_type_76 hl rfl (nf_inc (by decide)) (by decide) rfl (fun ls hl => ?_)
  refine lv_goto hx hb d_M_type_79 (tgt := 14) (by decide) ?_
  exact hk14 x1 x3 (x4 + (-1 : Int32)) M _ _ _ h (lv_sub hl [1, 2, 3, 0] rfl) hw
theorem w_M_type_60 {post : Int32 → nf_M → Prop} (hfl : l.flags = flags0) (K : nf_K p s m args meth c "NumberForgeModel" nb_M_type 6 (some FieldType.boolean) D a sz) (k14 : Int64 → Int32 → Int32 → nf_M → Prop) (hk14 : ∀ (x1 : Int64) (x3 : Int32) (x4 : Int32) (M : nf_M) (H : Heap) (locs : List Loc) (ls : Array Slot), k14 x1 x3 x4 M → lv_has ls 6 [(0, .ref (a 19)), (1, .long x1), (3, .int x3), (4, .int x4)] → nf_W D a s sz H locs M → W p l e rm_M_type s m args below meth c H locs 0 0 (nf_MQ below (nf_Q nf_jI D a post ex (nf_A a sz)) args s rm_M_type.cells rm_M_type.slots (nf_A a sz)) (F0 m 14 ls [])) : ∀ (x1 : Int64) (x3 : Int32) (x4 : Int32) (x5 : Int32) (M : nf_M) (H : Heap) (locs : List Loc) (ls : Array Slot), B_M_type_60 k14 post x1 x3 x4 x5 M → lv_has ls 6 [(0, .ref (a 19)), (1, .long x1), (3, .int x3), (4, .int x4), (5, .int x5)] → nf_W D a s sz H locs M → W p l e rm_M_type s m args below meth c H locs 0 0 (nf_MQ below (nf_Q nf_jI D a post ex (nf_A a sz)) args s rm_M_type.cells rm_M_type.slots (nf_A a sz)) (F0 m 60 ls []) := by
  have hx := K.1
  have hb := K.2.1
  intro x1 x3 x4 x5 M H locs ls h hl hw
  refine lv_iload hx hb d_M_type_60 (lv_at hl 4 rfl) ?_
  refine nf_if_eq hx hb d_M_type_62 (tgt := 76) (by decide) (fun hc => ?_) (fun hc => ?_)
  · have h := h.1 hc
    exact w_M_type_76 hfl K k14 hk14 x1 x3 x4 M _ _ _ h (lv_sub hl [0, 1, 2, 3] rfl) hw
  · have h := h.2 hc
    refine lv_aload_n hx hb d_M_type_65 rfl (lv_at hl 0 rfl) ?_
    refine nf_get (v := .ref (a 20)) K hw 19 7 2 nw_933 rfl rfl ni_M (by decide) rfl rfl d_M_type_66 ?_
    refine lv_iload_n hx hb d_M_type_69 rfl (lv_at hl 2 rfl) ?_
    refine lv_iload hx hb d_M_type_70 (lv_at hl 4 rfl) ?_
    obtain ⟨g1, h⟩ := h
    refine nf_iast (M' := ms_I M 20 x3.toNatClampNeg x5) K hw 20 3 rfl rfl g1 rfl d_M_type_72 (fun H locs hw => ?_)
    obtain ⟨M2, eM2⟩ : ∃ z, z = ms_I M 20 x3.toNatClampNeg x5 := ⟨_, rfl⟩
    rw [← eM2] at hw
    have h := h M2 eM2
    refine lv_iinc (k := 2) (v := x3 + (1 : Int32)) (lv' := [(3, .int (x3 + (1 : Int32))), (0, .ref (a 19)), (1, .long x1), (4, .int x4), (5, .int x5)]) hx hb d_M_type_73 hl rfl (nf_inc (by decide)) (by decide) rfl (fun ls hl => ?_)
    exact w_M_type_76 hfl K k14 hk14 x1 (x3 + (1 : Int32)) x4 M2 _ _ _ h (lv_sub hl [1, 2, 0, 3] rfl) hw
theorem w_M_type_14 {post : Int32 → nf_M → Prop} (hfl : l.flags = flags0) (K : nf_K p s m args meth c "NumberForgeModel" nb_M_type 6 (some FieldType.boolean) D a sz) : ∀ (n : Nat) (x1 : Int64) (x3 : Int32) (x4 : Int32) (M : nf_M) (H : Heap) (locs : List Loc) (ls : Array Slot), B_M_type_14 post n x1 x3 x4 M → lv_has ls 6 [(0, .ref (a 19)), (1, .long x1), (3, .int x3), (4, .int x4)] → nf_W D a s sz H locs M → W p l e rm_M_type s m args below meth c H locs 0 0 (nf_MQ below (nf_Q nf_jI D a post ex (nf_A a sz)) args s rm_M_type.cells rm_M_type.slots (nf_A a sz)) (F0 m 14 ls []) := by
  have hx := K.1
  have hb := K.2.1
  intro n
  induction n with
  | zero => intro x1 x3 x4 M H locs ls h hl hw; exact h.elim
  | succ n ih =>
    intro x1 x3 x4 M H locs ls h hl hw
    refine lv_iload hx hb d_M_type_14 (lv_at hl 3 rfl) ?_
    refine nf_if_lt hx hb d_M_type_16 (tgt := 82) (by decide) (fun hc => ?_) (fun hc => ?_)
    · have h := h.1 hc
      refine lv_aload_n hx hb d_M_type_82 rfl (lv_at hl 0 rfl) ?_
      refine lv_iload_n hx hb d_M_type_83 rfl (lv_at hl 2 rfl) ?_
      refine nf_put (M' := ms_I M 19 1 x3) K hw 19 7 1 nw_932 rfl rfl rfl ni_M ny_M nq_M nn_M (by decide) rfl rfl rfl rfl (Nat.le_of_ble_eq_true rfl) d_M_type_84 (fun H locs hw => ?_)
      obtain ⟨M1, eM1⟩ : ∃ z, z = ms_I M 19 1 x3 := ⟨_, rfl⟩
      rw [← eM1] at hw
      have h := h M1 eM1
      refine lv_iconst (v := (1 : Int32)) hx hb d_M_type_87 (by decide) ?_
      exact nf_iret K hw d_M_type_88 rfl (Nat.le_of_ble_eq_true rfl) (Nat.le_of_ble_eq_true rfl) (r := (1 : Int32)) rfl h
    · have h := h.2 hc
      refine lv_lload_n hx hb d_M_type_19 rfl (lv_at hl 1 rfl) ?_
      refine lv_bipush (v := (8 : Int32)) hx hb d_M_type_20 (by decide) ?_
      refine lv_iload hx hb d_M_type_22 (lv_at hl 3 rfl) ?_
      refine lv_imul hx hb d_M_type_24 ?_
      refine lv_lshr hx hb d_M_type_25 rfl ?_
      refine lv_l2i hx hb d_M_type_26 rfl ?_
      refine lv_sipush (v := (255 : Int32)) hx hb d_M_type_27 (by decide) ?_
      refine lv_iand hx hb d_M_type_30 ?_
      refine lv_topi (fun t2 et2 => ?_)
      have h := h t2 et2
      refine lv_istore (lv' := [(5, .int t2), (0, .ref (a 19)), (1, .long x1), (3, .int x3), (4, .int x4)]) hx hb d_M_type_31 hl (by decide) rfl (fun ls hl => ?_)
      refine lv_iload hx hb d_M_type_33 (lv_at hl 0 rfl) ?_
      refine nf_if_eq hx hb d_M_type_35 (tgt := 60) (by decide) (fun hc => ?_) (fun hc => ?_)
      · have h := h.1 hc
        exact w_M_type_60 hfl K (fun x1 x3 x4 z => B_M_type_14 post n x1 x3 x4 z) (fun x1 x3 x4 z H locs ls hh hll hww => ih x1 x3 x4 z H locs ls hh hll hww) x1 x3 x4 t2 M _ _ _ h (lv_sub hl [1, 2, 3, 4, 0] rfl) hw
      · have h := h.2 hc
        refine lv_iload hx hb d_M_type_38 (lv_at hl 0 rfl) ?_
        refine lv_bipush (v := (32 : Int32)) hx hb d_M_type_40 (by decide) ?_
        refine nf_ic_lt hx hb d_M_type_42 (tgt := 58) (by decide) (fun hc => ?_) (fun hc => ?_)
        · have h := h.1 hc
          exact w_M_type_58 hfl K  M _ _ _ h (lv_sub hl [] rfl) hw
        · have h := h.2 hc
          refine lv_iload hx hb d_M_type_45 (lv_at hl 0 rfl) ?_
          refine lv_bipush (v := (126 : Int32)) hx hb d_M_type_47 (by decide) ?_
          refine nf_ic_gt hx hb d_M_type_49 (tgt := 58) (by decide) (fun hc => ?_) (fun hc => ?_)
          · have h := h.1 hc
            exact w_M_type_58 hfl K  M _ _ _ h (lv_sub hl [] rfl) hw
          · have h := h.2 hc
            refine lv_iload_n hx hb d_M_type_52 rfl (lv_at hl 3 rfl) ?_
            refine lv_bipush (v := (40 : Int32)) hx hb d_M_type_53 (by decide) ?_
            refine nf_ic_ne hx hb d_M_type_55 (tgt := 60) (by decide) (fun hc => ?_) (fun hc => ?_)
            · have h := h.1 hc
              exact w_M_type_58 hfl K  M _ _ _ h (lv_sub hl [] rfl) hw
            · have h := h.2 hc
              exact w_M_type_60 hfl K (fun x1 x3 x4 z => B_M_type_14 post n x1 x3 x4 z) (fun x1 x3 x4 z H locs ls hh hll hww => ih x1 x3 x4 z H locs ls hh hll hww) x1 x3 x4 t2 M _ _ _ h (lv_sub hl [1, 2, 3, 4, 0] rfl) hw
theorem c_M_type (l : Launch) (hfl : l.flags = flags0) (x1 : Int64) : nf_C nf_jI l nm_M_type nb_M_type 6 (some FieldType.boolean) rm_M_type (fun a => [.ref (a 19), .long x1]) (fun M post ex => P_M_type x1 M post) := by
  refine nf_start (plainFor_of_name (by decide +kernel)) (fun a => Nat.le_of_ble_eq_true rfl) ?_
  intro D a sz M post ex p e s m below meth c ls h K hl hw
  have hx := K.1
  have hb := K.2.1
  have hl : lv_has ls 6 [(0, .ref (a 19)), (1, .long x1)] := hl
  refine lv_aload_n hx hb d_M_type_0 rfl (lv_at hl 0 rfl) ?_
  refine lv_iconst (v := (0 : Int32)) hx hb d_M_type_1 (by decide) ?_
  refine nf_put (M' := ms_I M 19 0 (0 : Int32)) K hw 19 7 0 nw_931 rfl rfl rfl ni_M ny_M nq_M nn_M (by decide) rfl rfl rfl rfl (Nat.le_of_ble_eq_true rfl) d_M_type_2 (fun H locs hw => ?_)
  obtain ⟨M1, eM1⟩ : ∃ z, z = ms_I M 19 0 (0 : Int32) := ⟨_, rfl⟩
  rw [← eM1] at hw
  have h := h M1 eM1
  refine lv_aload_n hx hb d_M_type_5 rfl (lv_at hl 0 rfl) ?_
  refine nf_get (v := .int (mg_I M1 19 1)) K hw 19 7 1 nw_932 rfl rfl ni_M (by decide) rfl rfl d_M_type_6 ?_
  refine lv_topi (fun t2 et2 => ?_)
  have h := h t2 et2
  refine lv_istore_n (lv' := [(3, .int t2), (0, .ref (a 19)), (1, .long x1)]) hx hb d_M_type_9 rfl hl (by decide) rfl (fun ls hl => ?_)
  refine lv_bipush (v := (7 : Int32)) hx hb d_M_type_10 (by decide) ?_
  refine lv_istore (lv' := [(4, .int (7 : Int32)), (3, .int t2), (0, .ref (a 19)), (1, .long x1)]) hx hb d_M_type_12 hl (by decide) rfl (fun ls hl => ?_)
  obtain ⟨n, h⟩ := h
  exact w_M_type_14 hfl K n x1 t2 (7 : Int32) M1 _ _ _ h (lv_sub hl [2, 3, 1, 0] rfl) hw
theorem d_M_wipe_0 : decode nb_M_wipe 0 = .ok (.aload_n 0, 1) := by decide +kernel
theorem d_M_wipe_1 : decode nb_M_wipe 1 = .ok (.iconst 0, 1) := by decide +kernel
theorem d_M_wipe_2 : decode nb_M_wipe 2 = .ok (.putfield 33, 3) := by decide +kernel
theorem d_M_wipe_5 : decode nb_M_wipe 5 = .ok (.aload_n 0, 1) := by decide +kernel
theorem d_M_wipe_6 : decode nb_M_wipe 6 = .ok (.iconst 0, 1) := by decide +kernel
theorem d_M_wipe_7 : decode nb_M_wipe 7 = .ok (.putfield 37, 3) := by decide +kernel
theorem d_M_wipe_10 : decode nb_M_wipe 10 = .ok (.return_, 1) := by decide +kernel
abbrev rm_M_wipe : Room := ({ frames := 0, cells := 0, slots := 0, locals := 0 })
theorem c_M_wipe (l : Launch) (hfl : l.flags = flags0) : nf_C nf_jN l nm_M_wipe nb_M_wipe 1 none rm_M_wipe (fun a => [.ref (a 19)]) (fun M post ex => P_M_wipe  M post) := by
  refine nf_start (plainFor_of_name (by decide +kernel)) (fun a => Nat.le_of_ble_eq_true rfl) ?_
  intro D a sz M post ex p e s m below meth c ls h K hl hw
  have hx := K.1
  have hb := K.2.1
  have hl : lv_has ls 1 [(0, .ref (a 19))] := hl
  refine lv_aload_n hx hb d_M_wipe_0 rfl (lv_at hl 0 rfl) ?_
  refine lv_iconst (v := (0 : Int32)) hx hb d_M_wipe_1 (by decide) ?_
  refine nf_put (M' := ms_I M 19 0 (0 : Int32)) K hw 19 7 0 nw_931 rfl rfl rfl ni_M ny_M nq_M nn_M (by decide) rfl rfl rfl rfl (Nat.le_of_ble_eq_true rfl) d_M_wipe_2 (fun H locs hw => ?_)
  obtain ⟨M1, eM1⟩ : ∃ z, z = ms_I M 19 0 (0 : Int32) := ⟨_, rfl⟩
  rw [← eM1] at hw
  have h := h M1 eM1
  refine lv_aload_n hx hb d_M_wipe_5 rfl (lv_at hl 0 rfl) ?_
  refine lv_iconst (v := (0 : Int32)) hx hb d_M_wipe_6 (by decide) ?_
  refine nf_put (M' := ms_I M1 19 1 (0 : Int32)) K hw 19 7 1 nw_932 rfl rfl rfl ni_M ny_M nq_M nn_M (by decide) rfl rfl rfl rfl (Nat.le_of_ble_eq_true rfl) d_M_wipe_7 (fun H locs hw => ?_)
  obtain ⟨M2, eM2⟩ : ∃ z, z = ms_I M1 19 1 (0 : Int32) := ⟨_, rfl⟩
  rw [← eM2] at hw
  have h := h M2 eM2
  exact nf_vret K hw d_M_wipe_10 (Nat.le_of_ble_eq_true rfl) (Nat.le_of_ble_eq_true rfl) (r := ()) rfl h
theorem d_M_isRegister_0 : decode nb_M_isRegister 0 = .ok (.iload_n 0, 1) := by decide +kernel
theorem d_M_isRegister_1 : decode nb_M_isRegister 1 = .ok (.ifCond .lt 13, 3) := by decide +kernel
theorem d_M_isRegister_4 : decode nb_M_isRegister 4 = .ok (.iload_n 0, 1) := by decide +kernel
theorem d_M_isRegister_5 : decode nb_M_isRegister 5 = .ok (.bipush 8, 2) := by decide +kernel
theorem d_M_isRegister_7 : decode nb_M_isRegister 7 = .ok (.if_icmp .ge 7, 3) := by decide +kernel
theorem d_M_isRegister_10 : decode nb_M_isRegister 10 = .ok (.iconst 1, 1) := by decide +kernel
theorem d_M_isRegister_11 : decode nb_M_isRegister 11 = .ok (.goto 4, 3) := by decide +kernel
theorem d_M_isRegister_14 : decode nb_M_isRegister 14 = .ok (.iconst 0, 1) := by decide +kernel
theorem d_M_isRegister_15 : decode nb_M_isRegister 15 = .ok (.ireturn, 1) := by decide +kernel
abbrev rm_M_isRegister : Room := ({ frames := 0, cells := 0, slots := 0, locals := 0 })
theorem w_M_isRegister_15 {post : Int32 → nf_M → Prop} (hfl : l.flags = flags0) (K : nf_K p s m args meth c "NumberForgeModel" nb_M_isRegister 1 (some FieldType.boolean) D a sz) : ∀ (xy0 : Int32) (M : nf_M) (H : Heap) (locs : List Loc) (ls : Array Slot), B_M_isRegister_15 post xy0 M → lv_has ls 1 [] → nf_W D a s sz H locs M → W p l e rm_M_isRegister s m args below meth c H locs 0 0 (nf_MQ below (nf_Q nf_jI D a post ex (nf_A a sz)) args s rm_M_isRegister.cells rm_M_isRegister.slots (nf_A a sz)) (F0 m 15 ls [.int xy0]) := by
  have hx := K.1
  have hb := K.2.1
  intro xy0 M H locs ls h hl hw
  obtain ⟨g1, h⟩ := h
  exact nf_iret K hw d_M_isRegister_15 g1 (Nat.le_of_ble_eq_true rfl) (Nat.le_of_ble_eq_true rfl) (r := xy0) rfl h
theorem w_M_isRegister_14 {post : Int32 → nf_M → Prop} (hfl : l.flags = flags0) (K : nf_K p s m args meth c "NumberForgeModel" nb_M_isRegister 1 (some FieldType.boolean) D a sz) : ∀ (M : nf_M) (H : Heap) (locs : List Loc) (ls : Array Slot), B_M_isRegister_14 post  M → lv_has ls 1 [] → nf_W D a s sz H locs M → W p l e rm_M_isRegister s m args below meth c H locs 0 0 (nf_MQ below (nf_Q nf_jI D a post ex (nf_A a sz)) args s rm_M_isRegister.cells rm_M_isRegister.slots (nf_A a sz)) (F0 m 14 ls []) := by
  have hx := K.1
  have hb := K.2.1
  intro  M H locs ls h hl hw
  refine lv_iconst (v := (0 : Int32)) hx hb d_M_isRegister_14 (by decide) ?_
  exact w_M_isRegister_15 hfl K (0 : Int32) M _ _ _ h (lv_sub hl [] rfl) hw
theorem c_M_isRegister (l : Launch) (hfl : l.flags = flags0) (x0 : Int32) : nf_C nf_jI l nm_M_isRegister nb_M_isRegister 1 (some FieldType.boolean) rm_M_isRegister (fun a => [.int x0]) (fun M post ex => P_M_isRegister x0 M post) := by
  refine nf_start (plainFor_of_name (by decide +kernel)) (fun a => Nat.le_of_ble_eq_true rfl) ?_
  intro D a sz M post ex p e s m below meth c ls h K hl hw
  have hx := K.1
  have hb := K.2.1
  have hl : lv_has ls 1 [(0, .int x0)] := hl
  refine lv_iload_n hx hb d_M_isRegister_0 rfl (lv_at hl 0 rfl) ?_
  refine nf_if_lt hx hb d_M_isRegister_1 (tgt := 14) (by decide) (fun hc => ?_) (fun hc => ?_)
  · have h := h.1 hc
    exact w_M_isRegister_14 hfl K  M _ _ _ h (lv_sub hl [] rfl) hw
  · have h := h.2 hc
    refine lv_iload_n hx hb d_M_isRegister_4 rfl (lv_at hl 0 rfl) ?_
    refine lv_bipush (v := (8 : Int32)) hx hb d_M_isRegister_5 (by decide) ?_
    refine nf_ic_ge hx hb d_M_isRegister_7 (tgt := 14) (by decide) (fun hc => ?_) (fun hc => ?_)
    · have h := h.1 hc
      refine lv_iconst (v := (1 : Int32)) hx hb d_M_isRegister_10 (by decide) ?_
      refine lv_goto hx hb d_M_isRegister_11 (tgt := 15) (by decide) ?_
      exact w_M_isRegister_15 hfl K (1 : Int32) M _ _ _ h (lv_sub hl [] rfl) hw
    · have h := h.2 hc
      exact w_M_isRegister_14 hfl K  M _ _ _ h (lv_sub hl [] rfl) hw
theorem d_M_isExact_0 : decode nb_M_isExact 0 = .ok (.iload_n 0, 1) := by decide +kernel
theorem d_M_isExact_1 : decode nb_M_isExact 1 = .ok (.ifCond .lt 13, 3) := by decide +kernel
theorem d_M_isExact_4 : decode nb_M_isExact 4 = .ok (.iload_n 0, 1) := by decide +kernel
theorem d_M_isExact_5 : decode nb_M_isExact 5 = .ok (.bipush 8, 2) := by decide +kernel
theorem d_M_isExact_7 : decode nb_M_isExact 7 = .ok (.if_icmp .ge 7, 3) := by decide +kernel
theorem d_M_isExact_10 : decode nb_M_isExact 10 = .ok (.iconst 1, 1) := by decide +kernel
theorem d_M_isExact_11 : decode nb_M_isExact 11 = .ok (.goto 4, 3) := by decide +kernel
theorem d_M_isExact_14 : decode nb_M_isExact 14 = .ok (.iconst 0, 1) := by decide +kernel
theorem d_M_isExact_15 : decode nb_M_isExact 15 = .ok (.ireturn, 1) := by decide +kernel
abbrev rm_M_isExact : Room := ({ frames := 0, cells := 0, slots := 0, locals := 0 })
theorem w_M_isExact_15 {post : Int32 → nf_M → Prop} (hfl : l.flags = flags0) (K : nf_K p s m args meth c "NumberForgeModel" nb_M_isExact 1 (some FieldType.boolean) D a sz) : ∀ (xy0 : Int32) (M : nf_M) (H : Heap) (locs : List Loc) (ls : Array Slot), B_M_isExact_15 post xy0 M → lv_has ls 1 [] → nf_W D a s sz H locs M → W p l e rm_M_isExact s m args below meth c H locs 0 0 (nf_MQ below (nf_Q nf_jI D a post ex (nf_A a sz)) args s rm_M_isExact.cells rm_M_isExact.slots (nf_A a sz)) (F0 m 15 ls [.int xy0]) := by
  have hx := K.1
  have hb := K.2.1
  intro xy0 M H locs ls h hl hw
  obtain ⟨g1, h⟩ := h
  exact nf_iret K hw d_M_isExact_15 g1 (Nat.le_of_ble_eq_true rfl) (Nat.le_of_ble_eq_true rfl) (r := xy0) rfl h
theorem w_M_isExact_14 {post : Int32 → nf_M → Prop} (hfl : l.flags = flags0) (K : nf_K p s m args meth c "NumberForgeModel" nb_M_isExact 1 (some FieldType.boolean) D a sz) : ∀ (M : nf_M) (H : Heap) (locs : List Loc) (ls : Array Slot), B_M_isExact_14 post  M → lv_has ls 1 [] → nf_W D a s sz H locs M → W p l e rm_M_isExact s m args below meth c H locs 0 0 (nf_MQ below (nf_Q nf_jI D a post ex (nf_A a sz)) args s rm_M_isExact.cells rm_M_isExact.slots (nf_A a sz)) (F0 m 14 ls []) := by
  have hx := K.1
  have hb := K.2.1
  intro  M H locs ls h hl hw
  refine lv_iconst (v := (0 : Int32)) hx hb d_M_isExact_14 (by decide) ?_
  exact w_M_isExact_15 hfl K (0 : Int32) M _ _ _ h (lv_sub hl [] rfl) hw
theorem c_M_isExact (l : Launch) (hfl : l.flags = flags0) (x0 : Int32) : nf_C nf_jI l nm_M_isExact nb_M_isExact 1 (some FieldType.boolean) rm_M_isExact (fun a => [.int x0]) (fun M post ex => P_M_isExact x0 M post) := by
  refine nf_start (plainFor_of_name (by decide +kernel)) (fun a => Nat.le_of_ble_eq_true rfl) ?_
  intro D a sz M post ex p e s m below meth c ls h K hl hw
  have hx := K.1
  have hb := K.2.1
  have hl : lv_has ls 1 [(0, .int x0)] := hl
  refine lv_iload_n hx hb d_M_isExact_0 rfl (lv_at hl 0 rfl) ?_
  refine nf_if_lt hx hb d_M_isExact_1 (tgt := 14) (by decide) (fun hc => ?_) (fun hc => ?_)
  · have h := h.1 hc
    exact w_M_isExact_14 hfl K  M _ _ _ h (lv_sub hl [] rfl) hw
  · have h := h.2 hc
    refine lv_iload_n hx hb d_M_isExact_4 rfl (lv_at hl 0 rfl) ?_
    refine lv_bipush (v := (8 : Int32)) hx hb d_M_isExact_5 (by decide) ?_
    refine nf_ic_ge hx hb d_M_isExact_7 (tgt := 14) (by decide) (fun hc => ?_) (fun hc => ?_)
    · have h := h.1 hc
      refine lv_iconst (v := (1 : Int32)) hx hb d_M_isExact_10 (by decide) ?_
      refine lv_goto hx hb d_M_isExact_11 (tgt := 15) (by decide) ?_
      exact w_M_isExact_15 hfl K (1 : Int32) M _ _ _ h (lv_sub hl [] rfl) hw
    · have h := h.2 hc
      exact w_M_isExact_14 hfl K  M _ _ _ h (lv_sub hl [] rfl) hw
theorem d_M_here_0 : decode nb_M_here 0 = .ok (.aload_n 0, 1) := by decide +kernel
theorem d_M_here_1 : decode nb_M_here 1 = .ok (.getfield 104, 3) := by decide +kernel
theorem d_M_here_4 : decode nb_M_here 4 = .ok (.aload_n 0, 1) := by decide +kernel
theorem d_M_here_5 : decode nb_M_here 5 = .ok (.getfield 107, 3) := by decide +kernel
theorem d_M_here_8 : decode nb_M_here 8 = .ok (.if_icmp .ge 15, 3) := by decide +kernel
theorem d_M_here_11 : decode nb_M_here 11 = .ok (.aload_n 0, 1) := by decide +kernel
theorem d_M_here_12 : decode nb_M_here 12 = .ok (.getfield 7, 3) := by decide +kernel
theorem d_M_here_15 : decode nb_M_here 15 = .ok (.aload_n 0, 1) := by decide +kernel
theorem d_M_here_16 : decode nb_M_here 16 = .ok (.getfield 104, 3) := by decide +kernel
theorem d_M_here_19 : decode nb_M_here 19 = .ok (.iaload, 1) := by decide +kernel
theorem d_M_here_20 : decode nb_M_here 20 = .ok (.goto 4, 3) := by decide +kernel
theorem d_M_here_23 : decode nb_M_here 23 = .ok (.iconst 0, 1) := by decide +kernel
theorem d_M_here_24 : decode nb_M_here 24 = .ok (.ireturn, 1) := by decide +kernel
abbrev rm_M_here : Room := ({ frames := 0, cells := 0, slots := 0, locals := 0 })
theorem w_M_here_24 {post : Int32 → nf_M → Prop} (hfl : l.flags = flags0) (K : nf_K p s m args meth c "NumberForgeModel" nb_M_here 1 (some FieldType.int) D a sz) : ∀ (xy0 : Int32) (M : nf_M) (H : Heap) (locs : List Loc) (ls : Array Slot), B_M_here_24 post xy0 M → lv_has ls 1 [] → nf_W D a s sz H locs M → W p l e rm_M_here s m args below meth c H locs 0 0 (nf_MQ below (nf_Q nf_jI D a post ex (nf_A a sz)) args s rm_M_here.cells rm_M_here.slots (nf_A a sz)) (F0 m 24 ls [.int xy0]) := by
  have hx := K.1
  have hb := K.2.1
  intro xy0 M H locs ls h hl hw
  exact nf_iret K hw d_M_here_24 rfl (Nat.le_of_ble_eq_true rfl) (Nat.le_of_ble_eq_true rfl) (r := xy0) rfl h
theorem c_M_here (l : Launch) (hfl : l.flags = flags0) : nf_C nf_jI l nm_M_here nb_M_here 1 (some FieldType.int) rm_M_here (fun a => [.ref (a 19)]) (fun M post ex => P_M_here  M post) := by
  refine nf_start (plainFor_of_name (by decide +kernel)) (fun a => Nat.le_of_ble_eq_true rfl) ?_
  intro D a sz M post ex p e s m below meth c ls h K hl hw
  have hx := K.1
  have hb := K.2.1
  have hl : lv_has ls 1 [(0, .ref (a 19))] := hl
  refine lv_aload_n hx hb d_M_here_0 rfl (lv_at hl 0 rfl) ?_
  refine nf_get (v := .int (mg_I M 19 15)) K hw 19 7 15 nw_946 rfl rfl ni_M (by decide) rfl rfl d_M_here_1 ?_
  refine lv_aload_n hx hb d_M_here_4 rfl (lv_at hl 0 rfl) ?_
  refine nf_get (v := .int (mg_I M 19 16)) K hw 19 7 16 nw_947 rfl rfl ni_M (by decide) rfl rfl d_M_here_5 ?_
  refine nf_ic_ge hx hb d_M_here_8 (tgt := 23) (by decide) (fun hc => ?_) (fun hc => ?_)
  · have h := h.1 hc
    refine lv_aload_n hx hb d_M_here_11 rfl (lv_at hl 0 rfl) ?_
    refine nf_get (v := .ref (a 20)) K hw 19 7 2 nw_933 rfl rfl ni_M (by decide) rfl rfl d_M_here_12 ?_
    refine lv_aload_n hx hb d_M_here_15 rfl (lv_at hl 0 rfl) ?_
    refine nf_get (v := .int (mg_I M 19 15)) K hw 19 7 15 nw_946 rfl rfl ni_M (by decide) rfl rfl d_M_here_16 ?_
    obtain ⟨g1, h⟩ := h
    refine nf_iald K hw 20 3 rfl rfl g1 d_M_here_19 ?_
    refine lv_goto hx hb d_M_here_20 (tgt := 24) (by decide) ?_
    exact w_M_here_24 hfl K (mg_I M 20 (mg_I M 19 15).toNatClampNeg) M _ _ _ h (lv_sub hl [] rfl) hw
  · have h := h.2 hc
    refine lv_iconst (v := (0 : Int32)) hx hb d_M_here_23 (by decide) ?_
    exact w_M_here_24 hfl K (0 : Int32) M _ _ _ h (lv_sub hl [] rfl) hw
theorem d_M_isDigit_0 : decode nb_M_isDigit 0 = .ok (.iload_n 0, 1) := by decide +kernel
theorem d_M_isDigit_1 : decode nb_M_isDigit 1 = .ok (.bipush 48, 2) := by decide +kernel
theorem d_M_isDigit_3 : decode nb_M_isDigit 3 = .ok (.if_icmp .lt 13, 3) := by decide +kernel
theorem d_M_isDigit_6 : decode nb_M_isDigit 6 = .ok (.iload_n 0, 1) := by decide +kernel
theorem d_M_isDigit_7 : decode nb_M_isDigit 7 = .ok (.bipush 57, 2) := by decide +kernel
theorem d_M_isDigit_9 : decode nb_M_isDigit 9 = .ok (.if_icmp .gt 7, 3) := by decide +kernel
theorem d_M_isDigit_12 : decode nb_M_isDigit 12 = .ok (.iconst 1, 1) := by decide +kernel
theorem d_M_isDigit_13 : decode nb_M_isDigit 13 = .ok (.goto 4, 3) := by decide +kernel
theorem d_M_isDigit_16 : decode nb_M_isDigit 16 = .ok (.iconst 0, 1) := by decide +kernel
theorem d_M_isDigit_17 : decode nb_M_isDigit 17 = .ok (.ireturn, 1) := by decide +kernel
abbrev rm_M_isDigit : Room := ({ frames := 0, cells := 0, slots := 0, locals := 0 })
theorem w_M_isDigit_17 {post : Int32 → nf_M → Prop} (hfl : l.flags = flags0) (K : nf_K p s m args meth c "NumberForgeModel" nb_M_isDigit 1 (some FieldType.boolean) D a sz) : ∀ (xy0 : Int32) (M : nf_M) (H : Heap) (locs : List Loc) (ls : Array Slot), B_M_isDigit_17 post xy0 M → lv_has ls 1 [] → nf_W D a s sz H locs M → W p l e rm_M_isDigit s m args below meth c H locs 0 0 (nf_MQ below (nf_Q nf_jI D a post ex (nf_A a sz)) args s rm_M_isDigit.cells rm_M_isDigit.slots (nf_A a sz)) (F0 m 17 ls [.int xy0]) := by
  have hx := K.1
  have hb := K.2.1
  intro xy0 M H locs ls h hl hw
  obtain ⟨g1, h⟩ := h
  exact nf_iret K hw d_M_isDigit_17 g1 (Nat.le_of_ble_eq_true rfl) (Nat.le_of_ble_eq_true rfl) (r := xy0) rfl h
theorem w_M_isDigit_16 {post : Int32 → nf_M → Prop} (hfl : l.flags = flags0) (K : nf_K p s m args meth c "NumberForgeModel" nb_M_isDigit 1 (some FieldType.boolean) D a sz) : ∀ (M : nf_M) (H : Heap) (locs : List Loc) (ls : Array Slot), B_M_isDigit_16 post  M → lv_has ls 1 [] → nf_W D a s sz H locs M → W p l e rm_M_isDigit s m args below meth c H locs 0 0 (nf_MQ below (nf_Q nf_jI D a post ex (nf_A a sz)) args s rm_M_isDigit.cells rm_M_isDigit.slots (nf_A a sz)) (F0 m 16 ls []) := by
  have hx := K.1
  have hb := K.2.1
  intro  M H locs ls h hl hw
  refine lv_iconst (v := (0 : Int32)) hx hb d_M_isDigit_16 (by decide) ?_
  exact w_M_isDigit_17 hfl K (0 : Int32) M _ _ _ h (lv_sub hl [] rfl) hw
theorem c_M_isDigit (l : Launch) (hfl : l.flags = flags0) (x0 : Int32) : nf_C nf_jI l nm_M_isDigit nb_M_isDigit 1 (some FieldType.boolean) rm_M_isDigit (fun a => [.int x0]) (fun M post ex => P_M_isDigit x0 M post) := by
  refine nf_start (plainFor_of_name (by decide +kernel)) (fun a => Nat.le_of_ble_eq_true rfl) ?_
  intro D a sz M post ex p e s m below meth c ls h K hl hw
  have hx := K.1
  have hb := K.2.1
  have hl : lv_has ls 1 [(0, .int x0)] := hl
  refine lv_iload_n hx hb d_M_isDigit_0 rfl (lv_at hl 0 rfl) ?_
  refine lv_bipush (v := (48 : Int32)) hx hb d_M_isDigit_1 (by decide) ?_
  refine nf_ic_lt hx hb d_M_isDigit_3 (tgt := 16) (by decide) (fun hc => ?_) (fun hc => ?_)
  · have h := h.1 hc
    exact w_M_isDigit_16 hfl K  M _ _ _ h (lv_sub hl [] rfl) hw
  · have h := h.2 hc
    refine lv_iload_n hx hb d_M_isDigit_6 rfl (lv_at hl 0 rfl) ?_
    refine lv_bipush (v := (57 : Int32)) hx hb d_M_isDigit_7 (by decide) ?_
    refine nf_ic_gt hx hb d_M_isDigit_9 (tgt := 16) (by decide) (fun hc => ?_) (fun hc => ?_)
    · have h := h.1 hc
      exact w_M_isDigit_16 hfl K  M _ _ _ h (lv_sub hl [] rfl) hw
    · have h := h.2 hc
      refine lv_iconst (v := (1 : Int32)) hx hb d_M_isDigit_12 (by decide) ?_
      refine lv_goto hx hb d_M_isDigit_13 (tgt := 17) (by decide) ?_
      exact w_M_isDigit_17 hfl K (1 : Int32) M _ _ _ h (lv_sub hl [] rfl) hw
theorem d_M_digits_0 : decode nb_M_digits 0 = .ok (.aload_n 0, 1) := by decide +kernel
theorem d_M_digits_1 : decode nb_M_digits 1 = .ok (.iconst 0, 1) := by decide +kernel
theorem d_M_digits_2 : decode nb_M_digits 2 = .ok (.putfield 62, 3) := by decide +kernel
theorem d_M_digits_5 : decode nb_M_digits 5 = .ok (.iconst (-1), 1) := by decide +kernel
theorem d_M_digits_6 : decode nb_M_digits 6 = .ok (.istore_n 2, 1) := by decide +kernel
theorem d_M_digits_7 : decode nb_M_digits 7 = .ok (.aload_n 0, 1) := by decide +kernel
theorem d_M_digits_8 : decode nb_M_digits 8 = .ok (.invokevirtual 110, 3) := by decide +kernel
theorem d_M_digits_11 : decode nb_M_digits 11 = .ok (.invokestatic 114, 3) := by decide +kernel
theorem d_M_digits_14 : decode nb_M_digits 14 = .ok (.ifCond .ne 20, 3) := by decide +kernel
theorem d_M_digits_17 : decode nb_M_digits 17 = .ok (.iload_n 1, 1) := by decide +kernel
theorem d_M_digits_18 : decode nb_M_digits 18 = .ok (.ifCond .eq 90, 3) := by decide +kernel
theorem d_M_digits_21 : decode nb_M_digits 21 = .ok (.iload_n 2, 1) := by decide +kernel
theorem d_M_digits_22 : decode nb_M_digits 22 = .ok (.ifCond .ge 86, 3) := by decide +kernel
theorem d_M_digits_25 : decode nb_M_digits 25 = .ok (.aload_n 0, 1) := by decide +kernel
theorem d_M_digits_26 : decode nb_M_digits 26 = .ok (.invokevirtual 110, 3) := by decide +kernel
theorem d_M_digits_29 : decode nb_M_digits 29 = .ok (.bipush 46, 2) := by decide +kernel
theorem d_M_digits_31 : decode nb_M_digits 31 = .ok (.if_icmp .ne 77, 3) := by decide +kernel
theorem d_M_digits_34 : decode nb_M_digits 34 = .ok (.aload_n 0, 1) := by decide +kernel
theorem d_M_digits_35 : decode nb_M_digits 35 = .ok (.invokevirtual 110, 3) := by decide +kernel
theorem d_M_digits_38 : decode nb_M_digits 38 = .ok (.invokestatic 114, 3) := by decide +kernel
theorem d_M_digits_41 : decode nb_M_digits 41 = .ok (.ifCond .eq 29, 3) := by decide +kernel
theorem d_M_digits_44 : decode nb_M_digits 44 = .ok (.aload_n 0, 1) := by decide +kernel
theorem d_M_digits_45 : decode nb_M_digits 45 = .ok (.getfield 30, 3) := by decide +kernel
theorem d_M_digits_48 : decode nb_M_digits 48 = .ok (.aload_n 0, 1) := by decide +kernel
theorem d_M_digits_49 : decode nb_M_digits 49 = .ok (.getfield 62, 3) := by decide +kernel
theorem d_M_digits_52 : decode nb_M_digits 52 = .ok (.aload_n 0, 1) := by decide +kernel
theorem d_M_digits_53 : decode nb_M_digits 53 = .ok (.invokevirtual 110, 3) := by decide +kernel
theorem d_M_digits_56 : decode nb_M_digits 56 = .ok (.bipush 48, 2) := by decide +kernel
theorem d_M_digits_58 : decode nb_M_digits 58 = .ok (.isub, 1) := by decide +kernel
theorem d_M_digits_59 : decode nb_M_digits 59 = .ok (.iastore, 1) := by decide +kernel
theorem d_M_digits_60 : decode nb_M_digits 60 = .ok (.aload_n 0, 1) := by decide +kernel
theorem d_M_digits_61 : decode nb_M_digits 61 = .ok (.dup, 1) := by decide +kernel
theorem d_M_digits_62 : decode nb_M_digits 62 = .ok (.getfield 62, 3) := by decide +kernel
theorem d_M_digits_65 : decode nb_M_digits 65 = .ok (.iconst 1, 1) := by decide +kernel
theorem d_M_digits_66 : decode nb_M_digits 66 = .ok (.iadd, 1) := by decide +kernel
theorem d_M_digits_67 : decode nb_M_digits 67 = .ok (.putfield 62, 3) := by decide +kernel
theorem d_M_digits_70 : decode nb_M_digits 70 = .ok (.aload_n 0, 1) := by decide +kernel
theorem d_M_digits_71 : decode nb_M_digits 71 = .ok (.invokevirtual 110, 3) := by decide +kernel
theorem d_M_digits_74 : decode nb_M_digits 74 = .ok (.bipush 46, 2) := by decide +kernel
theorem d_M_digits_76 : decode nb_M_digits 76 = .ok (.if_icmp .ne 7, 3) := by decide +kernel
theorem d_M_digits_79 : decode nb_M_digits 79 = .ok (.iconst 0, 1) := by decide +kernel
theorem d_M_digits_80 : decode nb_M_digits 80 = .ok (.goto 14, 3) := by decide +kernel
theorem d_M_digits_83 : decode nb_M_digits 83 = .ok (.iload_n 2, 1) := by decide +kernel
theorem d_M_digits_84 : decode nb_M_digits 84 = .ok (.ifCond .ge 7, 3) := by decide +kernel
theorem d_M_digits_87 : decode nb_M_digits 87 = .ok (.iload_n 2, 1) := by decide +kernel
theorem d_M_digits_88 : decode nb_M_digits 88 = .ok (.goto 6, 3) := by decide +kernel
theorem d_M_digits_91 : decode nb_M_digits 91 = .ok (.iload_n 2, 1) := by decide +kernel
theorem d_M_digits_92 : decode nb_M_digits 92 = .ok (.iconst 1, 1) := by decide +kernel
theorem d_M_digits_93 : decode nb_M_digits 93 = .ok (.iadd, 1) := by decide +kernel
theorem d_M_digits_94 : decode nb_M_digits 94 = .ok (.istore_n 2, 1) := by decide +kernel
theorem d_M_digits_95 : decode nb_M_digits 95 = .ok (.aload_n 0, 1) := by decide +kernel
theorem d_M_digits_96 : decode nb_M_digits 96 = .ok (.dup, 1) := by decide +kernel
theorem d_M_digits_97 : decode nb_M_digits 97 = .ok (.getfield 104, 3) := by decide +kernel
theorem d_M_digits_100 : decode nb_M_digits 100 = .ok (.iconst 1, 1) := by decide +kernel
theorem d_M_digits_101 : decode nb_M_digits 101 = .ok (.iadd, 1) := by decide +kernel
theorem d_M_digits_102 : decode nb_M_digits 102 = .ok (.putfield 104, 3) := by decide +kernel
theorem d_M_digits_105 : decode nb_M_digits 105 = .ok (.goto (-98), 3) := by decide +kernel
theorem d_M_digits_108 : decode nb_M_digits 108 = .ok (.aload_n 0, 1) := by decide +kernel
theorem d_M_digits_109 : decode nb_M_digits 109 = .ok (.getfield 62, 3) := by decide +kernel
theorem d_M_digits_112 : decode nb_M_digits 112 = .ok (.ifCond .ne 7, 3) := by decide +kernel
theorem d_M_digits_115 : decode nb_M_digits 115 = .ok (.iconst (-1), 1) := by decide +kernel
theorem d_M_digits_116 : decode nb_M_digits 116 = .ok (.goto 12, 3) := by decide +kernel
theorem d_M_digits_119 : decode nb_M_digits 119 = .ok (.iload_n 2, 1) := by decide +kernel
theorem d_M_digits_120 : decode nb_M_digits 120 = .ok (.ifCond .ge 7, 3) := by decide +kernel
theorem d_M_digits_123 : decode nb_M_digits 123 = .ok (.iconst 0, 1) := by decide +kernel
theorem d_M_digits_124 : decode nb_M_digits 124 = .ok (.goto 4, 3) := by decide +kernel
theorem d_M_digits_127 : decode nb_M_digits 127 = .ok (.iload_n 2, 1) := by decide +kernel
theorem d_M_digits_128 : decode nb_M_digits 128 = .ok (.ireturn, 1) := by decide +kernel
abbrev rm_M_digits : Room := ({ frames := 1, cells := 0, slots := 0, locals := 20 })
theorem w_M_digits_94 {post : Int32 → nf_M → Prop} (hfl : l.flags = flags0) (K : nf_K p s m args meth c "NumberForgeModel" nb_M_digits 3 (some FieldType.int) D a sz) (k7 : Int32 → Int32 → nf_M → Prop) (hk7 : ∀ (x1 : Int32) (x2 : Int32) (M : nf_M) (H : Heap) (locs : List Loc) (ls : Array Slot), k7 x1 x2 M → lv_has ls 3 [(0, .ref (a 19)), (1, .int x1), (2, .int x2)] → nf_W D a s sz H locs M → W p l e rm_M_digits s m args below meth c H locs 0 0 (nf_MQ below (nf_Q nf_jI D a post ex (nf_A a sz)) args s rm_M_digits.cells rm_M_digits.slots (nf_A a sz)) (F0 m 7 ls [])) : ∀ (x1 : Int32) (xy0 : Int32) (M : nf_M) (H : Heap) (locs : List Loc) (ls : Array Slot), B_M_digits_94 k7 post x1 xy0 M → lv_has ls 3 [(0, .ref (a 19)), (1, .int x1)] → nf_W D a s sz H locs M → W p l e rm_M_digits s m args below meth c H locs 0 0 (nf_MQ below (nf_Q nf_jI D a post ex (nf_A a sz)) args s rm_M_digits.cells rm_M_digits.slots (nf_A a sz)) (F0 m 94 ls [.int xy0]) := by
  have hx := K.1
  have hb := K.2.1
  intro x1 xy0 M H locs ls h hl hw
  refine lv_istore_n (lv' := [(2, .int xy0), (0, .ref (a 19)), (1, .int x1)]) hx hb d_M_digits_94 rfl hl (by decide) rfl (fun ls hl => ?_)
  refine lv_aload_n hx hb d_M_digits_95 rfl (lv_at hl 1 rfl) ?_
  refine lv_dup hx hb d_M_digits_96 rfl ?_
  refine nf_get (v := .int (mg_I M 19 15)) K hw 19 7 15 nw_946 rfl rfl ni_M (by decide) rfl rfl d_M_digits_97 ?_
  refine lv_iconst (v := (1 : Int32)) hx hb d_M_digits_100 (by decide) ?_
  refine lv_iadd hx hb d_M_digits_101 ?_
  refine lv_topi (fun t1 et1 => ?_)
  have h := h t1 et1
  refine nf_put (M' := ms_I M 19 15 t1) K hw 19 7 15 nw_946 rfl rfl rfl ni_M ny_M nq_M nn_M (by decide) rfl rfl rfl rfl (Nat.le_of_ble_eq_true rfl) d_M_digits_102 (fun H locs hw => ?_)
  obtain ⟨M2, eM2⟩ : ∃ z, z = ms_I M 19 15 t1 := ⟨_, rfl⟩
  rw [← eM2] at hw
  have h := h M2 eM2
  refine lv_goto hx hb d_M_digits_105 (tgt := 7) (by decide) ?_
  exact hk7 x1 xy0 M2 _ _ _ h (lv_sub hl [1, 2, 0] rfl) hw
theorem w_M_digits_70 {post : Int32 → nf_M → Prop} (hfl : l.flags = flags0) (K : nf_K p s m args meth c "NumberForgeModel" nb_M_digits 3 (some FieldType.int) D a sz) (k7 : Int32 → Int32 → nf_M → Prop) (hk7 : ∀ (x1 : Int32) (x2 : Int32) (M : nf_M) (H : Heap) (locs : List Loc) (ls : Array Slot), k7 x1 x2 M → lv_has ls 3 [(0, .ref (a 19)), (1, .int x1), (2, .int x2)] → nf_W D a s sz H locs M → W p l e rm_M_digits s m args below meth c H locs 0 0 (nf_MQ below (nf_Q nf_jI D a post ex (nf_A a sz)) args s rm_M_digits.cells rm_M_digits.slots (nf_A a sz)) (F0 m 7 ls [])) : ∀ (x1 : Int32) (x2 : Int32) (M : nf_M) (H : Heap) (locs : List Loc) (ls : Array Slot), B_M_digits_70 k7 post x1 x2 M → lv_has ls 3 [(0, .ref (a 19)), (1, .int x1), (2, .int x2)] → nf_W D a s sz H locs M → W p l e rm_M_digits s m args below meth c H locs 0 0 (nf_MQ below (nf_Q nf_jI D a post ex (nf_A a sz)) args s rm_M_digits.cells rm_M_digits.slots (nf_A a sz)) (F0 m 70 ls []) := by
  have hx := K.1
  have hb := K.2.1
  intro x1 x2 M H locs ls h hl hw
  refine lv_aload_n hx hb d_M_digits_70 rfl (lv_at hl 0 rfl) ?_
  refine nf_callW (ex := (fun _ _ => False)) (As := [.ref (a 19)]) (st0 := [.ref (a 19)]) (rest := []) K hw (nf_invV hx hb K.2.2.2.1 (nf_Kg K nw_1018) (nf_Kg K nw_1020) (nf_Kg K nx_M_here) (nf_Kg K nw_1021) ⟨by decide, by decide⟩ (nf_rcv K hw 19 7 rfl rfl) rfl nl_M_here rfl d_M_digits_71) (c_M_here l hfl ) nw_1021 nw_9 rfl ⟨by decide, by decide⟩ (Nat.le_of_ble_eq_true rfl) hl.1 ⟨Nat.le_of_ble_eq_true rfl, Nat.le_of_ble_eq_true rfl⟩ h (fun _ _ h => h.elim) (fun r1 M2 H locs h hw => ?_)
  refine W.eq (g2 := F0 m 74 ls [.int r1]) rfl ?_
  refine lv_bipush (v := (46 : Int32)) hx hb d_M_digits_74 (by decide) ?_
  refine nf_ic_ne hx hb d_M_digits_76 (tgt := 83) (by decide) (fun hc => ?_) (fun hc => ?_)
  · have h := h.1 hc
    refine lv_iconst (v := (0 : Int32)) hx hb d_M_digits_79 (by decide) ?_
    refine lv_goto hx hb d_M_digits_80 (tgt := 94) (by decide) ?_
    exact w_M_digits_94 hfl K k7 hk7 x1 (0 : Int32) M2 _ _ _ h (lv_sub hl [0, 1] rfl) hw
  · have h := h.2 hc
    refine lv_iload_n hx hb d_M_digits_83 rfl (lv_at hl 2 rfl) ?_
    refine nf_if_ge hx hb d_M_digits_84 (tgt := 91) (by decide) (fun hc => ?_) (fun hc => ?_)
    · have h := h.1 hc
      refine lv_iload_n hx hb d_M_digits_87 rfl (lv_at hl 2 rfl) ?_
      refine lv_goto hx hb d_M_digits_88 (tgt := 94) (by decide) ?_
      exact w_M_digits_94 hfl K k7 hk7 x1 x2 M2 _ _ _ h (lv_sub hl [0, 1] rfl) hw
    · have h := h.2 hc
      refine lv_iload_n hx hb d_M_digits_91 rfl (lv_at hl 2 rfl) ?_
      refine lv_iconst (v := (1 : Int32)) hx hb d_M_digits_92 (by decide) ?_
      refine lv_iadd hx hb d_M_digits_93 ?_
      exact w_M_digits_94 hfl K k7 hk7 x1 (x2 + (1 : Int32)) M2 _ _ _ h (lv_sub hl [0, 1] rfl) hw
theorem w_M_digits_34 {post : Int32 → nf_M → Prop} (hfl : l.flags = flags0) (K : nf_K p s m args meth c "NumberForgeModel" nb_M_digits 3 (some FieldType.int) D a sz) (k7 : Int32 → Int32 → nf_M → Prop) (hk7 : ∀ (x1 : Int32) (x2 : Int32) (M : nf_M) (H : Heap) (locs : List Loc) (ls : Array Slot), k7 x1 x2 M → lv_has ls 3 [(0, .ref (a 19)), (1, .int x1), (2, .int x2)] → nf_W D a s sz H locs M → W p l e rm_M_digits s m args below meth c H locs 0 0 (nf_MQ below (nf_Q nf_jI D a post ex (nf_A a sz)) args s rm_M_digits.cells rm_M_digits.slots (nf_A a sz)) (F0 m 7 ls [])) : ∀ (x1 : Int32) (x2 : Int32) (M : nf_M) (H : Heap) (locs : List Loc) (ls : Array Slot), B_M_digits_34 k7 post x1 x2 M → lv_has ls 3 [(0, .ref (a 19)), (1, .int x1), (2, .int x2)] → nf_W D a s sz H locs M → W p l e rm_M_digits s m args below meth c H locs 0 0 (nf_MQ below (nf_Q nf_jI D a post ex (nf_A a sz)) args s rm_M_digits.cells rm_M_digits.slots (nf_A a sz)) (F0 m 34 ls []) := by
  have hx := K.1
  have hb := K.2.1
  intro x1 x2 M H locs ls h hl hw
  refine lv_aload_n hx hb d_M_digits_34 rfl (lv_at hl 0 rfl) ?_
  refine nf_callW (ex := (fun _ _ => False)) (As := [.ref (a 19)]) (st0 := [.ref (a 19)]) (rest := []) K hw (nf_invV hx hb K.2.2.2.1 (nf_Kg K nw_1018) (nf_Kg K nw_1020) (nf_Kg K nx_M_here) (nf_Kg K nw_1021) ⟨by decide, by decide⟩ (nf_rcv K hw 19 7 rfl rfl) rfl nl_M_here rfl d_M_digits_35) (c_M_here l hfl ) nw_1021 nw_9 rfl ⟨by decide, by decide⟩ (Nat.le_of_ble_eq_true rfl) hl.1 ⟨Nat.le_of_ble_eq_true rfl, Nat.le_of_ble_eq_true rfl⟩ h (fun _ _ h => h.elim) (fun r1 M2 H locs h hw => ?_)
  refine W.eq (g2 := F0 m 38 ls [.int r1]) rfl ?_
  refine nf_callW (ex := (fun _ _ => False)) (As := [.int r1]) (st0 := [.int r1]) (rest := []) K hw (nf_invS hx hb K.2.2.2.1 (nf_Kg K nw_1026) (nf_Kg K nw_1027) (nf_Kg K nw_9) (nf_Kg K nw_1028) ⟨by decide, by decide⟩ rfl nl_M_isDigit rfl d_M_digits_38) (c_M_isDigit l hfl r1) nw_1028 nw_9 rfl ⟨by decide, by decide⟩ (Nat.le_of_ble_eq_true rfl) hl.1 ⟨Nat.le_of_ble_eq_true rfl, Nat.le_of_ble_eq_true rfl⟩ h (fun _ _ h => h.elim) (fun r3 M4 H locs h hw => ?_)
  refine W.eq (g2 := F0 m 41 ls [.int r3]) rfl ?_
  refine nf_if_eq hx hb d_M_digits_41 (tgt := 70) (by decide) (fun hc => ?_) (fun hc => ?_)
  · have h := h.1 hc
    exact w_M_digits_70 hfl K k7 hk7 x1 x2 M4 _ _ _ h (lv_sub hl [0, 1, 2] rfl) hw
  · have h := h.2 hc
    refine lv_aload_n hx hb d_M_digits_44 rfl (lv_at hl 0 rfl) ?_
    refine nf_get (v := .ref (a 26)) K hw 19 7 14 nw_945 rfl rfl ni_M (by decide) rfl rfl d_M_digits_45 ?_
    refine lv_aload_n hx hb d_M_digits_48 rfl (lv_at hl 0 rfl) ?_
    refine nf_get (v := .int (mg_I M4 19 13)) K hw 19 7 13 nw_944 rfl rfl ni_M (by decide) rfl rfl d_M_digits_49 ?_
    refine lv_aload_n hx hb d_M_digits_52 rfl (lv_at hl 0 rfl) ?_
    refine nf_callW (ex := (fun _ _ => False)) (As := [.ref (a 19)]) (st0 := [.ref (a 19), .int (mg_I M4 19 13), .ref (a 26)]) (rest := [.int (mg_I M4 19 13), .ref (a 26)]) K hw (nf_invV hx hb K.2.2.2.1 (nf_Kg K nw_1018) (nf_Kg K nw_1020) (nf_Kg K nx_M_here) (nf_Kg K nw_1021) ⟨by decide, by decide⟩ (nf_rcv K hw 19 7 rfl rfl) rfl nl_M_here rfl d_M_digits_53) (c_M_here l hfl ) nw_1021 nw_9 rfl ⟨by decide, by decide⟩ (Nat.le_of_ble_eq_true rfl) hl.1 ⟨Nat.le_of_ble_eq_true rfl, Nat.le_of_ble_eq_true rfl⟩ h (fun _ _ h => h.elim) (fun r5 M6 H locs h hw => ?_)
    refine W.eq (g2 := F0 m 56 ls [.int r5, .int (mg_I M4 19 13), .ref (a 26)]) rfl ?_
    refine lv_bipush (v := (48 : Int32)) hx hb d_M_digits_56 (by decide) ?_
    refine lv_isub hx hb d_M_digits_58 ?_
    refine lv_topi (fun t7 et7 => ?_)
    have h := h t7 et7
    obtain ⟨g8, h⟩ := h
    refine nf_iast (M' := ms_I M6 26 (mg_I M4 19 13).toNatClampNeg t7) K hw 26 9 rfl rfl g8 rfl d_M_digits_59 (fun H locs hw => ?_)
    obtain ⟨M9, eM9⟩ : ∃ z, z = ms_I M6 26 (mg_I M4 19 13).toNatClampNeg t7 := ⟨_, rfl⟩
    rw [← eM9] at hw
    have h := h M9 eM9
    refine lv_aload_n hx hb d_M_digits_60 rfl (lv_at hl 0 rfl) ?_
    refine lv_dup hx hb d_M_digits_61 rfl ?_
    refine nf_get (v := .int (mg_I M9 19 13)) K hw 19 7 13 nw_944 rfl rfl ni_M (by decide) rfl rfl d_M_digits_62 ?_
    refine lv_iconst (v := (1 : Int32)) hx hb d_M_digits_65 (by decide) ?_
    refine lv_iadd hx hb d_M_digits_66 ?_
    refine lv_topi (fun t10 et10 => ?_)
    have h := h t10 et10
    refine nf_put (M' := ms_I M9 19 13 t10) K hw 19 7 13 nw_944 rfl rfl rfl ni_M ny_M nq_M nn_M (by decide) rfl rfl rfl rfl (Nat.le_of_ble_eq_true rfl) d_M_digits_67 (fun H locs hw => ?_)
    obtain ⟨M11, eM11⟩ : ∃ z, z = ms_I M9 19 13 t10 := ⟨_, rfl⟩
    rw [← eM11] at hw
    have h := h M11 eM11
    exact w_M_digits_70 hfl K k7 hk7 x1 x2 M11 _ _ _ h (lv_sub hl [0, 1, 2] rfl) hw
theorem w_M_digits_128 {post : Int32 → nf_M → Prop} (hfl : l.flags = flags0) (K : nf_K p s m args meth c "NumberForgeModel" nb_M_digits 3 (some FieldType.int) D a sz) : ∀ (xy0 : Int32) (M : nf_M) (H : Heap) (locs : List Loc) (ls : Array Slot), B_M_digits_128 post xy0 M → lv_has ls 3 [] → nf_W D a s sz H locs M → W p l e rm_M_digits s m args below meth c H locs 0 0 (nf_MQ below (nf_Q nf_jI D a post ex (nf_A a sz)) args s rm_M_digits.cells rm_M_digits.slots (nf_A a sz)) (F0 m 128 ls [.int xy0]) := by
  have hx := K.1
  have hb := K.2.1
  intro xy0 M H locs ls h hl hw
  exact nf_iret K hw d_M_digits_128 rfl (Nat.le_of_ble_eq_true rfl) (Nat.le_of_ble_eq_true rfl) (r := xy0) rfl h
theorem w_M_digits_108 {post : Int32 → nf_M → Prop} (hfl : l.flags = flags0) (K : nf_K p s m args meth c "NumberForgeModel" nb_M_digits 3 (some FieldType.int) D a sz) : ∀ (x2 : Int32) (M : nf_M) (H : Heap) (locs : List Loc) (ls : Array Slot), B_M_digits_108 post x2 M → lv_has ls 3 [(0, .ref (a 19)), (2, .int x2)] → nf_W D a s sz H locs M → W p l e rm_M_digits s m args below meth c H locs 0 0 (nf_MQ below (nf_Q nf_jI D a post ex (nf_A a sz)) args s rm_M_digits.cells rm_M_digits.slots (nf_A a sz)) (F0 m 108 ls []) := by
  have hx := K.1
  have hb := K.2.1
  intro x2 M H locs ls h hl hw
  refine lv_aload_n hx hb d_M_digits_108 rfl (lv_at hl 0 rfl) ?_
  refine nf_get (v := .int (mg_I M 19 13)) K hw 19 7 13 nw_944 rfl rfl ni_M (by decide) rfl rfl d_M_digits_109 ?_
  refine nf_if_ne hx hb d_M_digits_112 (tgt := 119) (by decide) (fun hc => ?_) (fun hc => ?_)
  · have h := h.1 hc
    refine lv_iconst (v := (-1 : Int32)) hx hb d_M_digits_115 (by decide) ?_
    refine lv_goto hx hb d_M_digits_116 (tgt := 128) (by decide) ?_
    exact w_M_digits_128 hfl K (-1 : Int32) M _ _ _ h (lv_sub hl [] rfl) hw
  · have h := h.2 hc
    refine lv_iload_n hx hb d_M_digits_119 rfl (lv_at hl 1 rfl) ?_
    refine nf_if_ge hx hb d_M_digits_120 (tgt := 127) (by decide) (fun hc => ?_) (fun hc => ?_)
    · have h := h.1 hc
      refine lv_iconst (v := (0 : Int32)) hx hb d_M_digits_123 (by decide) ?_
      refine lv_goto hx hb d_M_digits_124 (tgt := 128) (by decide) ?_
      exact w_M_digits_128 hfl K (0 : Int32) M _ _ _ h (lv_sub hl [] rfl) hw
    · have h := h.2 hc
      refine lv_iload_n hx hb d_M_digits_127 rfl (lv_at hl 1 rfl) ?_
      exact w_M_digits_128 hfl K x2 M _ _ _ h (lv_sub hl [] rfl) hw
theorem w_M_digits_7 {post : Int32 → nf_M → Prop} (hfl : l.flags = flags0) (K : nf_K p s m args meth c "NumberForgeModel" nb_M_digits 3 (some FieldType.int) D a sz) : ∀ (n : Nat) (x1 : Int32) (x2 : Int32) (M : nf_M) (H : Heap) (locs : List Loc) (ls : Array Slot), B_M_digits_7 post n x1 x2 M → lv_has ls 3 [(0, .ref (a 19)), (1, .int x1), (2, .int x2)] → nf_W D a s sz H locs M → W p l e rm_M_digits s m args below meth c H locs 0 0 (nf_MQ below (nf_Q nf_jI D a post ex (nf_A a sz)) args s rm_M_digits.cells rm_M_digits.slots (nf_A a sz)) (F0 m 7 ls []) := by
  have hx := K.1
  have hb := K.2.1
  intro n
  induction n with
  | zero => intro x1 x2 M H locs ls h hl hw; exact h.elim
  | succ n ih =>
    intro x1 x2 M H locs ls h hl hw
    refine lv_aload_n hx hb d_M_digits_7 rfl (lv_at hl 0 rfl) ?_
    refine nf_callW (ex := (fun _ _ => False)) (As := [.ref (a 19)]) (st0 := [.ref (a 19)]) (rest := []) K hw (nf_invV hx hb K.2.2.2.1 (nf_Kg K nw_1018) (nf_Kg K nw_1020) (nf_Kg K nx_M_here) (nf_Kg K nw_1021) ⟨by decide, by decide⟩ (nf_rcv K hw 19 7 rfl rfl) rfl nl_M_here rfl d_M_digits_8) (c_M_here l hfl ) nw_1021 nw_9 rfl ⟨by decide, by decide⟩ (Nat.le_of_ble_eq_true rfl) hl.1 ⟨Nat.le_of_ble_eq_true rfl, Nat.le_of_ble_eq_true rfl⟩ h (fun _ _ h => h.elim) (fun r1 M2 H locs h hw => ?_)
    refine W.eq (g2 := F0 m 11 ls [.int r1]) rfl ?_
    refine nf_callW (ex := (fun _ _ => False)) (As := [.int r1]) (st0 := [.int r1]) (rest := []) K hw (nf_invS hx hb K.2.2.2.1 (nf_Kg K nw_1026) (nf_Kg K nw_1027) (nf_Kg K nw_9) (nf_Kg K nw_1028) ⟨by decide, by decide⟩ rfl nl_M_isDigit rfl d_M_digits_11) (c_M_isDigit l hfl r1) nw_1028 nw_9 rfl ⟨by decide, by decide⟩ (Nat.le_of_ble_eq_true rfl) hl.1 ⟨Nat.le_of_ble_eq_true rfl, Nat.le_of_ble_eq_true rfl⟩ h (fun _ _ h => h.elim) (fun r3 M4 H locs h hw => ?_)
    refine W.eq (g2 := F0 m 14 ls [.int r3]) rfl ?_
    refine nf_if_ne hx hb d_M_digits_14 (tgt := 34) (by decide) (fun hc => ?_) (fun hc => ?_)
    · have h := h.1 hc
      refine lv_iload_n hx hb d_M_digits_17 rfl (lv_at hl 1 rfl) ?_
      refine nf_if_eq hx hb d_M_digits_18 (tgt := 108) (by decide) (fun hc => ?_) (fun hc => ?_)
      · have h := h.1 hc
        exact w_M_digits_108 hfl K x2 M4 _ _ _ h (lv_sub hl [0, 2] rfl) hw
      · have h := h.2 hc
        refine lv_iload_n hx hb d_M_digits_21 rfl (lv_at hl 2 rfl) ?_
        refine nf_if_ge hx hb d_M_digits_22 (tgt := 108) (by decide) (fun hc => ?_) (fun hc => ?_)
        · have h := h.1 hc
          refine lv_aload_n hx hb d_M_digits_25 rfl (lv_at hl 0 rfl) ?_
          refine nf_callW (ex := (fun _ _ => False)) (As := [.ref (a 19)]) (st0 := [.ref (a 19)]) (rest := []) K hw (nf_invV hx hb K.2.2.2.1 (nf_Kg K nw_1018) (nf_Kg K nw_1020) (nf_Kg K nx_M_here) (nf_Kg K nw_1021) ⟨by decide, by decide⟩ (nf_rcv K hw 19 7 rfl rfl) rfl nl_M_here rfl d_M_digits_26) (c_M_here l hfl ) nw_1021 nw_9 rfl ⟨by decide, by decide⟩ (Nat.le_of_ble_eq_true rfl) hl.1 ⟨Nat.le_of_ble_eq_true rfl, Nat.le_of_ble_eq_true rfl⟩ h (fun _ _ h => h.elim) (fun r5 M6 H locs h hw => ?_)
          refine W.eq (g2 := F0 m 29 ls [.int r5]) rfl ?_
          refine lv_bipush (v := (46 : Int32)) hx hb d_M_digits_29 (by decide) ?_
          refine nf_ic_ne hx hb d_M_digits_31 (tgt := 108) (by decide) (fun hc => ?_) (fun hc => ?_)
          · have h := h.1 hc
            exact w_M_digits_34 hfl K (fun x1 x2 z => B_M_digits_7 post n x1 x2 z) (fun x1 x2 z H locs ls hh hll hww => ih x1 x2 z H locs ls hh hll hww) x1 x2 M6 _ _ _ h (lv_sub hl [0, 1, 2] rfl) hw
          · have h := h.2 hc
            exact w_M_digits_108 hfl K x2 M6 _ _ _ h (lv_sub hl [0, 2] rfl) hw
        · have h := h.2 hc
          exact w_M_digits_108 hfl K x2 M4 _ _ _ h (lv_sub hl [0, 2] rfl) hw
    · have h := h.2 hc
      exact w_M_digits_34 hfl K (fun x1 x2 z => B_M_digits_7 post n x1 x2 z) (fun x1 x2 z H locs ls hh hll hww => ih x1 x2 z H locs ls hh hll hww) x1 x2 M4 _ _ _ h (lv_sub hl [0, 1, 2] rfl) hw
theorem c_M_digits (l : Launch) (hfl : l.flags = flags0) (x1 : Int32) : nf_C nf_jI l nm_M_digits nb_M_digits 3 (some FieldType.int) rm_M_digits (fun a => [.ref (a 19), .int x1]) (fun M post ex => P_M_digits x1 M post) := by
  refine nf_start (plainFor_of_name (by decide +kernel)) (fun a => Nat.le_of_ble_eq_true rfl) ?_
  intro D a sz M post ex p e s m below meth c ls h K hl hw
  have hx := K.1
  have hb := K.2.1
  have hl : lv_has ls 3 [(0, .ref (a 19)), (1, .int x1)] := hl
  refine lv_aload_n hx hb d_M_digits_0 rfl (lv_at hl 0 rfl) ?_
  refine lv_iconst (v := (0 : Int32)) hx hb d_M_digits_1 (by decide) ?_
  refine nf_put (M' := ms_I M 19 13 (0 : Int32)) K hw 19 7 13 nw_944 rfl rfl rfl ni_M ny_M nq_M nn_M (by decide) rfl rfl rfl rfl (Nat.le_of_ble_eq_true rfl) d_M_digits_2 (fun H locs hw => ?_)
  obtain ⟨M1, eM1⟩ : ∃ z, z = ms_I M 19 13 (0 : Int32) := ⟨_, rfl⟩
  rw [← eM1] at hw
  have h := h M1 eM1
  refine lv_iconst (v := (-1 : Int32)) hx hb d_M_digits_5 (by decide) ?_
  refine lv_istore_n (lv' := [(2, .int (-1 : Int32)), (0, .ref (a 19)), (1, .int x1)]) hx hb d_M_digits_6 rfl hl (by decide) rfl (fun ls hl => ?_)
  obtain ⟨n, h⟩ := h
  exact w_M_digits_7 hfl K n x1 (-1 : Int32) M1 _ _ _ h (lv_sub hl [1, 2, 0] rfl) hw
theorem d_M_gather_0 : decode nb_M_gather 0 = .ok (.lconst 0, 1) := by decide +kernel
theorem d_M_gather_1 : decode nb_M_gather 1 = .ok (.lstore_n 1, 1) := by decide +kernel
theorem d_M_gather_2 : decode nb_M_gather 2 = .ok (.iconst 0, 1) := by decide +kernel
theorem d_M_gather_3 : decode nb_M_gather 3 = .ok (.istore_n 3, 1) := by decide +kernel
theorem d_M_gather_4 : decode nb_M_gather 4 = .ok (.iload_n 3, 1) := by decide +kernel
theorem d_M_gather_5 : decode nb_M_gather 5 = .ok (.aload_n 0, 1) := by decide +kernel
theorem d_M_gather_6 : decode nb_M_gather 6 = .ok (.getfield 62, 3) := by decide +kernel
theorem d_M_gather_9 : decode nb_M_gather 9 = .ok (.if_icmp .ge 55, 3) := by decide +kernel
theorem d_M_gather_12 : decode nb_M_gather 12 = .ok (.aload_n 0, 1) := by decide +kernel
theorem d_M_gather_13 : decode nb_M_gather 13 = .ok (.lload_n 1, 1) := by decide +kernel
theorem d_M_gather_14 : decode nb_M_gather 14 = .ok (.ldc2_w 65, 3) := by decide +kernel
theorem d_M_gather_17 : decode nb_M_gather 17 = .ok (.lcmp, 1) := by decide +kernel
theorem d_M_gather_18 : decode nb_M_gather 18 = .ok (.ifCond .lt 7, 3) := by decide +kernel
theorem d_M_gather_21 : decode nb_M_gather 21 = .ok (.iconst 5, 1) := by decide +kernel
theorem d_M_gather_22 : decode nb_M_gather 22 = .ok (.goto 7, 3) := by decide +kernel
theorem d_M_gather_25 : decode nb_M_gather 25 = .ok (.aload_n 0, 1) := by decide +kernel
theorem d_M_gather_26 : decode nb_M_gather 26 = .ok (.getfield 67, 3) := by decide +kernel
theorem d_M_gather_29 : decode nb_M_gather 29 = .ok (.putfield 67, 3) := by decide +kernel
theorem d_M_gather_32 : decode nb_M_gather 32 = .ok (.aload_n 0, 1) := by decide +kernel
theorem d_M_gather_33 : decode nb_M_gather 33 = .ok (.getfield 67, 3) := by decide +kernel
theorem d_M_gather_36 : decode nb_M_gather 36 = .ok (.iconst 5, 1) := by decide +kernel
theorem d_M_gather_37 : decode nb_M_gather 37 = .ok (.if_icmp .ne 7, 3) := by decide +kernel
theorem d_M_gather_40 : decode nb_M_gather 40 = .ok (.lconst 0, 1) := by decide +kernel
theorem d_M_gather_41 : decode nb_M_gather 41 = .ok (.goto 16, 3) := by decide +kernel
theorem d_M_gather_44 : decode nb_M_gather 44 = .ok (.ldc2_w 40, 3) := by decide +kernel
theorem d_M_gather_47 : decode nb_M_gather 47 = .ok (.lload_n 1, 1) := by decide +kernel
theorem d_M_gather_48 : decode nb_M_gather 48 = .ok (.lmul, 1) := by decide +kernel
theorem d_M_gather_49 : decode nb_M_gather 49 = .ok (.aload_n 0, 1) := by decide +kernel
theorem d_M_gather_50 : decode nb_M_gather 50 = .ok (.getfield 30, 3) := by decide +kernel
theorem d_M_gather_53 : decode nb_M_gather 53 = .ok (.iload_n 3, 1) := by decide +kernel
theorem d_M_gather_54 : decode nb_M_gather 54 = .ok (.iaload, 1) := by decide +kernel
theorem d_M_gather_55 : decode nb_M_gather 55 = .ok (.i2l, 1) := by decide +kernel
theorem d_M_gather_56 : decode nb_M_gather 56 = .ok (.ladd, 1) := by decide +kernel
theorem d_M_gather_57 : decode nb_M_gather 57 = .ok (.lstore_n 1, 1) := by decide +kernel
theorem d_M_gather_58 : decode nb_M_gather 58 = .ok (.iinc 3 1, 3) := by decide +kernel
theorem d_M_gather_61 : decode nb_M_gather 61 = .ok (.goto (-57), 3) := by decide +kernel
theorem d_M_gather_64 : decode nb_M_gather 64 = .ok (.lload_n 1, 1) := by decide +kernel
theorem d_M_gather_65 : decode nb_M_gather 65 = .ok (.lreturn, 1) := by decide +kernel
abbrev rm_M_gather : Room := ({ frames := 0, cells := 0, slots := 0, locals := 0 })
theorem w_M_gather_57 {post : Int64 → nf_M → Prop} (hfl : l.flags = flags0) (K : nf_K p s m args meth c "NumberForgeModel" nb_M_gather 4 (some FieldType.long) D a sz) (k4 : Int64 → Int32 → nf_M → Prop) (hk4 : ∀ (x1 : Int64) (x3 : Int32) (M : nf_M) (H : Heap) (locs : List Loc) (ls : Array Slot), k4 x1 x3 M → lv_has ls 4 [(0, .ref (a 19)), (1, .long x1), (3, .int x3)] → nf_W D a s sz H locs M → W p l e rm_M_gather s m args below meth c H locs 0 0 (nf_MQ below (nf_Q nf_jJ D a post ex (nf_A a sz)) args s rm_M_gather.cells rm_M_gather.slots (nf_A a sz)) (F0 m 4 ls [])) : ∀ (x3 : Int32) (xy0 : Int64) (M : nf_M) (H : Heap) (locs : List Loc) (ls : Array Slot), B_M_gather_57 k4 post x3 xy0 M → lv_has ls 4 [(0, .ref (a 19)), (3, .int x3)] → nf_W D a s sz H locs M → W p l e rm_M_gather s m args below meth c H locs 0 0 (nf_MQ below (nf_Q nf_jJ D a post ex (nf_A a sz)) args s rm_M_gather.cells rm_M_gather.slots (nf_A a sz)) (F0 m 57 ls [.long xy0]) := by
  have hx := K.1
  have hb := K.2.1
  intro x3 xy0 M H locs ls h hl hw
  refine lv_lstore_n (lv' := [(1, .long xy0), (0, .ref (a 19)), (3, .int x3)]) hx hb d_M_gather_57 rfl hl (by decide) rfl (fun ls hl => ?_)
  refine lv_iinc (k := 2) (v := x3 + (1 : Int32)) (lv' := [(3, .int (x3 + (1 : Int32))), (1, .long xy0), (0, .ref (a 19))]) hx hb d_M_gather_58 hl rfl (nf_inc (by decide)) (by decide) rfl (fun ls hl => ?_)
  refine lv_goto hx hb d_M_gather_61 (tgt := 4) (by decide) ?_
  exact hk4 xy0 (x3 + (1 : Int32)) M _ _ _ h (lv_sub hl [2, 1, 0] rfl) hw
theorem w_M_gather_29 {post : Int64 → nf_M → Prop} (hfl : l.flags = flags0) (K : nf_K p s m args meth c "NumberForgeModel" nb_M_gather 4 (some FieldType.long) D a sz) (k4 : Int64 → Int32 → nf_M → Prop) (hk4 : ∀ (x1 : Int64) (x3 : Int32) (M : nf_M) (H : Heap) (locs : List Loc) (ls : Array Slot), k4 x1 x3 M → lv_has ls 4 [(0, .ref (a 19)), (1, .long x1), (3, .int x3)] → nf_W D a s sz H locs M → W p l e rm_M_gather s m args below meth c H locs 0 0 (nf_MQ below (nf_Q nf_jJ D a post ex (nf_A a sz)) args s rm_M_gather.cells rm_M_gather.slots (nf_A a sz)) (F0 m 4 ls [])) : ∀ (x1 : Int64) (x3 : Int32) (xy0 : Int32) (M : nf_M) (H : Heap) (locs : List Loc) (ls : Array Slot), B_M_gather_29 k4 post x1 x3 xy0 M → lv_has ls 4 [(0, .ref (a 19)), (1, .long x1), (3, .int x3)] → nf_W D a s sz H locs M → W p l e rm_M_gather s m args below meth c H locs 0 0 (nf_MQ below (nf_Q nf_jJ D a post ex (nf_A a sz)) args s rm_M_gather.cells rm_M_gather.slots (nf_A a sz)) (F0 m 29 ls [.int xy0, .ref (a 19)]) := by
  have hx := K.1
  have hb := K.2.1
  intro x1 x3 xy0 M H locs ls h hl hw
  refine nf_put (M' := ms_I M 19 9 xy0) K hw 19 7 9 nw_940 rfl rfl rfl ni_M ny_M nq_M nn_M (by decide) rfl rfl rfl rfl (Nat.le_of_ble_eq_true rfl) d_M_gather_29 (fun H locs hw => ?_)
  obtain ⟨M1, eM1⟩ : ∃ z, z = ms_I M 19 9 xy0 := ⟨_, rfl⟩
  rw [← eM1] at hw
  have h := h M1 eM1
  refine lv_aload_n hx hb d_M_gather_32 rfl (lv_at hl 0 rfl) ?_
  refine nf_get (v := .int (mg_I M1 19 9)) K hw 19 7 9 nw_940 rfl rfl ni_M (by decide) rfl rfl d_M_gather_33 ?_
  refine lv_iconst (v := (5 : Int32)) hx hb d_M_gather_36 (by decide) ?_
  refine nf_ic_ne hx hb d_M_gather_37 (tgt := 44) (by decide) (fun hc => ?_) (fun hc => ?_)
  · have h := h.1 hc
    refine lv_lconst (v := (0 : Int64)) hx hb d_M_gather_40 (by decide) ?_
    refine lv_goto hx hb d_M_gather_41 (tgt := 57) (by decide) ?_
    exact w_M_gather_57 hfl K k4 hk4 x3 (0 : Int64) M1 _ _ _ h (lv_sub hl [0, 2] rfl) hw
  · have h := h.2 hc
    refine lv_ldc2 (v := (10 : Int64)) hx hb K.2.2.2.1 (nf_Kg K nw_1038) d_M_gather_44 ?_
    refine lv_lload_n hx hb d_M_gather_47 rfl (lv_at hl 1 rfl) ?_
    refine lv_lmul hx hb d_M_gather_48 ?_
    refine lv_aload_n hx hb d_M_gather_49 rfl (lv_at hl 0 rfl) ?_
    refine nf_get (v := .ref (a 26)) K hw 19 7 14 nw_945 rfl rfl ni_M (by decide) rfl rfl d_M_gather_50 ?_
    refine lv_iload_n hx hb d_M_gather_53 rfl (lv_at hl 2 rfl) ?_
    obtain ⟨g2, h⟩ := h
    refine nf_iald K hw 26 9 rfl rfl g2 d_M_gather_54 ?_
    refine lv_i2l hx hb d_M_gather_55 rfl ?_
    refine lv_ladd hx hb d_M_gather_56 ?_
    exact w_M_gather_57 hfl K k4 hk4 x3 (((10 : Int64) * x1) + ((mg_I M1 26 x3.toNatClampNeg).toInt64)) M1 _ _ _ h (lv_sub hl [0, 2] rfl) hw
theorem w_M_gather_4 {post : Int64 → nf_M → Prop} (hfl : l.flags = flags0) (K : nf_K p s m args meth c "NumberForgeModel" nb_M_gather 4 (some FieldType.long) D a sz) : ∀ (n : Nat) (x1 : Int64) (x3 : Int32) (M : nf_M) (H : Heap) (locs : List Loc) (ls : Array Slot), B_M_gather_4 post n x1 x3 M → lv_has ls 4 [(0, .ref (a 19)), (1, .long x1), (3, .int x3)] → nf_W D a s sz H locs M → W p l e rm_M_gather s m args below meth c H locs 0 0 (nf_MQ below (nf_Q nf_jJ D a post ex (nf_A a sz)) args s rm_M_gather.cells rm_M_gather.slots (nf_A a sz)) (F0 m 4 ls []) := by
  have hx := K.1
  have hb := K.2.1
  intro n
  induction n with
  | zero => intro x1 x3 M H locs ls h hl hw; exact h.elim
  | succ n ih =>
    intro x1 x3 M H locs ls h hl hw
    refine lv_iload_n hx hb d_M_gather_4 rfl (lv_at hl 2 rfl) ?_
    refine lv_aload_n hx hb d_M_gather_5 rfl (lv_at hl 0 rfl) ?_
    refine nf_get (v := .int (mg_I M 19 13)) K hw 19 7 13 nw_944 rfl rfl ni_M (by decide) rfl rfl d_M_gather_6 ?_
    refine nf_ic_ge hx hb d_M_gather_9 (tgt := 64) (by decide) (fun hc => ?_) (fun hc => ?_)
    · have h := h.1 hc
      refine lv_aload_n hx hb d_M_gather_12 rfl (lv_at hl 0 rfl) ?_
      refine lv_lload_n hx hb d_M_gather_13 rfl (lv_at hl 1 rfl) ?_
      refine lv_ldc2 (v := (100000000000000 : Int64)) hx hb K.2.2.2.1 (nf_Kg K nw_1037) d_M_gather_14 ?_
      refine nf_lc_lt hx hb d_M_gather_17 d_M_gather_18 (tgt := 25) (by decide) (fun hc => ?_) (fun hc => ?_)
      · have h := h.1 hc
        refine lv_aload_n hx hb d_M_gather_25 rfl (lv_at hl 0 rfl) ?_
        refine nf_get (v := .int (mg_I M 19 9)) K hw 19 7 9 nw_940 rfl rfl ni_M (by decide) rfl rfl d_M_gather_26 ?_
        exact w_M_gather_29 hfl K (fun x1 x3 z => B_M_gather_4 post n x1 x3 z) (fun x1 x3 z H locs ls hh hll hww => ih x1 x3 z H locs ls hh hll hww) x1 x3 (mg_I M 19 9) M _ _ _ h (lv_sub hl [0, 1, 2] rfl) hw
      · have h := h.2 hc
        refine lv_iconst (v := (5 : Int32)) hx hb d_M_gather_21 (by decide) ?_
        refine lv_goto hx hb d_M_gather_22 (tgt := 29) (by decide) ?_
        exact w_M_gather_29 hfl K (fun x1 x3 z => B_M_gather_4 post n x1 x3 z) (fun x1 x3 z H locs ls hh hll hww => ih x1 x3 z H locs ls hh hll hww) x1 x3 (5 : Int32) M _ _ _ h (lv_sub hl [0, 1, 2] rfl) hw
    · have h := h.2 hc
      refine lv_lload_n hx hb d_M_gather_64 rfl (lv_at hl 1 rfl) ?_
      exact nf_lret K hw d_M_gather_65 (Nat.le_of_ble_eq_true rfl) (Nat.le_of_ble_eq_true rfl) (r := x1) rfl h
theorem c_M_gather (l : Launch) (hfl : l.flags = flags0) : nf_C nf_jJ l nm_M_gather nb_M_gather 4 (some FieldType.long) rm_M_gather (fun a => [.ref (a 19)]) (fun M post ex => P_M_gather  M post) := by
  refine nf_start (plainFor_of_name (by decide +kernel)) (fun a => Nat.le_of_ble_eq_true rfl) ?_
  intro D a sz M post ex p e s m below meth c ls h K hl hw
  have hx := K.1
  have hb := K.2.1
  have hl : lv_has ls 4 [(0, .ref (a 19))] := hl
  refine lv_lconst (v := (0 : Int64)) hx hb d_M_gather_0 (by decide) ?_
  refine lv_lstore_n (lv' := [(1, .long (0 : Int64)), (0, .ref (a 19))]) hx hb d_M_gather_1 rfl hl (by decide) rfl (fun ls hl => ?_)
  refine lv_iconst (v := (0 : Int32)) hx hb d_M_gather_2 (by decide) ?_
  refine lv_istore_n (lv' := [(3, .int (0 : Int32)), (1, .long (0 : Int64)), (0, .ref (a 19))]) hx hb d_M_gather_3 rfl hl (by decide) rfl (fun ls hl => ?_)
  obtain ⟨n, h⟩ := h
  exact w_M_gather_4 hfl K n (0 : Int64) (0 : Int32) M _ _ _ h (lv_sub hl [2, 1, 0] rfl) hw
theorem d_M_settle_0 : decode nb_M_settle 0 = .ok (.iload_n 3, 1) := by decide +kernel
theorem d_M_settle_1 : decode nb_M_settle 1 = .ok (.istore 4, 2) := by decide +kernel
theorem d_M_settle_3 : decode nb_M_settle 3 = .ok (.iload_n 2, 1) := by decide +kernel
theorem d_M_settle_4 : decode nb_M_settle 4 = .ok (.istore 5, 2) := by decide +kernel
theorem d_M_settle_6 : decode nb_M_settle 6 = .ok (.iload 5, 2) := by decide +kernel
theorem d_M_settle_8 : decode nb_M_settle 8 = .ok (.bipush 6, 2) := by decide +kernel
theorem d_M_settle_10 : decode nb_M_settle 10 = .ok (.if_icmp .le 80, 3) := by decide +kernel
theorem d_M_settle_13 : decode nb_M_settle 13 = .ok (.aload_n 0, 1) := by decide +kernel
theorem d_M_settle_14 : decode nb_M_settle 14 = .ok (.getfield 30, 3) := by decide +kernel
theorem d_M_settle_17 : decode nb_M_settle 17 = .ok (.aload_n 0, 1) := by decide +kernel
theorem d_M_settle_18 : decode nb_M_settle 18 = .ok (.getfield 62, 3) := by decide +kernel
theorem d_M_settle_21 : decode nb_M_settle 21 = .ok (.iconst 1, 1) := by decide +kernel
theorem d_M_settle_22 : decode nb_M_settle 22 = .ok (.isub, 1) := by decide +kernel
theorem d_M_settle_23 : decode nb_M_settle 23 = .ok (.iaload, 1) := by decide +kernel
theorem d_M_settle_24 : decode nb_M_settle 24 = .ok (.istore 6, 2) := by decide +kernel
theorem d_M_settle_26 : decode nb_M_settle 26 = .ok (.iload 6, 2) := by decide +kernel
theorem d_M_settle_28 : decode nb_M_settle 28 = .ok (.iconst 5, 1) := by decide +kernel
theorem d_M_settle_29 : decode nb_M_settle 29 = .ok (.if_icmp .gt 14, 3) := by decide +kernel
theorem d_M_settle_32 : decode nb_M_settle 32 = .ok (.iload 6, 2) := by decide +kernel
theorem d_M_settle_34 : decode nb_M_settle 34 = .ok (.iconst 5, 1) := by decide +kernel
theorem d_M_settle_35 : decode nb_M_settle 35 = .ok (.if_icmp .ne 12, 3) := by decide +kernel
theorem d_M_settle_38 : decode nb_M_settle 38 = .ok (.iload 4, 2) := by decide +kernel
theorem d_M_settle_40 : decode nb_M_settle 40 = .ok (.ifCond .le 7, 3) := by decide +kernel
theorem d_M_settle_43 : decode nb_M_settle 43 = .ok (.iconst 3, 1) := by decide +kernel
theorem d_M_settle_44 : decode nb_M_settle 44 = .ok (.goto 28, 3) := by decide +kernel
theorem d_M_settle_47 : decode nb_M_settle 47 = .ok (.iload 6, 2) := by decide +kernel
theorem d_M_settle_49 : decode nb_M_settle 49 = .ok (.iconst 5, 1) := by decide +kernel
theorem d_M_settle_50 : decode nb_M_settle 50 = .ok (.if_icmp .ne 7, 3) := by decide +kernel
theorem d_M_settle_53 : decode nb_M_settle 53 = .ok (.iconst 2, 1) := by decide +kernel
theorem d_M_settle_54 : decode nb_M_settle 54 = .ok (.goto 18, 3) := by decide +kernel
theorem d_M_settle_57 : decode nb_M_settle 57 = .ok (.iload 6, 2) := by decide +kernel
theorem d_M_settle_59 : decode nb_M_settle 59 = .ok (.ifCond .gt 8, 3) := by decide +kernel
theorem d_M_settle_62 : decode nb_M_settle 62 = .ok (.iload 4, 2) := by decide +kernel
theorem d_M_settle_64 : decode nb_M_settle 64 = .ok (.ifCond .le 7, 3) := by decide +kernel
theorem d_M_settle_67 : decode nb_M_settle 67 = .ok (.iconst 1, 1) := by decide +kernel
theorem d_M_settle_68 : decode nb_M_settle 68 = .ok (.goto 4, 3) := by decide +kernel
theorem d_M_settle_71 : decode nb_M_settle 71 = .ok (.iconst 0, 1) := by decide +kernel
theorem d_M_settle_72 : decode nb_M_settle 72 = .ok (.istore 4, 2) := by decide +kernel
theorem d_M_settle_74 : decode nb_M_settle 74 = .ok (.aload_n 0, 1) := by decide +kernel
theorem d_M_settle_75 : decode nb_M_settle 75 = .ok (.dup, 1) := by decide +kernel
theorem d_M_settle_76 : decode nb_M_settle 76 = .ok (.getfield 62, 3) := by decide +kernel
theorem d_M_settle_79 : decode nb_M_settle 79 = .ok (.iconst 1, 1) := by decide +kernel
theorem d_M_settle_80 : decode nb_M_settle 80 = .ok (.isub, 1) := by decide +kernel
theorem d_M_settle_81 : decode nb_M_settle 81 = .ok (.putfield 62, 3) := by decide +kernel
theorem d_M_settle_84 : decode nb_M_settle 84 = .ok (.iinc 5 (-1), 3) := by decide +kernel
theorem d_M_settle_87 : decode nb_M_settle 87 = .ok (.goto (-81), 3) := by decide +kernel
theorem d_M_settle_90 : decode nb_M_settle 90 = .ok (.iload 4, 2) := by decide +kernel
theorem d_M_settle_92 : decode nb_M_settle 92 = .ok (.iconst 3, 1) := by decide +kernel
theorem d_M_settle_93 : decode nb_M_settle 93 = .ok (.if_icmp .eq 26, 3) := by decide +kernel
theorem d_M_settle_96 : decode nb_M_settle 96 = .ok (.iload 4, 2) := by decide +kernel
theorem d_M_settle_98 : decode nb_M_settle 98 = .ok (.iconst 2, 1) := by decide +kernel
theorem d_M_settle_99 : decode nb_M_settle 99 = .ok (.if_icmp .ne 24, 3) := by decide +kernel
theorem d_M_settle_102 : decode nb_M_settle 102 = .ok (.aload_n 0, 1) := by decide +kernel
theorem d_M_settle_103 : decode nb_M_settle 103 = .ok (.getfield 30, 3) := by decide +kernel
theorem d_M_settle_106 : decode nb_M_settle 106 = .ok (.aload_n 0, 1) := by decide +kernel
theorem d_M_settle_107 : decode nb_M_settle 107 = .ok (.getfield 62, 3) := by decide +kernel
theorem d_M_settle_110 : decode nb_M_settle 110 = .ok (.iconst 1, 1) := by decide +kernel
theorem d_M_settle_111 : decode nb_M_settle 111 = .ok (.isub, 1) := by decide +kernel
theorem d_M_settle_112 : decode nb_M_settle 112 = .ok (.iaload, 1) := by decide +kernel
theorem d_M_settle_113 : decode nb_M_settle 113 = .ok (.iconst 2, 1) := by decide +kernel
theorem d_M_settle_114 : decode nb_M_settle 114 = .ok (.irem, 1) := by decide +kernel
theorem d_M_settle_115 : decode nb_M_settle 115 = .ok (.iconst 1, 1) := by decide +kernel
theorem d_M_settle_116 : decode nb_M_settle 116 = .ok (.if_icmp .ne 7, 3) := by decide +kernel
theorem d_M_settle_119 : decode nb_M_settle 119 = .ok (.iconst 1, 1) := by decide +kernel
theorem d_M_settle_120 : decode nb_M_settle 120 = .ok (.goto 4, 3) := by decide +kernel
theorem d_M_settle_123 : decode nb_M_settle 123 = .ok (.iconst 0, 1) := by decide +kernel
theorem d_M_settle_124 : decode nb_M_settle 124 = .ok (.istore 6, 2) := by decide +kernel
theorem d_M_settle_126 : decode nb_M_settle 126 = .ok (.aload_n 0, 1) := by decide +kernel
theorem d_M_settle_127 : decode nb_M_settle 127 = .ok (.getfield 62, 3) := by decide +kernel
theorem d_M_settle_130 : decode nb_M_settle 130 = .ok (.iconst 1, 1) := by decide +kernel
theorem d_M_settle_131 : decode nb_M_settle 131 = .ok (.isub, 1) := by decide +kernel
theorem d_M_settle_132 : decode nb_M_settle 132 = .ok (.istore 7, 2) := by decide +kernel
theorem d_M_settle_134 : decode nb_M_settle 134 = .ok (.iload 7, 2) := by decide +kernel
theorem d_M_settle_136 : decode nb_M_settle 136 = .ok (.ifCond .lt 63, 3) := by decide +kernel
theorem d_M_settle_139 : decode nb_M_settle 139 = .ok (.iload 6, 2) := by decide +kernel
theorem d_M_settle_141 : decode nb_M_settle 141 = .ok (.ifCond .eq 58, 3) := by decide +kernel
theorem d_M_settle_144 : decode nb_M_settle 144 = .ok (.aload_n 0, 1) := by decide +kernel
theorem d_M_settle_145 : decode nb_M_settle 145 = .ok (.getfield 30, 3) := by decide +kernel
theorem d_M_settle_148 : decode nb_M_settle 148 = .ok (.iload 7, 2) := by decide +kernel
theorem d_M_settle_150 : decode nb_M_settle 150 = .ok (.aload_n 0, 1) := by decide +kernel
theorem d_M_settle_151 : decode nb_M_settle 151 = .ok (.getfield 30, 3) := by decide +kernel
theorem d_M_settle_154 : decode nb_M_settle 154 = .ok (.iload 7, 2) := by decide +kernel
theorem d_M_settle_156 : decode nb_M_settle 156 = .ok (.iaload, 1) := by decide +kernel
theorem d_M_settle_157 : decode nb_M_settle 157 = .ok (.bipush 9, 2) := by decide +kernel
theorem d_M_settle_159 : decode nb_M_settle 159 = .ok (.if_icmp .ne 7, 3) := by decide +kernel
theorem d_M_settle_162 : decode nb_M_settle 162 = .ok (.iconst 0, 1) := by decide +kernel
theorem d_M_settle_163 : decode nb_M_settle 163 = .ok (.goto 12, 3) := by decide +kernel
theorem d_M_settle_166 : decode nb_M_settle 166 = .ok (.aload_n 0, 1) := by decide +kernel
theorem d_M_settle_167 : decode nb_M_settle 167 = .ok (.getfield 30, 3) := by decide +kernel
theorem d_M_settle_170 : decode nb_M_settle 170 = .ok (.iload 7, 2) := by decide +kernel
theorem d_M_settle_172 : decode nb_M_settle 172 = .ok (.iaload, 1) := by decide +kernel
theorem d_M_settle_173 : decode nb_M_settle 173 = .ok (.iconst 1, 1) := by decide +kernel
theorem d_M_settle_174 : decode nb_M_settle 174 = .ok (.iadd, 1) := by decide +kernel
theorem d_M_settle_175 : decode nb_M_settle 175 = .ok (.iastore, 1) := by decide +kernel
theorem d_M_settle_176 : decode nb_M_settle 176 = .ok (.aload_n 0, 1) := by decide +kernel
theorem d_M_settle_177 : decode nb_M_settle 177 = .ok (.getfield 30, 3) := by decide +kernel
theorem d_M_settle_180 : decode nb_M_settle 180 = .ok (.iload 7, 2) := by decide +kernel
theorem d_M_settle_182 : decode nb_M_settle 182 = .ok (.iaload, 1) := by decide +kernel
theorem d_M_settle_183 : decode nb_M_settle 183 = .ok (.ifCond .ne 7, 3) := by decide +kernel
theorem d_M_settle_186 : decode nb_M_settle 186 = .ok (.iconst 1, 1) := by decide +kernel
theorem d_M_settle_187 : decode nb_M_settle 187 = .ok (.goto 4, 3) := by decide +kernel
theorem d_M_settle_190 : decode nb_M_settle 190 = .ok (.iconst 0, 1) := by decide +kernel
theorem d_M_settle_191 : decode nb_M_settle 191 = .ok (.istore 6, 2) := by decide +kernel
theorem d_M_settle_193 : decode nb_M_settle 193 = .ok (.iinc 7 (-1), 3) := by decide +kernel
theorem d_M_settle_196 : decode nb_M_settle 196 = .ok (.goto (-62), 3) := by decide +kernel
theorem d_M_settle_199 : decode nb_M_settle 199 = .ok (.iload 5, 2) := by decide +kernel
theorem d_M_settle_201 : decode nb_M_settle 201 = .ok (.ifCond .le 33, 3) := by decide +kernel
theorem d_M_settle_204 : decode nb_M_settle 204 = .ok (.aload_n 0, 1) := by decide +kernel
theorem d_M_settle_205 : decode nb_M_settle 205 = .ok (.getfield 30, 3) := by decide +kernel
theorem d_M_settle_208 : decode nb_M_settle 208 = .ok (.aload_n 0, 1) := by decide +kernel
theorem d_M_settle_209 : decode nb_M_settle 209 = .ok (.getfield 62, 3) := by decide +kernel
theorem d_M_settle_212 : decode nb_M_settle 212 = .ok (.iconst 1, 1) := by decide +kernel
theorem d_M_settle_213 : decode nb_M_settle 213 = .ok (.isub, 1) := by decide +kernel
theorem d_M_settle_214 : decode nb_M_settle 214 = .ok (.iaload, 1) := by decide +kernel
theorem d_M_settle_215 : decode nb_M_settle 215 = .ok (.ifCond .ne 19, 3) := by decide +kernel
theorem d_M_settle_218 : decode nb_M_settle 218 = .ok (.aload_n 0, 1) := by decide +kernel
theorem d_M_settle_219 : decode nb_M_settle 219 = .ok (.dup, 1) := by decide +kernel
theorem d_M_settle_220 : decode nb_M_settle 220 = .ok (.getfield 62, 3) := by decide +kernel
theorem d_M_settle_223 : decode nb_M_settle 223 = .ok (.iconst 1, 1) := by decide +kernel
theorem d_M_settle_224 : decode nb_M_settle 224 = .ok (.isub, 1) := by decide +kernel
theorem d_M_settle_225 : decode nb_M_settle 225 = .ok (.putfield 62, 3) := by decide +kernel
theorem d_M_settle_228 : decode nb_M_settle 228 = .ok (.iinc 5 (-1), 3) := by decide +kernel
theorem d_M_settle_231 : decode nb_M_settle 231 = .ok (.goto (-32), 3) := by decide +kernel
theorem d_M_settle_234 : decode nb_M_settle 234 = .ok (.aload_n 0, 1) := by decide +kernel
theorem d_M_settle_235 : decode nb_M_settle 235 = .ok (.invokevirtual 70, 3) := by decide +kernel
theorem d_M_settle_238 : decode nb_M_settle 238 = .ok (.lstore 7, 2) := by decide +kernel
theorem d_M_settle_240 : decode nb_M_settle 240 = .ok (.aload_n 0, 1) := by decide +kernel
theorem d_M_settle_241 : decode nb_M_settle 241 = .ok (.iload_n 1, 1) := by decide +kernel
theorem d_M_settle_242 : decode nb_M_settle 242 = .ok (.ifCond .eq 9, 3) := by decide +kernel
theorem d_M_settle_245 : decode nb_M_settle 245 = .ok (.lload 7, 2) := by decide +kernel
theorem d_M_settle_247 : decode nb_M_settle 247 = .ok (.lneg, 1) := by decide +kernel
theorem d_M_settle_248 : decode nb_M_settle 248 = .ok (.goto 5, 3) := by decide +kernel
theorem d_M_settle_251 : decode nb_M_settle 251 = .ok (.lload 7, 2) := by decide +kernel
theorem d_M_settle_253 : decode nb_M_settle 253 = .ok (.putfield 74, 3) := by decide +kernel
theorem d_M_settle_256 : decode nb_M_settle 256 = .ok (.aload_n 0, 1) := by decide +kernel
theorem d_M_settle_257 : decode nb_M_settle 257 = .ok (.iload 5, 2) := by decide +kernel
theorem d_M_settle_259 : decode nb_M_settle 259 = .ok (.putfield 78, 3) := by decide +kernel
theorem d_M_settle_262 : decode nb_M_settle 262 = .ok (.return_, 1) := by decide +kernel
abbrev rm_M_settle : Room := ({ frames := 1, cells := 0, slots := 0, locals := 23 })
theorem w_M_settle_72 {post : Unit → nf_M → Prop} (hfl : l.flags = flags0) (K : nf_K p s m args meth c "NumberForgeModel" nb_M_settle 9 none D a sz) (k6 : Int32 → Int32 → Int32 → nf_M → Prop) (hk6 : ∀ (x1 : Int32) (x4 : Int32) (x5 : Int32) (M : nf_M) (H : Heap) (locs : List Loc) (ls : Array Slot), k6 x1 x4 x5 M → lv_has ls 9 [(0, .ref (a 19)), (1, .int x1), (4, .int x4), (5, .int x5)] → nf_W D a s sz H locs M → W p l e rm_M_settle s m args below meth c H locs 0 0 (nf_MQ below (nf_Q nf_jN D a post ex (nf_A a sz)) args s rm_M_settle.cells rm_M_settle.slots (nf_A a sz)) (F0 m 6 ls [])) : ∀ (x1 : Int32) (x5 : Int32) (xy0 : Int32) (M : nf_M) (H : Heap) (locs : List Loc) (ls : Array Slot), B_M_settle_72 k6 post x1 x5 xy0 M → lv_has ls 9 [(0, .ref (a 19)), (1, .int x1), (5, .int x5)] → nf_W D a s sz H locs M → W p l e rm_M_settle s m args below meth c H locs 0 0 (nf_MQ below (nf_Q nf_jN D a post ex (nf_A a sz)) args s rm_M_settle.cells rm_M_settle.slots (nf_A a sz)) (F0 m 72 ls [.int xy0]) := by
  have hx := K.1
  have hb := K.2.1
  intro x1 x5 xy0 M H locs ls h hl hw
  refine lv_istore (lv' := [(4, .int xy0), (0, .ref (a 19)), (1, .int x1), (5, .int x5)]) hx hb d_M_settle_72 hl (by decide) rfl (fun ls hl => ?_)
  refine lv_aload_n hx hb d_M_settle_74 rfl (lv_at hl 1 rfl) ?_
  refine lv_dup hx hb d_M_settle_75 rfl ?_
  refine nf_get (v := .int (mg_I M 19 13)) K hw 19 7 13 nw_944 rfl rfl ni_M (by decide) rfl rfl d_M_settle_76 ?_
  refine lv_iconst (v := (1 : Int32)) hx hb d_M_settle_79 (by decide) ?_
  refine lv_isub hx hb d_M_settle_80 ?_
  refine lv_topi (fun t1 et1 => ?_)
  have h := h t1 et1
  refine nf_put (M' := ms_I M 19 13 t1) K hw 19 7 13 nw_944 rfl rfl rfl ni_M ny_M nq_M nn_M (by decide) rfl rfl rfl rfl (Nat.le_of_ble_eq_true rfl) d_M_settle_81 (fun H locs hw => ?_)
  obtain ⟨M2, eM2⟩ : ∃ z, z = ms_I M 19 13 t1 := ⟨_, rfl⟩
  rw [← eM2] at hw
  have h := h M2 eM2
  refine lv_iinc (k := 3) (v := x5 + (-1 : Int32)) (lv' := [(5, .int (x5 + (-1 : Int32))), (4, .int xy0), (0, .ref (a 19)), (1, .int x1)]) hx hb d_M_settle_84 hl rfl (nf_inc (by decide)) (by decide) rfl (fun ls hl => ?_)
  refine lv_goto hx hb d_M_settle_87 (tgt := 6) (by decide) ?_
  exact hk6 x1 xy0 (x5 + (-1 : Int32)) M2 _ _ _ h (lv_sub hl [2, 3, 1, 0] rfl) hw
theorem w_M_settle_43 {post : Unit → nf_M → Prop} (hfl : l.flags = flags0) (K : nf_K p s m args meth c "NumberForgeModel" nb_M_settle 9 none D a sz) (k6 : Int32 → Int32 → Int32 → nf_M → Prop) (hk6 : ∀ (x1 : Int32) (x4 : Int32) (x5 : Int32) (M : nf_M) (H : Heap) (locs : List Loc) (ls : Array Slot), k6 x1 x4 x5 M → lv_has ls 9 [(0, .ref (a 19)), (1, .int x1), (4, .int x4), (5, .int x5)] → nf_W D a s sz H locs M → W p l e rm_M_settle s m args below meth c H locs 0 0 (nf_MQ below (nf_Q nf_jN D a post ex (nf_A a sz)) args s rm_M_settle.cells rm_M_settle.slots (nf_A a sz)) (F0 m 6 ls [])) : ∀ (x1 : Int32) (x5 : Int32) (M : nf_M) (H : Heap) (locs : List Loc) (ls : Array Slot), B_M_settle_43 k6 post x1 x5 M → lv_has ls 9 [(0, .ref (a 19)), (1, .int x1), (5, .int x5)] → nf_W D a s sz H locs M → W p l e rm_M_settle s m args below meth c H locs 0 0 (nf_MQ below (nf_Q nf_jN D a post ex (nf_A a sz)) args s rm_M_settle.cells rm_M_settle.slots (nf_A a sz)) (F0 m 43 ls []) := by
  have hx := K.1
  have hb := K.2.1
  intro x1 x5 M H locs ls h hl hw
  refine lv_iconst (v := (3 : Int32)) hx hb d_M_settle_43 (by decide) ?_
  refine lv_goto hx hb d_M_settle_44 (tgt := 72) (by decide) ?_
  exact w_M_settle_72 hfl K k6 hk6 x1 x5 (3 : Int32) M _ _ _ h (lv_sub hl [0, 1, 2] rfl) hw
theorem w_M_settle_67 {post : Unit → nf_M → Prop} (hfl : l.flags = flags0) (K : nf_K p s m args meth c "NumberForgeModel" nb_M_settle 9 none D a sz) (k6 : Int32 → Int32 → Int32 → nf_M → Prop) (hk6 : ∀ (x1 : Int32) (x4 : Int32) (x5 : Int32) (M : nf_M) (H : Heap) (locs : List Loc) (ls : Array Slot), k6 x1 x4 x5 M → lv_has ls 9 [(0, .ref (a 19)), (1, .int x1), (4, .int x4), (5, .int x5)] → nf_W D a s sz H locs M → W p l e rm_M_settle s m args below meth c H locs 0 0 (nf_MQ below (nf_Q nf_jN D a post ex (nf_A a sz)) args s rm_M_settle.cells rm_M_settle.slots (nf_A a sz)) (F0 m 6 ls [])) : ∀ (x1 : Int32) (x5 : Int32) (M : nf_M) (H : Heap) (locs : List Loc) (ls : Array Slot), B_M_settle_67 k6 post x1 x5 M → lv_has ls 9 [(0, .ref (a 19)), (1, .int x1), (5, .int x5)] → nf_W D a s sz H locs M → W p l e rm_M_settle s m args below meth c H locs 0 0 (nf_MQ below (nf_Q nf_jN D a post ex (nf_A a sz)) args s rm_M_settle.cells rm_M_settle.slots (nf_A a sz)) (F0 m 67 ls []) := by
  have hx := K.1
  have hb := K.2.1
  intro x1 x5 M H locs ls h hl hw
  refine lv_iconst (v := (1 : Int32)) hx hb d_M_settle_67 (by decide) ?_
  refine lv_goto hx hb d_M_settle_68 (tgt := 72) (by decide) ?_
  exact w_M_settle_72 hfl K k6 hk6 x1 x5 (1 : Int32) M _ _ _ h (lv_sub hl [0, 1, 2] rfl) hw
theorem w_M_settle_47 {post : Unit → nf_M → Prop} (hfl : l.flags = flags0) (K : nf_K p s m args meth c "NumberForgeModel" nb_M_settle 9 none D a sz) (k6 : Int32 → Int32 → Int32 → nf_M → Prop) (hk6 : ∀ (x1 : Int32) (x4 : Int32) (x5 : Int32) (M : nf_M) (H : Heap) (locs : List Loc) (ls : Array Slot), k6 x1 x4 x5 M → lv_has ls 9 [(0, .ref (a 19)), (1, .int x1), (4, .int x4), (5, .int x5)] → nf_W D a s sz H locs M → W p l e rm_M_settle s m args below meth c H locs 0 0 (nf_MQ below (nf_Q nf_jN D a post ex (nf_A a sz)) args s rm_M_settle.cells rm_M_settle.slots (nf_A a sz)) (F0 m 6 ls [])) : ∀ (x1 : Int32) (x4 : Int32) (x5 : Int32) (x6 : Int32) (M : nf_M) (H : Heap) (locs : List Loc) (ls : Array Slot), B_M_settle_47 k6 post x1 x4 x5 x6 M → lv_has ls 9 [(0, .ref (a 19)), (1, .int x1), (4, .int x4), (5, .int x5), (6, .int x6)] → nf_W D a s sz H locs M → W p l e rm_M_settle s m args below meth c H locs 0 0 (nf_MQ below (nf_Q nf_jN D a post ex (nf_A a sz)) args s rm_M_settle.cells rm_M_settle.slots (nf_A a sz)) (F0 m 47 ls []) := by
  have hx := K.1
  have hb := K.2.1
  intro x1 x4 x5 x6 M H locs ls h hl hw
  refine lv_iload hx hb d_M_settle_47 (lv_at hl 4 rfl) ?_
  refine lv_iconst (v := (5 : Int32)) hx hb d_M_settle_49 (by decide) ?_
  refine nf_ic_ne hx hb d_M_settle_50 (tgt := 57) (by decide) (fun hc => ?_) (fun hc => ?_)
  · have h := h.1 hc
    refine lv_iconst (v := (2 : Int32)) hx hb d_M_settle_53 (by decide) ?_
    refine lv_goto hx hb d_M_settle_54 (tgt := 72) (by decide) ?_
    exact w_M_settle_72 hfl K k6 hk6 x1 x5 (2 : Int32) M _ _ _ h (lv_sub hl [0, 1, 3] rfl) hw
  · have h := h.2 hc
    refine lv_iload hx hb d_M_settle_57 (lv_at hl 4 rfl) ?_
    refine nf_if_gt hx hb d_M_settle_59 (tgt := 67) (by decide) (fun hc => ?_) (fun hc => ?_)
    · have h := h.1 hc
      exact w_M_settle_67 hfl K k6 hk6 x1 x5 M _ _ _ h (lv_sub hl [0, 1, 3] rfl) hw
    · have h := h.2 hc
      refine lv_iload hx hb d_M_settle_62 (lv_at hl 2 rfl) ?_
      refine nf_if_le hx hb d_M_settle_64 (tgt := 71) (by decide) (fun hc => ?_) (fun hc => ?_)
      · have h := h.1 hc
        exact w_M_settle_67 hfl K k6 hk6 x1 x5 M _ _ _ h (lv_sub hl [0, 1, 3] rfl) hw
      · have h := h.2 hc
        refine lv_iconst (v := (0 : Int32)) hx hb d_M_settle_71 (by decide) ?_
        exact w_M_settle_72 hfl K k6 hk6 x1 x5 (0 : Int32) M _ _ _ h (lv_sub hl [0, 1, 3] rfl) hw
theorem w_M_settle_191 {post : Unit → nf_M → Prop} (hfl : l.flags = flags0) (K : nf_K p s m args meth c "NumberForgeModel" nb_M_settle 9 none D a sz) (k134 : Int32 → Int32 → Int32 → Int32 → nf_M → Prop) (hk134 : ∀ (x1 : Int32) (x5 : Int32) (x6 : Int32) (x7 : Int32) (M : nf_M) (H : Heap) (locs : List Loc) (ls : Array Slot), k134 x1 x5 x6 x7 M → lv_has ls 9 [(0, .ref (a 19)), (1, .int x1), (5, .int x5), (6, .int x6), (7, .int x7)] → nf_W D a s sz H locs M → W p l e rm_M_settle s m args below meth c H locs 0 0 (nf_MQ below (nf_Q nf_jN D a post ex (nf_A a sz)) args s rm_M_settle.cells rm_M_settle.slots (nf_A a sz)) (F0 m 134 ls [])) : ∀ (x1 : Int32) (x5 : Int32) (x7 : Int32) (xy0 : Int32) (M : nf_M) (H : Heap) (locs : List Loc) (ls : Array Slot), B_M_settle_191 k134 post x1 x5 x7 xy0 M → lv_has ls 9 [(0, .ref (a 19)), (1, .int x1), (5, .int x5), (7, .int x7)] → nf_W D a s sz H locs M → W p l e rm_M_settle s m args below meth c H locs 0 0 (nf_MQ below (nf_Q nf_jN D a post ex (nf_A a sz)) args s rm_M_settle.cells rm_M_settle.slots (nf_A a sz)) (F0 m 191 ls [.int xy0]) := by
  have hx := K.1
  have hb := K.2.1
  intro x1 x5 x7 xy0 M H locs ls h hl hw
  refine lv_istore (lv' := [(6, .int xy0), (0, .ref (a 19)), (1, .int x1), (5, .int x5), (7, .int x7)]) hx hb d_M_settle_191 hl (by decide) rfl (fun ls hl => ?_)
  refine lv_iinc (k := 4) (v := x7 + (-1 : Int32)) (lv' := [(7, .int (x7 + (-1 : Int32))), (6, .int xy0), (0, .ref (a 19)), (1, .int x1), (5, .int x5)]) hx hb d_M_settle_193 hl rfl (nf_inc (by decide)) (by decide) rfl (fun ls hl => ?_)
  refine lv_goto hx hb d_M_settle_196 (tgt := 134) (by decide) ?_
  exact hk134 x1 x5 xy0 (x7 + (-1 : Int32)) M _ _ _ h (lv_sub hl [2, 3, 4, 1, 0] rfl) hw
theorem w_M_settle_175 {post : Unit → nf_M → Prop} (hfl : l.flags = flags0) (K : nf_K p s m args meth c "NumberForgeModel" nb_M_settle 9 none D a sz) (k134 : Int32 → Int32 → Int32 → Int32 → nf_M → Prop) (hk134 : ∀ (x1 : Int32) (x5 : Int32) (x6 : Int32) (x7 : Int32) (M : nf_M) (H : Heap) (locs : List Loc) (ls : Array Slot), k134 x1 x5 x6 x7 M → lv_has ls 9 [(0, .ref (a 19)), (1, .int x1), (5, .int x5), (6, .int x6), (7, .int x7)] → nf_W D a s sz H locs M → W p l e rm_M_settle s m args below meth c H locs 0 0 (nf_MQ below (nf_Q nf_jN D a post ex (nf_A a sz)) args s rm_M_settle.cells rm_M_settle.slots (nf_A a sz)) (F0 m 134 ls [])) : ∀ (x1 : Int32) (x5 : Int32) (x7 : Int32) (xy0 : Int32) (xy1 : Int32) (M : nf_M) (H : Heap) (locs : List Loc) (ls : Array Slot), B_M_settle_175 k134 post x1 x5 x7 xy0 xy1 M → lv_has ls 9 [(0, .ref (a 19)), (1, .int x1), (5, .int x5), (7, .int x7)] → nf_W D a s sz H locs M → W p l e rm_M_settle s m args below meth c H locs 0 0 (nf_MQ below (nf_Q nf_jN D a post ex (nf_A a sz)) args s rm_M_settle.cells rm_M_settle.slots (nf_A a sz)) (F0 m 175 ls [.int xy0, .int xy1, .ref (a 26)]) := by
  have hx := K.1
  have hb := K.2.1
  intro x1 x5 x7 xy0 xy1 M H locs ls h hl hw
  obtain ⟨g1, h⟩ := h
  refine nf_iast (M' := ms_I M 26 xy1.toNatClampNeg xy0) K hw 26 9 rfl rfl g1 rfl d_M_settle_175 (fun H locs hw => ?_)
  obtain ⟨M2, eM2⟩ : ∃ z, z = ms_I M 26 xy1.toNatClampNeg xy0 := ⟨_, rfl⟩
  rw [← eM2] at hw
  have h := h M2 eM2
  refine lv_aload_n hx hb d_M_settle_176 rfl (lv_at hl 0 rfl) ?_
  refine nf_get (v := .ref (a 26)) K hw 19 7 14 nw_945 rfl rfl ni_M (by decide) rfl rfl d_M_settle_177 ?_
  refine lv_iload hx hb d_M_settle_180 (lv_at hl 3 rfl) ?_
  obtain ⟨g3, h⟩ := h
  refine nf_iald K hw 26 9 rfl rfl g3 d_M_settle_182 ?_
  refine nf_if_ne hx hb d_M_settle_183 (tgt := 190) (by decide) (fun hc => ?_) (fun hc => ?_)
  · have h := h.1 hc
    refine lv_iconst (v := (1 : Int32)) hx hb d_M_settle_186 (by decide) ?_
    refine lv_goto hx hb d_M_settle_187 (tgt := 191) (by decide) ?_
    exact w_M_settle_191 hfl K k134 hk134 x1 x5 x7 (1 : Int32) M2 _ _ _ h (lv_sub hl [0, 1, 2, 3] rfl) hw
  · have h := h.2 hc
    refine lv_iconst (v := (0 : Int32)) hx hb d_M_settle_190 (by decide) ?_
    exact w_M_settle_191 hfl K k134 hk134 x1 x5 x7 (0 : Int32) M2 _ _ _ h (lv_sub hl [0, 1, 2, 3] rfl) hw
theorem w_M_settle_253 {post : Unit → nf_M → Prop} (hfl : l.flags = flags0) (K : nf_K p s m args meth c "NumberForgeModel" nb_M_settle 9 none D a sz) : ∀ (x5 : Int32) (xy0 : Int64) (M : nf_M) (H : Heap) (locs : List Loc) (ls : Array Slot), B_M_settle_253 post x5 xy0 M → lv_has ls 9 [(0, .ref (a 19)), (5, .int x5)] → nf_W D a s sz H locs M → W p l e rm_M_settle s m args below meth c H locs 0 0 (nf_MQ below (nf_Q nf_jN D a post ex (nf_A a sz)) args s rm_M_settle.cells rm_M_settle.slots (nf_A a sz)) (F0 m 253 ls [.long xy0, .ref (a 19)]) := by
  have hx := K.1
  have hb := K.2.1
  intro x5 xy0 M H locs ls h hl hw
  refine nf_put (M' := ms_L M 19 10 xy0) K hw 19 7 10 nw_941 rfl rfl rfl ni_M ny_M nq_M nn_M (by decide) rfl rfl rfl rfl (Nat.le_of_ble_eq_true rfl) d_M_settle_253 (fun H locs hw => ?_)
  obtain ⟨M1, eM1⟩ : ∃ z, z = ms_L M 19 10 xy0 := ⟨_, rfl⟩
  rw [← eM1] at hw
  have h := h M1 eM1
  refine lv_aload_n hx hb d_M_settle_256 rfl (lv_at hl 0 rfl) ?_
  refine lv_iload hx hb d_M_settle_257 (lv_at hl 1 rfl) ?_
  refine nf_put (M' := ms_I M1 19 11 x5) K hw 19 7 11 nw_942 rfl rfl rfl ni_M ny_M nq_M nn_M (by decide) rfl rfl rfl rfl (Nat.le_of_ble_eq_true rfl) d_M_settle_259 (fun H locs hw => ?_)
  obtain ⟨M2, eM2⟩ : ∃ z, z = ms_I M1 19 11 x5 := ⟨_, rfl⟩
  rw [← eM2] at hw
  have h := h M2 eM2
  exact nf_vret K hw d_M_settle_262 (Nat.le_of_ble_eq_true rfl) (Nat.le_of_ble_eq_true rfl) (r := ()) rfl h
theorem w_M_settle_234 {post : Unit → nf_M → Prop} (hfl : l.flags = flags0) (K : nf_K p s m args meth c "NumberForgeModel" nb_M_settle 9 none D a sz) : ∀ (x1 : Int32) (x5 : Int32) (M : nf_M) (H : Heap) (locs : List Loc) (ls : Array Slot), B_M_settle_234 post x1 x5 M → lv_has ls 9 [(0, .ref (a 19)), (1, .int x1), (5, .int x5)] → nf_W D a s sz H locs M → W p l e rm_M_settle s m args below meth c H locs 0 0 (nf_MQ below (nf_Q nf_jN D a post ex (nf_A a sz)) args s rm_M_settle.cells rm_M_settle.slots (nf_A a sz)) (F0 m 234 ls []) := by
  have hx := K.1
  have hb := K.2.1
  intro x1 x5 M H locs ls h hl hw
  refine lv_aload_n hx hb d_M_settle_234 rfl (lv_at hl 0 rfl) ?_
  refine nf_callW (ex := (fun _ _ => False)) (As := [.ref (a 19)]) (st0 := [.ref (a 19)]) (rest := []) K hw (nf_invV hx hb K.2.2.2.1 (nf_Kg K nw_1033) (nf_Kg K nw_1035) (nf_Kg K nx_M_gather) (nf_Kg K nw_1036) ⟨by decide, by decide⟩ (nf_rcv K hw 19 7 rfl rfl) rfl nl_M_gather rfl d_M_settle_235) (c_M_gather l hfl ) nw_1036 nw_9 rfl ⟨by decide, by decide⟩ (Nat.le_of_ble_eq_true rfl) hl.1 ⟨Nat.le_of_ble_eq_true rfl, Nat.le_of_ble_eq_true rfl⟩ h (fun _ _ h => h.elim) (fun r1 M2 H locs h hw => ?_)
  refine W.eq (g2 := F0 m 238 ls [.long r1]) rfl ?_
  refine lv_lstore (lv' := [(7, .long r1), (0, .ref (a 19)), (1, .int x1), (5, .int x5)]) hx hb d_M_settle_238 hl (by decide) rfl (fun ls hl => ?_)
  refine lv_aload_n hx hb d_M_settle_240 rfl (lv_at hl 1 rfl) ?_
  refine lv_iload_n hx hb d_M_settle_241 rfl (lv_at hl 2 rfl) ?_
  refine nf_if_eq hx hb d_M_settle_242 (tgt := 251) (by decide) (fun hc => ?_) (fun hc => ?_)
  · have h := h.1 hc
    refine lv_lload hx hb d_M_settle_251 (lv_at hl 0 rfl) ?_
    exact w_M_settle_253 hfl K x5 r1 M2 _ _ _ h (lv_sub hl [1, 3] rfl) hw
  · have h := h.2 hc
    refine lv_lload hx hb d_M_settle_245 (lv_at hl 0 rfl) ?_
    refine lv_lneg hx hb d_M_settle_247 ?_
    refine lv_goto hx hb d_M_settle_248 (tgt := 253) (by decide) ?_
    exact w_M_settle_253 hfl K x5 (-r1) M2 _ _ _ h (lv_sub hl [1, 3] rfl) hw
theorem w_M_settle_199 {post : Unit → nf_M → Prop} (hfl : l.flags = flags0) (K : nf_K p s m args meth c "NumberForgeModel" nb_M_settle 9 none D a sz) : ∀ (n : Nat) (x1 : Int32) (x5 : Int32) (M : nf_M) (H : Heap) (locs : List Loc) (ls : Array Slot), B_M_settle_199 post n x1 x5 M → lv_has ls 9 [(0, .ref (a 19)), (1, .int x1), (5, .int x5)] → nf_W D a s sz H locs M → W p l e rm_M_settle s m args below meth c H locs 0 0 (nf_MQ below (nf_Q nf_jN D a post ex (nf_A a sz)) args s rm_M_settle.cells rm_M_settle.slots (nf_A a sz)) (F0 m 199 ls []) := by
  have hx := K.1
  have hb := K.2.1
  intro n
  induction n with
  | zero => intro x1 x5 M H locs ls h hl hw; exact h.elim
  | succ n ih =>
    intro x1 x5 M H locs ls h hl hw
    refine lv_iload hx hb d_M_settle_199 (lv_at hl 2 rfl) ?_
    refine nf_if_le hx hb d_M_settle_201 (tgt := 234) (by decide) (fun hc => ?_) (fun hc => ?_)
    · have h := h.1 hc
      refine lv_aload_n hx hb d_M_settle_204 rfl (lv_at hl 0 rfl) ?_
      refine nf_get (v := .ref (a 26)) K hw 19 7 14 nw_945 rfl rfl ni_M (by decide) rfl rfl d_M_settle_205 ?_
      refine lv_aload_n hx hb d_M_settle_208 rfl (lv_at hl 0 rfl) ?_
      refine nf_get (v := .int (mg_I M 19 13)) K hw 19 7 13 nw_944 rfl rfl ni_M (by decide) rfl rfl d_M_settle_209 ?_
      refine lv_iconst (v := (1 : Int32)) hx hb d_M_settle_212 (by decide) ?_
      refine lv_isub hx hb d_M_settle_213 ?_
      obtain ⟨g1, h⟩ := h
      refine nf_iald K hw 26 9 rfl rfl g1 d_M_settle_214 ?_
      refine nf_if_ne hx hb d_M_settle_215 (tgt := 234) (by decide) (fun hc => ?_) (fun hc => ?_)
      · have h := h.1 hc
        refine lv_aload_n hx hb d_M_settle_218 rfl (lv_at hl 0 rfl) ?_
        refine lv_dup hx hb d_M_settle_219 rfl ?_
        refine nf_get (v := .int (mg_I M 19 13)) K hw 19 7 13 nw_944 rfl rfl ni_M (by decide) rfl rfl d_M_settle_220 ?_
        refine lv_iconst (v := (1 : Int32)) hx hb d_M_settle_223 (by decide) ?_
        refine lv_isub hx hb d_M_settle_224 ?_
        refine lv_topi (fun t2 et2 => ?_)
        have h := h t2 et2
        refine nf_put (M' := ms_I M 19 13 t2) K hw 19 7 13 nw_944 rfl rfl rfl ni_M ny_M nq_M nn_M (by decide) rfl rfl rfl rfl (Nat.le_of_ble_eq_true rfl) d_M_settle_225 (fun H locs hw => ?_)
        obtain ⟨M3, eM3⟩ : ∃ z, z = ms_I M 19 13 t2 := ⟨_, rfl⟩
        rw [← eM3] at hw
        have h := h M3 eM3
        refine lv_iinc (k := 2) (v := x5 + (-1 : Int32)) (lv' := [(5, .int (x5 + (-1 : Int32))), (0, .ref (a 19)), (1, .int x1)]) hx hb d_M_settle_228 hl rfl (nf_inc (by decide)) (by decide) rfl (fun ls hl => ?_)
        refine lv_goto hx hb d_M_settle_231 (tgt := 199) (by decide) ?_
        exact ih x1 (x5 + (-1 : Int32)) M3 _ _ _ h (lv_sub hl [1, 2, 0] rfl) hw
      · have h := h.2 hc
        exact w_M_settle_234 hfl K x1 x5 M _ _ _ h (lv_sub hl [0, 1, 2] rfl) hw
    · have h := h.2 hc
      exact w_M_settle_234 hfl K x1 x5 M _ _ _ h (lv_sub hl [0, 1, 2] rfl) hw
theorem w_M_settle_134 {post : Unit → nf_M → Prop} (hfl : l.flags = flags0) (K : nf_K p s m args meth c "NumberForgeModel" nb_M_settle 9 none D a sz) : ∀ (n : Nat) (x1 : Int32) (x5 : Int32) (x6 : Int32) (x7 : Int32) (M : nf_M) (H : Heap) (locs : List Loc) (ls : Array Slot), B_M_settle_134 post n x1 x5 x6 x7 M → lv_has ls 9 [(0, .ref (a 19)), (1, .int x1), (5, .int x5), (6, .int x6), (7, .int x7)] → nf_W D a s sz H locs M → W p l e rm_M_settle s m args below meth c H locs 0 0 (nf_MQ below (nf_Q nf_jN D a post ex (nf_A a sz)) args s rm_M_settle.cells rm_M_settle.slots (nf_A a sz)) (F0 m 134 ls []) := by
  have hx := K.1
  have hb := K.2.1
  intro n
  induction n with
  | zero => intro x1 x5 x6 x7 M H locs ls h hl hw; exact h.elim
  | succ n ih =>
    intro x1 x5 x6 x7 M H locs ls h hl hw
    refine lv_iload hx hb d_M_settle_134 (lv_at hl 4 rfl) ?_
    refine nf_if_lt hx hb d_M_settle_136 (tgt := 199) (by decide) (fun hc => ?_) (fun hc => ?_)
    · have h := h.1 hc
      obtain ⟨n9, h⟩ := h
      exact w_M_settle_199 hfl K n9 x1 x5 M _ _ _ h (lv_sub hl [0, 1, 2] rfl) hw
    · have h := h.2 hc
      refine lv_iload hx hb d_M_settle_139 (lv_at hl 3 rfl) ?_
      refine nf_if_eq hx hb d_M_settle_141 (tgt := 199) (by decide) (fun hc => ?_) (fun hc => ?_)
      · have h := h.1 hc
        obtain ⟨n9, h⟩ := h
        exact w_M_settle_199 hfl K n9 x1 x5 M _ _ _ h (lv_sub hl [0, 1, 2] rfl) hw
      · have h := h.2 hc
        refine lv_aload_n hx hb d_M_settle_144 rfl (lv_at hl 0 rfl) ?_
        refine nf_get (v := .ref (a 26)) K hw 19 7 14 nw_945 rfl rfl ni_M (by decide) rfl rfl d_M_settle_145 ?_
        refine lv_iload hx hb d_M_settle_148 (lv_at hl 4 rfl) ?_
        refine lv_aload_n hx hb d_M_settle_150 rfl (lv_at hl 0 rfl) ?_
        refine nf_get (v := .ref (a 26)) K hw 19 7 14 nw_945 rfl rfl ni_M (by decide) rfl rfl d_M_settle_151 ?_
        refine lv_iload hx hb d_M_settle_154 (lv_at hl 4 rfl) ?_
        obtain ⟨g1, h⟩ := h
        refine nf_iald K hw 26 9 rfl rfl g1 d_M_settle_156 ?_
        refine lv_bipush (v := (9 : Int32)) hx hb d_M_settle_157 (by decide) ?_
        refine nf_ic_ne hx hb d_M_settle_159 (tgt := 166) (by decide) (fun hc => ?_) (fun hc => ?_)
        · have h := h.1 hc
          refine lv_iconst (v := (0 : Int32)) hx hb d_M_settle_162 (by decide) ?_
          refine lv_goto hx hb d_M_settle_163 (tgt := 175) (by decide) ?_
          exact w_M_settle_175 hfl K (fun x1 x5 x6 x7 z => B_M_settle_134 post n x1 x5 x6 x7 z) (fun x1 x5 x6 x7 z H locs ls hh hll hww => ih x1 x5 x6 x7 z H locs ls hh hll hww) x1 x5 x7 (0 : Int32) x7 M _ _ _ h (lv_sub hl [0, 1, 2, 4] rfl) hw
        · have h := h.2 hc
          refine lv_aload_n hx hb d_M_settle_166 rfl (lv_at hl 0 rfl) ?_
          refine nf_get (v := .ref (a 26)) K hw 19 7 14 nw_945 rfl rfl ni_M (by decide) rfl rfl d_M_settle_167 ?_
          refine lv_iload hx hb d_M_settle_170 (lv_at hl 4 rfl) ?_
          obtain ⟨g2, h⟩ := h
          refine nf_iald K hw 26 9 rfl rfl g2 d_M_settle_172 ?_
          refine lv_iconst (v := (1 : Int32)) hx hb d_M_settle_173 (by decide) ?_
          refine lv_iadd hx hb d_M_settle_174 ?_
          exact w_M_settle_175 hfl K (fun x1 x5 x6 x7 z => B_M_settle_134 post n x1 x5 x6 x7 z) (fun x1 x5 x6 x7 z H locs ls hh hll hww => ih x1 x5 x6 x7 z H locs ls hh hll hww) x1 x5 x7 ((mg_I M 26 x7.toNatClampNeg) + (1 : Int32)) x7 M _ _ _ h (lv_sub hl [0, 1, 2, 4] rfl) hw
theorem w_M_settle_124 {post : Unit → nf_M → Prop} (hfl : l.flags = flags0) (K : nf_K p s m args meth c "NumberForgeModel" nb_M_settle 9 none D a sz) : ∀ (x1 : Int32) (x5 : Int32) (xy0 : Int32) (M : nf_M) (H : Heap) (locs : List Loc) (ls : Array Slot), B_M_settle_124 post x1 x5 xy0 M → lv_has ls 9 [(0, .ref (a 19)), (1, .int x1), (5, .int x5)] → nf_W D a s sz H locs M → W p l e rm_M_settle s m args below meth c H locs 0 0 (nf_MQ below (nf_Q nf_jN D a post ex (nf_A a sz)) args s rm_M_settle.cells rm_M_settle.slots (nf_A a sz)) (F0 m 124 ls [.int xy0]) := by
  have hx := K.1
  have hb := K.2.1
  intro x1 x5 xy0 M H locs ls h hl hw
  refine lv_istore (lv' := [(6, .int xy0), (0, .ref (a 19)), (1, .int x1), (5, .int x5)]) hx hb d_M_settle_124 hl (by decide) rfl (fun ls hl => ?_)
  refine lv_aload_n hx hb d_M_settle_126 rfl (lv_at hl 1 rfl) ?_
  refine nf_get (v := .int (mg_I M 19 13)) K hw 19 7 13 nw_944 rfl rfl ni_M (by decide) rfl rfl d_M_settle_127 ?_
  refine lv_iconst (v := (1 : Int32)) hx hb d_M_settle_130 (by decide) ?_
  refine lv_isub hx hb d_M_settle_131 ?_
  refine lv_topi (fun t1 et1 => ?_)
  have h := h t1 et1
  refine lv_istore (lv' := [(7, .int t1), (6, .int xy0), (0, .ref (a 19)), (1, .int x1), (5, .int x5)]) hx hb d_M_settle_132 hl (by decide) rfl (fun ls hl => ?_)
  obtain ⟨n, h⟩ := h
  exact w_M_settle_134 hfl K n x1 x5 xy0 t1 M _ _ _ h (lv_sub hl [2, 3, 4, 1, 0] rfl) hw
theorem w_M_settle_119 {post : Unit → nf_M → Prop} (hfl : l.flags = flags0) (K : nf_K p s m args meth c "NumberForgeModel" nb_M_settle 9 none D a sz) : ∀ (x1 : Int32) (x5 : Int32) (M : nf_M) (H : Heap) (locs : List Loc) (ls : Array Slot), B_M_settle_119 post x1 x5 M → lv_has ls 9 [(0, .ref (a 19)), (1, .int x1), (5, .int x5)] → nf_W D a s sz H locs M → W p l e rm_M_settle s m args below meth c H locs 0 0 (nf_MQ below (nf_Q nf_jN D a post ex (nf_A a sz)) args s rm_M_settle.cells rm_M_settle.slots (nf_A a sz)) (F0 m 119 ls []) := by
  have hx := K.1
  have hb := K.2.1
  intro x1 x5 M H locs ls h hl hw
  refine lv_iconst (v := (1 : Int32)) hx hb d_M_settle_119 (by decide) ?_
  refine lv_goto hx hb d_M_settle_120 (tgt := 124) (by decide) ?_
  exact w_M_settle_124 hfl K x1 x5 (1 : Int32) M _ _ _ h (lv_sub hl [0, 1, 2] rfl) hw
theorem w_M_settle_123 {post : Unit → nf_M → Prop} (hfl : l.flags = flags0) (K : nf_K p s m args meth c "NumberForgeModel" nb_M_settle 9 none D a sz) : ∀ (x1 : Int32) (x5 : Int32) (M : nf_M) (H : Heap) (locs : List Loc) (ls : Array Slot), B_M_settle_123 post x1 x5 M → lv_has ls 9 [(0, .ref (a 19)), (1, .int x1), (5, .int x5)] → nf_W D a s sz H locs M → W p l e rm_M_settle s m args below meth c H locs 0 0 (nf_MQ below (nf_Q nf_jN D a post ex (nf_A a sz)) args s rm_M_settle.cells rm_M_settle.slots (nf_A a sz)) (F0 m 123 ls []) := by
  have hx := K.1
  have hb := K.2.1
  intro x1 x5 M H locs ls h hl hw
  refine lv_iconst (v := (0 : Int32)) hx hb d_M_settle_123 (by decide) ?_
  exact w_M_settle_124 hfl K x1 x5 (0 : Int32) M _ _ _ h (lv_sub hl [0, 1, 2] rfl) hw
theorem w_M_settle_6 {post : Unit → nf_M → Prop} (hfl : l.flags = flags0) (K : nf_K p s m args meth c "NumberForgeModel" nb_M_settle 9 none D a sz) : ∀ (n : Nat) (x1 : Int32) (x4 : Int32) (x5 : Int32) (M : nf_M) (H : Heap) (locs : List Loc) (ls : Array Slot), B_M_settle_6 post n x1 x4 x5 M → lv_has ls 9 [(0, .ref (a 19)), (1, .int x1), (4, .int x4), (5, .int x5)] → nf_W D a s sz H locs M → W p l e rm_M_settle s m args below meth c H locs 0 0 (nf_MQ below (nf_Q nf_jN D a post ex (nf_A a sz)) args s rm_M_settle.cells rm_M_settle.slots (nf_A a sz)) (F0 m 6 ls []) := by
  have hx := K.1
  have hb := K.2.1
  intro n
  induction n with
  | zero => intro x1 x4 x5 M H locs ls h hl hw; exact h.elim
  | succ n ih =>
    intro x1 x4 x5 M H locs ls h hl hw
    refine lv_iload hx hb d_M_settle_6 (lv_at hl 3 rfl) ?_
    refine lv_bipush (v := (6 : Int32)) hx hb d_M_settle_8 (by decide) ?_
    refine nf_ic_le hx hb d_M_settle_10 (tgt := 90) (by decide) (fun hc => ?_) (fun hc => ?_)
    · have h := h.1 hc
      refine lv_aload_n hx hb d_M_settle_13 rfl (lv_at hl 0 rfl) ?_
      refine nf_get (v := .ref (a 26)) K hw 19 7 14 nw_945 rfl rfl ni_M (by decide) rfl rfl d_M_settle_14 ?_
      refine lv_aload_n hx hb d_M_settle_17 rfl (lv_at hl 0 rfl) ?_
      refine nf_get (v := .int (mg_I M 19 13)) K hw 19 7 13 nw_944 rfl rfl ni_M (by decide) rfl rfl d_M_settle_18 ?_
      refine lv_iconst (v := (1 : Int32)) hx hb d_M_settle_21 (by decide) ?_
      refine lv_isub hx hb d_M_settle_22 ?_
      obtain ⟨g1, h⟩ := h
      refine nf_iald K hw 26 9 rfl rfl g1 d_M_settle_23 ?_
      refine lv_topi (fun t2 et2 => ?_)
      have h := h t2 et2
      refine lv_istore (lv' := [(6, .int t2), (0, .ref (a 19)), (1, .int x1), (4, .int x4), (5, .int x5)]) hx hb d_M_settle_24 hl (by decide) rfl (fun ls hl => ?_)
      refine lv_iload hx hb d_M_settle_26 (lv_at hl 0 rfl) ?_
      refine lv_iconst (v := (5 : Int32)) hx hb d_M_settle_28 (by decide) ?_
      refine nf_ic_gt hx hb d_M_settle_29 (tgt := 43) (by decide) (fun hc => ?_) (fun hc => ?_)
      · have h := h.1 hc
        exact w_M_settle_43 hfl K (fun x1 x4 x5 z => B_M_settle_6 post n x1 x4 x5 z) (fun x1 x4 x5 z H locs ls hh hll hww => ih x1 x4 x5 z H locs ls hh hll hww) x1 x5 M _ _ _ h (lv_sub hl [1, 2, 4] rfl) hw
      · have h := h.2 hc
        refine lv_iload hx hb d_M_settle_32 (lv_at hl 0 rfl) ?_
        refine lv_iconst (v := (5 : Int32)) hx hb d_M_settle_34 (by decide) ?_
        refine nf_ic_ne hx hb d_M_settle_35 (tgt := 47) (by decide) (fun hc => ?_) (fun hc => ?_)
        · have h := h.1 hc
          refine lv_iload hx hb d_M_settle_38 (lv_at hl 3 rfl) ?_
          refine nf_if_le hx hb d_M_settle_40 (tgt := 47) (by decide) (fun hc => ?_) (fun hc => ?_)
          · have h := h.1 hc
            exact w_M_settle_43 hfl K (fun x1 x4 x5 z => B_M_settle_6 post n x1 x4 x5 z) (fun x1 x4 x5 z H locs ls hh hll hww => ih x1 x4 x5 z H locs ls hh hll hww) x1 x5 M _ _ _ h (lv_sub hl [1, 2, 4] rfl) hw
          · have h := h.2 hc
            exact w_M_settle_47 hfl K (fun x1 x4 x5 z => B_M_settle_6 post n x1 x4 x5 z) (fun x1 x4 x5 z H locs ls hh hll hww => ih x1 x4 x5 z H locs ls hh hll hww) x1 x4 x5 t2 M _ _ _ h (lv_sub hl [1, 2, 3, 4, 0] rfl) hw
        · have h := h.2 hc
          exact w_M_settle_47 hfl K (fun x1 x4 x5 z => B_M_settle_6 post n x1 x4 x5 z) (fun x1 x4 x5 z H locs ls hh hll hww => ih x1 x4 x5 z H locs ls hh hll hww) x1 x4 x5 t2 M _ _ _ h (lv_sub hl [1, 2, 3, 4, 0] rfl) hw
    · have h := h.2 hc
      refine lv_iload hx hb d_M_settle_90 (lv_at hl 2 rfl) ?_
      refine lv_iconst (v := (3 : Int32)) hx hb d_M_settle_92 (by decide) ?_
      refine nf_ic_eq hx hb d_M_settle_93 (tgt := 119) (by decide) (fun hc => ?_) (fun hc => ?_)
      · have h := h.1 hc
        exact w_M_settle_119 hfl K x1 x5 M _ _ _ h (lv_sub hl [0, 1, 3] rfl) hw
      · have h := h.2 hc
        refine lv_iload hx hb d_M_settle_96 (lv_at hl 2 rfl) ?_
        refine lv_iconst (v := (2 : Int32)) hx hb d_M_settle_98 (by decide) ?_
        refine nf_ic_ne hx hb d_M_settle_99 (tgt := 123) (by decide) (fun hc => ?_) (fun hc => ?_)
        · have h := h.1 hc
          refine lv_aload_n hx hb d_M_settle_102 rfl (lv_at hl 0 rfl) ?_
          refine nf_get (v := .ref (a 26)) K hw 19 7 14 nw_945 rfl rfl ni_M (by decide) rfl rfl d_M_settle_103 ?_
          refine lv_aload_n hx hb d_M_settle_106 rfl (lv_at hl 0 rfl) ?_
          refine nf_get (v := .int (mg_I M 19 13)) K hw 19 7 13 nw_944 rfl rfl ni_M (by decide) rfl rfl d_M_settle_107 ?_
          refine lv_iconst (v := (1 : Int32)) hx hb d_M_settle_110 (by decide) ?_
          refine lv_isub hx hb d_M_settle_111 ?_
          obtain ⟨g3, h⟩ := h
          refine nf_iald K hw 26 9 rfl rfl g3 d_M_settle_112 ?_
          refine lv_iconst (v := (2 : Int32)) hx hb d_M_settle_113 (by decide) ?_
          refine lv_irem hx hb d_M_settle_114 (by decide) ?_
          refine lv_iconst (v := (1 : Int32)) hx hb d_M_settle_115 (by decide) ?_
          refine nf_ic_ne hx hb d_M_settle_116 (tgt := 123) (by decide) (fun hc => ?_) (fun hc => ?_)
          · have h := h.1 hc
            exact w_M_settle_119 hfl K x1 x5 M _ _ _ h (lv_sub hl [0, 1, 3] rfl) hw
          · have h := h.2 hc
            exact w_M_settle_123 hfl K x1 x5 M _ _ _ h (lv_sub hl [0, 1, 3] rfl) hw
        · have h := h.2 hc
          exact w_M_settle_123 hfl K x1 x5 M _ _ _ h (lv_sub hl [0, 1, 3] rfl) hw
theorem c_M_settle (l : Launch) (hfl : l.flags = flags0) (x1 : Int32) (x2 : Int32) (x3 : Int32) : nf_C nf_jN l nm_M_settle nb_M_settle 9 none rm_M_settle (fun a => [.ref (a 19), .int x1, .int x2, .int x3]) (fun M post ex => P_M_settle x1 x2 x3 M post) := by
  refine nf_start (plainFor_of_name (by decide +kernel)) (fun a => Nat.le_of_ble_eq_true rfl) ?_
  intro D a sz M post ex p e s m below meth c ls h K hl hw
  have hx := K.1
  have hb := K.2.1
  have hl : lv_has ls 9 [(0, .ref (a 19)), (1, .int x1), (2, .int x2), (3, .int x3)] := hl
  refine lv_iload_n hx hb d_M_settle_0 rfl (lv_at hl 3 rfl) ?_
  refine lv_istore (lv' := [(4, .int x3), (0, .ref (a 19)), (1, .int x1), (2, .int x2), (3, .int x3)]) hx hb d_M_settle_1 hl (by decide) rfl (fun ls hl => ?_)
  refine lv_iload_n hx hb d_M_settle_3 rfl (lv_at hl 3 rfl) ?_
  refine lv_istore (lv' := [(5, .int x2), (4, .int x3), (0, .ref (a 19)), (1, .int x1), (2, .int x2), (3, .int x3)]) hx hb d_M_settle_4 hl (by decide) rfl (fun ls hl => ?_)
  obtain ⟨n, h⟩ := h
  exact w_M_settle_6 hfl K n x1 x3 x2 M _ _ _ h (lv_sub hl [2, 3, 1, 0] rfl) hw
theorem d_M_fits_0 : decode nb_M_fits 0 = .ok (.iload_n 0, 1) := by decide +kernel
theorem d_M_fits_1 : decode nb_M_fits 1 = .ok (.iconst 2, 1) := by decide +kernel
theorem d_M_fits_2 : decode nb_M_fits 2 = .ok (.if_icmp .ne 9, 3) := by decide +kernel
theorem d_M_fits_5 : decode nb_M_fits 5 = .ok (.ldc2_w 48, 3) := by decide +kernel
theorem d_M_fits_8 : decode nb_M_fits 8 = .ok (.goto 36, 3) := by decide +kernel
theorem d_M_fits_11 : decode nb_M_fits 11 = .ok (.iload_n 0, 1) := by decide +kernel
theorem d_M_fits_12 : decode nb_M_fits 12 = .ok (.iconst 3, 1) := by decide +kernel
theorem d_M_fits_13 : decode nb_M_fits 13 = .ok (.if_icmp .ne 9, 3) := by decide +kernel
theorem d_M_fits_16 : decode nb_M_fits 16 = .ok (.ldc2_w 50, 3) := by decide +kernel
theorem d_M_fits_19 : decode nb_M_fits 19 = .ok (.goto 25, 3) := by decide +kernel
theorem d_M_fits_22 : decode nb_M_fits 22 = .ok (.iload_n 0, 1) := by decide +kernel
theorem d_M_fits_23 : decode nb_M_fits 23 = .ok (.iconst 4, 1) := by decide +kernel
theorem d_M_fits_24 : decode nb_M_fits 24 = .ok (.if_icmp .ne 9, 3) := by decide +kernel
theorem d_M_fits_27 : decode nb_M_fits 27 = .ok (.ldc2_w 52, 3) := by decide +kernel
theorem d_M_fits_30 : decode nb_M_fits 30 = .ok (.goto 14, 3) := by decide +kernel
theorem d_M_fits_33 : decode nb_M_fits 33 = .ok (.iload_n 0, 1) := by decide +kernel
theorem d_M_fits_34 : decode nb_M_fits 34 = .ok (.bipush 7, 2) := by decide +kernel
theorem d_M_fits_36 : decode nb_M_fits 36 = .ok (.if_icmp .ne 7, 3) := by decide +kernel
theorem d_M_fits_39 : decode nb_M_fits 39 = .ok (.lconst 1, 1) := by decide +kernel
theorem d_M_fits_40 : decode nb_M_fits 40 = .ok (.goto 4, 3) := by decide +kernel
theorem d_M_fits_43 : decode nb_M_fits 43 = .ok (.lconst 0, 1) := by decide +kernel
theorem d_M_fits_44 : decode nb_M_fits 44 = .ok (.lstore_n 3, 1) := by decide +kernel
theorem d_M_fits_45 : decode nb_M_fits 45 = .ok (.iload_n 0, 1) := by decide +kernel
theorem d_M_fits_46 : decode nb_M_fits 46 = .ok (.iconst 2, 1) := by decide +kernel
theorem d_M_fits_47 : decode nb_M_fits 47 = .ok (.if_icmp .ne 9, 3) := by decide +kernel
theorem d_M_fits_50 : decode nb_M_fits 50 = .ok (.ldc2_w 54, 3) := by decide +kernel
theorem d_M_fits_53 : decode nb_M_fits 53 = .ok (.goto 37, 3) := by decide +kernel
theorem d_M_fits_56 : decode nb_M_fits 56 = .ok (.iload_n 0, 1) := by decide +kernel
theorem d_M_fits_57 : decode nb_M_fits 57 = .ok (.iconst 3, 1) := by decide +kernel
theorem d_M_fits_58 : decode nb_M_fits 58 = .ok (.if_icmp .ne 9, 3) := by decide +kernel
theorem d_M_fits_61 : decode nb_M_fits 61 = .ok (.ldc2_w 56, 3) := by decide +kernel
theorem d_M_fits_64 : decode nb_M_fits 64 = .ok (.goto 26, 3) := by decide +kernel
theorem d_M_fits_67 : decode nb_M_fits 67 = .ok (.iload_n 0, 1) := by decide +kernel
theorem d_M_fits_68 : decode nb_M_fits 68 = .ok (.iconst 4, 1) := by decide +kernel
theorem d_M_fits_69 : decode nb_M_fits 69 = .ok (.if_icmp .ne 9, 3) := by decide +kernel
theorem d_M_fits_72 : decode nb_M_fits 72 = .ok (.ldc2_w 58, 3) := by decide +kernel
theorem d_M_fits_75 : decode nb_M_fits 75 = .ok (.goto 15, 3) := by decide +kernel
theorem d_M_fits_78 : decode nb_M_fits 78 = .ok (.iload_n 0, 1) := by decide +kernel
theorem d_M_fits_79 : decode nb_M_fits 79 = .ok (.iconst 5, 1) := by decide +kernel
theorem d_M_fits_80 : decode nb_M_fits 80 = .ok (.if_icmp .ne 9, 3) := by decide +kernel
theorem d_M_fits_83 : decode nb_M_fits 83 = .ok (.ldc2_w 60, 3) := by decide +kernel
theorem d_M_fits_86 : decode nb_M_fits 86 = .ok (.goto 4, 3) := by decide +kernel
theorem d_M_fits_89 : decode nb_M_fits 89 = .ok (.lload_n 1, 1) := by decide +kernel
theorem d_M_fits_90 : decode nb_M_fits 90 = .ok (.lstore 5, 2) := by decide +kernel
theorem d_M_fits_92 : decode nb_M_fits 92 = .ok (.iload_n 0, 1) := by decide +kernel
theorem d_M_fits_93 : decode nb_M_fits 93 = .ok (.iconst 2, 1) := by decide +kernel
theorem d_M_fits_94 : decode nb_M_fits 94 = .ok (.if_icmp .lt 16, 3) := by decide +kernel
theorem d_M_fits_97 : decode nb_M_fits 97 = .ok (.lload_n 1, 1) := by decide +kernel
theorem d_M_fits_98 : decode nb_M_fits 98 = .ok (.lload_n 3, 1) := by decide +kernel
theorem d_M_fits_99 : decode nb_M_fits 99 = .ok (.lcmp, 1) := by decide +kernel
theorem d_M_fits_100 : decode nb_M_fits 100 = .ok (.ifCond .lt 14, 3) := by decide +kernel
theorem d_M_fits_103 : decode nb_M_fits 103 = .ok (.lload_n 1, 1) := by decide +kernel
theorem d_M_fits_104 : decode nb_M_fits 104 = .ok (.lload 5, 2) := by decide +kernel
theorem d_M_fits_106 : decode nb_M_fits 106 = .ok (.lcmp, 1) := by decide +kernel
theorem d_M_fits_107 : decode nb_M_fits 107 = .ok (.ifCond .gt 7, 3) := by decide +kernel
theorem d_M_fits_110 : decode nb_M_fits 110 = .ok (.iconst 1, 1) := by decide +kernel
theorem d_M_fits_111 : decode nb_M_fits 111 = .ok (.goto 4, 3) := by decide +kernel
theorem d_M_fits_114 : decode nb_M_fits 114 = .ok (.iconst 0, 1) := by decide +kernel
theorem d_M_fits_115 : decode nb_M_fits 115 = .ok (.ireturn, 1) := by decide +kernel
abbrev rm_M_fits : Room := ({ frames := 0, cells := 0, slots := 0, locals := 0 })
theorem w_M_fits_115 {post : Int32 → nf_M → Prop} (hfl : l.flags = flags0) (K : nf_K p s m args meth c "NumberForgeModel" nb_M_fits 7 (some FieldType.boolean) D a sz) : ∀ (xy0 : Int32) (M : nf_M) (H : Heap) (locs : List Loc) (ls : Array Slot), B_M_fits_115 post xy0 M → lv_has ls 7 [] → nf_W D a s sz H locs M → W p l e rm_M_fits s m args below meth c H locs 0 0 (nf_MQ below (nf_Q nf_jI D a post ex (nf_A a sz)) args s rm_M_fits.cells rm_M_fits.slots (nf_A a sz)) (F0 m 115 ls [.int xy0]) := by
  have hx := K.1
  have hb := K.2.1
  intro xy0 M H locs ls h hl hw
  obtain ⟨g1, h⟩ := h
  exact nf_iret K hw d_M_fits_115 g1 (Nat.le_of_ble_eq_true rfl) (Nat.le_of_ble_eq_true rfl) (r := xy0) rfl h
theorem w_M_fits_110 {post : Int32 → nf_M → Prop} (hfl : l.flags = flags0) (K : nf_K p s m args meth c "NumberForgeModel" nb_M_fits 7 (some FieldType.boolean) D a sz) : ∀ (M : nf_M) (H : Heap) (locs : List Loc) (ls : Array Slot), B_M_fits_110 post  M → lv_has ls 7 [] → nf_W D a s sz H locs M → W p l e rm_M_fits s m args below meth c H locs 0 0 (nf_MQ below (nf_Q nf_jI D a post ex (nf_A a sz)) args s rm_M_fits.cells rm_M_fits.slots (nf_A a sz)) (F0 m 110 ls []) := by
  have hx := K.1
  have hb := K.2.1
  intro  M H locs ls h hl hw
  refine lv_iconst (v := (1 : Int32)) hx hb d_M_fits_110 (by decide) ?_
  refine lv_goto hx hb d_M_fits_111 (tgt := 115) (by decide) ?_
  exact w_M_fits_115 hfl K (1 : Int32) M _ _ _ h (lv_sub hl [] rfl) hw
theorem w_M_fits_114 {post : Int32 → nf_M → Prop} (hfl : l.flags = flags0) (K : nf_K p s m args meth c "NumberForgeModel" nb_M_fits 7 (some FieldType.boolean) D a sz) : ∀ (M : nf_M) (H : Heap) (locs : List Loc) (ls : Array Slot), B_M_fits_114 post  M → lv_has ls 7 [] → nf_W D a s sz H locs M → W p l e rm_M_fits s m args below meth c H locs 0 0 (nf_MQ below (nf_Q nf_jI D a post ex (nf_A a sz)) args s rm_M_fits.cells rm_M_fits.slots (nf_A a sz)) (F0 m 114 ls []) := by
  have hx := K.1
  have hb := K.2.1
  intro  M H locs ls h hl hw
  refine lv_iconst (v := (0 : Int32)) hx hb d_M_fits_114 (by decide) ?_
  exact w_M_fits_115 hfl K (0 : Int32) M _ _ _ h (lv_sub hl [] rfl) hw
theorem w_M_fits_90 {post : Int32 → nf_M → Prop} (hfl : l.flags = flags0) (K : nf_K p s m args meth c "NumberForgeModel" nb_M_fits 7 (some FieldType.boolean) D a sz) : ∀ (x0 : Int32) (x1 : Int64) (x3 : Int64) (xy0 : Int64) (M : nf_M) (H : Heap) (locs : List Loc) (ls : Array Slot), B_M_fits_90 post x0 x1 x3 xy0 M → lv_has ls 7 [(0, .int x0), (1, .long x1), (3, .long x3)] → nf_W D a s sz H locs M → W p l e rm_M_fits s m args below meth c H locs 0 0 (nf_MQ below (nf_Q nf_jI D a post ex (nf_A a sz)) args s rm_M_fits.cells rm_M_fits.slots (nf_A a sz)) (F0 m 90 ls [.long xy0]) := by
  have hx := K.1
  have hb := K.2.1
  intro x0 x1 x3 xy0 M H locs ls h hl hw
  refine lv_lstore (lv' := [(5, .long xy0), (0, .int x0), (1, .long x1), (3, .long x3)]) hx hb d_M_fits_90 hl (by decide) rfl (fun ls hl => ?_)
  refine lv_iload_n hx hb d_M_fits_92 rfl (lv_at hl 1 rfl) ?_
  refine lv_iconst (v := (2 : Int32)) hx hb d_M_fits_93 (by decide) ?_
  refine nf_ic_lt hx hb d_M_fits_94 (tgt := 110) (by decide) (fun hc => ?_) (fun hc => ?_)
  · have h := h.1 hc
    exact w_M_fits_110 hfl K  M _ _ _ h (lv_sub hl [] rfl) hw
  · have h := h.2 hc
    refine lv_lload_n hx hb d_M_fits_97 rfl (lv_at hl 2 rfl) ?_
    refine lv_lload_n hx hb d_M_fits_98 rfl (lv_at hl 3 rfl) ?_
    refine nf_lc_lt hx hb d_M_fits_99 d_M_fits_100 (tgt := 114) (by decide) (fun hc => ?_) (fun hc => ?_)
    · have h := h.1 hc
      exact w_M_fits_114 hfl K  M _ _ _ h (lv_sub hl [] rfl) hw
    · have h := h.2 hc
      refine lv_lload_n hx hb d_M_fits_103 rfl (lv_at hl 2 rfl) ?_
      refine lv_lload hx hb d_M_fits_104 (lv_at hl 0 rfl) ?_
      refine nf_lc_gt hx hb d_M_fits_106 d_M_fits_107 (tgt := 114) (by decide) (fun hc => ?_) (fun hc => ?_)
      · have h := h.1 hc
        exact w_M_fits_114 hfl K  M _ _ _ h (lv_sub hl [] rfl) hw
      · have h := h.2 hc
        exact w_M_fits_110 hfl K  M _ _ _ h (lv_sub hl [] rfl) hw
theorem w_M_fits_44 {post : Int32 → nf_M → Prop} (hfl : l.flags = flags0) (K : nf_K p s m args meth c "NumberForgeModel" nb_M_fits 7 (some FieldType.boolean) D a sz) : ∀ (x0 : Int32) (x1 : Int64) (xy0 : Int64) (M : nf_M) (H : Heap) (locs : List Loc) (ls : Array Slot), B_M_fits_44 post x0 x1 xy0 M → lv_has ls 7 [(0, .int x0), (1, .long x1)] → nf_W D a s sz H locs M → W p l e rm_M_fits s m args below meth c H locs 0 0 (nf_MQ below (nf_Q nf_jI D a post ex (nf_A a sz)) args s rm_M_fits.cells rm_M_fits.slots (nf_A a sz)) (F0 m 44 ls [.long xy0]) := by
  have hx := K.1
  have hb := K.2.1
  intro x0 x1 xy0 M H locs ls h hl hw
  refine lv_lstore_n (lv' := [(3, .long xy0), (0, .int x0), (1, .long x1)]) hx hb d_M_fits_44 rfl hl (by decide) rfl (fun ls hl => ?_)
  refine lv_iload_n hx hb d_M_fits_45 rfl (lv_at hl 1 rfl) ?_
  refine lv_iconst (v := (2 : Int32)) hx hb d_M_fits_46 (by decide) ?_
  refine nf_ic_ne hx hb d_M_fits_47 (tgt := 56) (by decide) (fun hc => ?_) (fun hc => ?_)
  · have h := h.1 hc
    refine lv_ldc2 (v := (2147483647 : Int64)) hx hb K.2.2.2.1 (nf_Kg K nw_1045) d_M_fits_50 ?_
    refine lv_goto hx hb d_M_fits_53 (tgt := 90) (by decide) ?_
    exact w_M_fits_90 hfl K x0 x1 xy0 (2147483647 : Int64) M _ _ _ h (lv_sub hl [1, 2, 0] rfl) hw
  · have h := h.2 hc
    refine lv_iload_n hx hb d_M_fits_56 rfl (lv_at hl 1 rfl) ?_
    refine lv_iconst (v := (3 : Int32)) hx hb d_M_fits_57 (by decide) ?_
    refine nf_ic_ne hx hb d_M_fits_58 (tgt := 67) (by decide) (fun hc => ?_) (fun hc => ?_)
    · have h := h.1 hc
      refine lv_ldc2 (v := (32767 : Int64)) hx hb K.2.2.2.1 (nf_Kg K nw_1046) d_M_fits_61 ?_
      refine lv_goto hx hb d_M_fits_64 (tgt := 90) (by decide) ?_
      exact w_M_fits_90 hfl K x0 x1 xy0 (32767 : Int64) M _ _ _ h (lv_sub hl [1, 2, 0] rfl) hw
    · have h := h.2 hc
      refine lv_iload_n hx hb d_M_fits_67 rfl (lv_at hl 1 rfl) ?_
      refine lv_iconst (v := (4 : Int32)) hx hb d_M_fits_68 (by decide) ?_
      refine nf_ic_ne hx hb d_M_fits_69 (tgt := 78) (by decide) (fun hc => ?_) (fun hc => ?_)
      · have h := h.1 hc
        refine lv_ldc2 (v := (127 : Int64)) hx hb K.2.2.2.1 (nf_Kg K nw_1047) d_M_fits_72 ?_
        refine lv_goto hx hb d_M_fits_75 (tgt := 90) (by decide) ?_
        exact w_M_fits_90 hfl K x0 x1 xy0 (127 : Int64) M _ _ _ h (lv_sub hl [1, 2, 0] rfl) hw
      · have h := h.2 hc
        refine lv_iload_n hx hb d_M_fits_78 rfl (lv_at hl 1 rfl) ?_
        refine lv_iconst (v := (5 : Int32)) hx hb d_M_fits_79 (by decide) ?_
        refine nf_ic_ne hx hb d_M_fits_80 (tgt := 89) (by decide) (fun hc => ?_) (fun hc => ?_)
        · have h := h.1 hc
          refine lv_ldc2 (v := (255 : Int64)) hx hb K.2.2.2.1 (nf_Kg K nw_1048) d_M_fits_83 ?_
          refine lv_goto hx hb d_M_fits_86 (tgt := 90) (by decide) ?_
          exact w_M_fits_90 hfl K x0 x1 xy0 (255 : Int64) M _ _ _ h (lv_sub hl [1, 2, 0] rfl) hw
        · have h := h.2 hc
          refine lv_lload_n hx hb d_M_fits_89 rfl (lv_at hl 2 rfl) ?_
          exact w_M_fits_90 hfl K x0 x1 xy0 x1 M _ _ _ h (lv_sub hl [1, 2, 0] rfl) hw
theorem c_M_fits (l : Launch) (hfl : l.flags = flags0) (x0 : Int32) (x1 : Int64) : nf_C nf_jI l nm_M_fits nb_M_fits 7 (some FieldType.boolean) rm_M_fits (fun a => [.int x0, .long x1]) (fun M post ex => P_M_fits x0 x1 M post) := by
  refine nf_start (plainFor_of_name (by decide +kernel)) (fun a => Nat.le_of_ble_eq_true rfl) ?_
  intro D a sz M post ex p e s m below meth c ls h K hl hw
  have hx := K.1
  have hb := K.2.1
  have hl : lv_has ls 7 [(0, .int x0), (1, .long x1)] := hl
  refine lv_iload_n hx hb d_M_fits_0 rfl (lv_at hl 0 rfl) ?_
  refine lv_iconst (v := (2 : Int32)) hx hb d_M_fits_1 (by decide) ?_
  refine nf_ic_ne hx hb d_M_fits_2 (tgt := 11) (by decide) (fun hc => ?_) (fun hc => ?_)
  · have h := h.1 hc
    refine lv_ldc2 (v := (-2147483648 : Int64)) hx hb K.2.2.2.1 (nf_Kg K nw_1042) d_M_fits_5 ?_
    refine lv_goto hx hb d_M_fits_8 (tgt := 44) (by decide) ?_
    exact w_M_fits_44 hfl K x0 x1 (-2147483648 : Int64) M _ _ _ h (lv_sub hl [0, 1] rfl) hw
  · have h := h.2 hc
    refine lv_iload_n hx hb d_M_fits_11 rfl (lv_at hl 0 rfl) ?_
    refine lv_iconst (v := (3 : Int32)) hx hb d_M_fits_12 (by decide) ?_
    refine nf_ic_ne hx hb d_M_fits_13 (tgt := 22) (by decide) (fun hc => ?_) (fun hc => ?_)
    · have h := h.1 hc
      refine lv_ldc2 (v := (-32768 : Int64)) hx hb K.2.2.2.1 (nf_Kg K nw_1043) d_M_fits_16 ?_
      refine lv_goto hx hb d_M_fits_19 (tgt := 44) (by decide) ?_
      exact w_M_fits_44 hfl K x0 x1 (-32768 : Int64) M _ _ _ h (lv_sub hl [0, 1] rfl) hw
    · have h := h.2 hc
      refine lv_iload_n hx hb d_M_fits_22 rfl (lv_at hl 0 rfl) ?_
      refine lv_iconst (v := (4 : Int32)) hx hb d_M_fits_23 (by decide) ?_
      refine nf_ic_ne hx hb d_M_fits_24 (tgt := 33) (by decide) (fun hc => ?_) (fun hc => ?_)
      · have h := h.1 hc
        refine lv_ldc2 (v := (-128 : Int64)) hx hb K.2.2.2.1 (nf_Kg K nw_1044) d_M_fits_27 ?_
        refine lv_goto hx hb d_M_fits_30 (tgt := 44) (by decide) ?_
        exact w_M_fits_44 hfl K x0 x1 (-128 : Int64) M _ _ _ h (lv_sub hl [0, 1] rfl) hw
      · have h := h.2 hc
        refine lv_iload_n hx hb d_M_fits_33 rfl (lv_at hl 0 rfl) ?_
        refine lv_bipush (v := (7 : Int32)) hx hb d_M_fits_34 (by decide) ?_
        refine nf_ic_ne hx hb d_M_fits_36 (tgt := 43) (by decide) (fun hc => ?_) (fun hc => ?_)
        · have h := h.1 hc
          refine lv_lconst (v := (1 : Int64)) hx hb d_M_fits_39 (by decide) ?_
          refine lv_goto hx hb d_M_fits_40 (tgt := 44) (by decide) ?_
          exact w_M_fits_44 hfl K x0 x1 (1 : Int64) M _ _ _ h (lv_sub hl [0, 1] rfl) hw
        · have h := h.2 hc
          refine lv_lconst (v := (0 : Int64)) hx hb d_M_fits_43 (by decide) ?_
          exact w_M_fits_44 hfl K x0 x1 (0 : Int64) M _ _ _ h (lv_sub hl [0, 1] rfl) hw
theorem d_M_readExact_0 : decode nb_M_readExact 0 = .ok (.aload_n 0, 1) := by decide +kernel
theorem d_M_readExact_1 : decode nb_M_readExact 1 = .ok (.invokevirtual 110, 3) := by decide +kernel
theorem d_M_readExact_4 : decode nb_M_readExact 4 = .ok (.istore_n 2, 1) := by decide +kernel
theorem d_M_readExact_5 : decode nb_M_readExact 5 = .ok (.iload_n 2, 1) := by decide +kernel
theorem d_M_readExact_6 : decode nb_M_readExact 6 = .ok (.bipush 45, 2) := by decide +kernel
theorem d_M_readExact_8 : decode nb_M_readExact 8 = .ok (.if_icmp .ne 7, 3) := by decide +kernel
theorem d_M_readExact_11 : decode nb_M_readExact 11 = .ok (.iconst 1, 1) := by decide +kernel
theorem d_M_readExact_12 : decode nb_M_readExact 12 = .ok (.goto 4, 3) := by decide +kernel
theorem d_M_readExact_15 : decode nb_M_readExact 15 = .ok (.iconst 0, 1) := by decide +kernel
theorem d_M_readExact_16 : decode nb_M_readExact 16 = .ok (.istore_n 3, 1) := by decide +kernel
theorem d_M_readExact_17 : decode nb_M_readExact 17 = .ok (.aload_n 0, 1) := by decide +kernel
theorem d_M_readExact_18 : decode nb_M_readExact 18 = .ok (.iload_n 2, 1) := by decide +kernel
theorem d_M_readExact_19 : decode nb_M_readExact 19 = .ok (.bipush 45, 2) := by decide +kernel
theorem d_M_readExact_21 : decode nb_M_readExact 21 = .ok (.if_icmp .eq 9, 3) := by decide +kernel
theorem d_M_readExact_24 : decode nb_M_readExact 24 = .ok (.iload_n 2, 1) := by decide +kernel
theorem d_M_readExact_25 : decode nb_M_readExact 25 = .ok (.bipush 43, 2) := by decide +kernel
theorem d_M_readExact_27 : decode nb_M_readExact 27 = .ok (.if_icmp .ne 12, 3) := by decide +kernel
theorem d_M_readExact_30 : decode nb_M_readExact 30 = .ok (.aload_n 0, 1) := by decide +kernel
theorem d_M_readExact_31 : decode nb_M_readExact 31 = .ok (.getfield 104, 3) := by decide +kernel
theorem d_M_readExact_34 : decode nb_M_readExact 34 = .ok (.iconst 1, 1) := by decide +kernel
theorem d_M_readExact_35 : decode nb_M_readExact 35 = .ok (.iadd, 1) := by decide +kernel
theorem d_M_readExact_36 : decode nb_M_readExact 36 = .ok (.goto 7, 3) := by decide +kernel
theorem d_M_readExact_39 : decode nb_M_readExact 39 = .ok (.aload_n 0, 1) := by decide +kernel
theorem d_M_readExact_40 : decode nb_M_readExact 40 = .ok (.getfield 104, 3) := by decide +kernel
theorem d_M_readExact_43 : decode nb_M_readExact 43 = .ok (.putfield 104, 3) := by decide +kernel
theorem d_M_readExact_46 : decode nb_M_readExact 46 = .ok (.aload_n 0, 1) := by decide +kernel
theorem d_M_readExact_47 : decode nb_M_readExact 47 = .ok (.iload_n 1, 1) := by decide +kernel
theorem d_M_readExact_48 : decode nb_M_readExact 48 = .ok (.ifCond .ne 7, 3) := by decide +kernel
theorem d_M_readExact_51 : decode nb_M_readExact 51 = .ok (.iconst 1, 1) := by decide +kernel
theorem d_M_readExact_52 : decode nb_M_readExact 52 = .ok (.goto 4, 3) := by decide +kernel
theorem d_M_readExact_55 : decode nb_M_readExact 55 = .ok (.iconst 0, 1) := by decide +kernel
theorem d_M_readExact_56 : decode nb_M_readExact 56 = .ok (.invokevirtual 118, 3) := by decide +kernel
theorem d_M_readExact_59 : decode nb_M_readExact 59 = .ok (.istore 4, 2) := by decide +kernel
theorem d_M_readExact_61 : decode nb_M_readExact 61 = .ok (.iload 4, 2) := by decide +kernel
theorem d_M_readExact_63 : decode nb_M_readExact 63 = .ok (.ifCond .lt 14, 3) := by decide +kernel
theorem d_M_readExact_66 : decode nb_M_readExact 66 = .ok (.aload_n 0, 1) := by decide +kernel
theorem d_M_readExact_67 : decode nb_M_readExact 67 = .ok (.getfield 104, 3) := by decide +kernel
theorem d_M_readExact_70 : decode nb_M_readExact 70 = .ok (.aload_n 0, 1) := by decide +kernel
theorem d_M_readExact_71 : decode nb_M_readExact 71 = .ok (.getfield 107, 3) := by decide +kernel
theorem d_M_readExact_74 : decode nb_M_readExact 74 = .ok (.if_icmp .ge 9, 3) := by decide +kernel
theorem d_M_readExact_77 : decode nb_M_readExact 77 = .ok (.aload_n 0, 1) := by decide +kernel
theorem d_M_readExact_78 : decode nb_M_readExact 78 = .ok (.iconst 3, 1) := by decide +kernel
theorem d_M_readExact_79 : decode nb_M_readExact 79 = .ok (.putfield 67, 3) := by decide +kernel
theorem d_M_readExact_82 : decode nb_M_readExact 82 = .ok (.return_, 1) := by decide +kernel
theorem d_M_readExact_83 : decode nb_M_readExact 83 = .ok (.iload 4, 2) := by decide +kernel
theorem d_M_readExact_85 : decode nb_M_readExact 85 = .ok (.ifCond .le 33, 3) := by decide +kernel
theorem d_M_readExact_88 : decode nb_M_readExact 88 = .ok (.aload_n 0, 1) := by decide +kernel
theorem d_M_readExact_89 : decode nb_M_readExact 89 = .ok (.getfield 30, 3) := by decide +kernel
theorem d_M_readExact_92 : decode nb_M_readExact 92 = .ok (.aload_n 0, 1) := by decide +kernel
theorem d_M_readExact_93 : decode nb_M_readExact 93 = .ok (.getfield 62, 3) := by decide +kernel
theorem d_M_readExact_96 : decode nb_M_readExact 96 = .ok (.iconst 1, 1) := by decide +kernel
theorem d_M_readExact_97 : decode nb_M_readExact 97 = .ok (.isub, 1) := by decide +kernel
theorem d_M_readExact_98 : decode nb_M_readExact 98 = .ok (.iaload, 1) := by decide +kernel
theorem d_M_readExact_99 : decode nb_M_readExact 99 = .ok (.ifCond .ne 19, 3) := by decide +kernel
theorem d_M_readExact_102 : decode nb_M_readExact 102 = .ok (.aload_n 0, 1) := by decide +kernel
theorem d_M_readExact_103 : decode nb_M_readExact 103 = .ok (.dup, 1) := by decide +kernel
theorem d_M_readExact_104 : decode nb_M_readExact 104 = .ok (.getfield 62, 3) := by decide +kernel
theorem d_M_readExact_107 : decode nb_M_readExact 107 = .ok (.iconst 1, 1) := by decide +kernel
theorem d_M_readExact_108 : decode nb_M_readExact 108 = .ok (.isub, 1) := by decide +kernel
theorem d_M_readExact_109 : decode nb_M_readExact 109 = .ok (.putfield 62, 3) := by decide +kernel
theorem d_M_readExact_112 : decode nb_M_readExact 112 = .ok (.iinc 4 (-1), 3) := by decide +kernel
theorem d_M_readExact_115 : decode nb_M_readExact 115 = .ok (.goto (-32), 3) := by decide +kernel
theorem d_M_readExact_118 : decode nb_M_readExact 118 = .ok (.iload 4, 2) := by decide +kernel
theorem d_M_readExact_120 : decode nb_M_readExact 120 = .ok (.bipush 6, 2) := by decide +kernel
theorem d_M_readExact_122 : decode nb_M_readExact 122 = .ok (.if_icmp .le 9, 3) := by decide +kernel
theorem d_M_readExact_125 : decode nb_M_readExact 125 = .ok (.aload_n 0, 1) := by decide +kernel
theorem d_M_readExact_126 : decode nb_M_readExact 126 = .ok (.iconst 5, 1) := by decide +kernel
theorem d_M_readExact_127 : decode nb_M_readExact 127 = .ok (.putfield 67, 3) := by decide +kernel
theorem d_M_readExact_130 : decode nb_M_readExact 130 = .ok (.return_, 1) := by decide +kernel
theorem d_M_readExact_131 : decode nb_M_readExact 131 = .ok (.aload_n 0, 1) := by decide +kernel
theorem d_M_readExact_132 : decode nb_M_readExact 132 = .ok (.iload_n 3, 1) := by decide +kernel
theorem d_M_readExact_133 : decode nb_M_readExact 133 = .ok (.iload 4, 2) := by decide +kernel
theorem d_M_readExact_135 : decode nb_M_readExact 135 = .ok (.iconst 0, 1) := by decide +kernel
theorem d_M_readExact_136 : decode nb_M_readExact 136 = .ok (.invokevirtual 89, 3) := by decide +kernel
theorem d_M_readExact_139 : decode nb_M_readExact 139 = .ok (.aload_n 0, 1) := by decide +kernel
theorem d_M_readExact_140 : decode nb_M_readExact 140 = .ok (.aload_n 0, 1) := by decide +kernel
theorem d_M_readExact_141 : decode nb_M_readExact 141 = .ok (.getfield 67, 3) := by decide +kernel
theorem d_M_readExact_144 : decode nb_M_readExact 144 = .ok (.ifCond .ne 18, 3) := by decide +kernel
theorem d_M_readExact_147 : decode nb_M_readExact 147 = .ok (.iload_n 1, 1) := by decide +kernel
theorem d_M_readExact_148 : decode nb_M_readExact 148 = .ok (.aload_n 0, 1) := by decide +kernel
theorem d_M_readExact_149 : decode nb_M_readExact 149 = .ok (.getfield 74, 3) := by decide +kernel
theorem d_M_readExact_152 : decode nb_M_readExact 152 = .ok (.invokestatic 122, 3) := by decide +kernel
theorem d_M_readExact_155 : decode nb_M_readExact 155 = .ok (.ifCond .ne 7, 3) := by decide +kernel
theorem d_M_readExact_158 : decode nb_M_readExact 158 = .ok (.iconst 3, 1) := by decide +kernel
theorem d_M_readExact_159 : decode nb_M_readExact 159 = .ok (.goto 7, 3) := by decide +kernel
theorem d_M_readExact_162 : decode nb_M_readExact 162 = .ok (.aload_n 0, 1) := by decide +kernel
theorem d_M_readExact_163 : decode nb_M_readExact 163 = .ok (.getfield 67, 3) := by decide +kernel
theorem d_M_readExact_166 : decode nb_M_readExact 166 = .ok (.putfield 67, 3) := by decide +kernel
theorem d_M_readExact_169 : decode nb_M_readExact 169 = .ok (.return_, 1) := by decide +kernel
abbrev rm_M_readExact : Room := ({ frames := 2, cells := 0, slots := 0, locals := 51 })
theorem w_M_readExact_77 {post : Unit → nf_M → Prop} (hfl : l.flags = flags0) (K : nf_K p s m args meth c "NumberForgeModel" nb_M_readExact 5 none D a sz) : ∀ (M : nf_M) (H : Heap) (locs : List Loc) (ls : Array Slot), B_M_readExact_77 post  M → lv_has ls 5 [(0, .ref (a 19))] → nf_W D a s sz H locs M → W p l e rm_M_readExact s m args below meth c H locs 0 0 (nf_MQ below (nf_Q nf_jN D a post ex (nf_A a sz)) args s rm_M_readExact.cells rm_M_readExact.slots (nf_A a sz)) (F0 m 77 ls []) := by
  have hx := K.1
  have hb := K.2.1
  intro  M H locs ls h hl hw
  refine lv_aload_n hx hb d_M_readExact_77 rfl (lv_at hl 0 rfl) ?_
  refine lv_iconst (v := (3 : Int32)) hx hb d_M_readExact_78 (by decide) ?_
  refine nf_put (M' := ms_I M 19 9 (3 : Int32)) K hw 19 7 9 nw_940 rfl rfl rfl ni_M ny_M nq_M nn_M (by decide) rfl rfl rfl rfl (Nat.le_of_ble_eq_true rfl) d_M_readExact_79 (fun H locs hw => ?_)
  obtain ⟨M1, eM1⟩ : ∃ z, z = ms_I M 19 9 (3 : Int32) := ⟨_, rfl⟩
  rw [← eM1] at hw
  have h := h M1 eM1
  exact nf_vret K hw d_M_readExact_82 (Nat.le_of_ble_eq_true rfl) (Nat.le_of_ble_eq_true rfl) (r := ()) rfl h
theorem w_M_readExact_166 {post : Unit → nf_M → Prop} (hfl : l.flags = flags0) (K : nf_K p s m args meth c "NumberForgeModel" nb_M_readExact 5 none D a sz) : ∀ (xy0 : Int32) (M : nf_M) (H : Heap) (locs : List Loc) (ls : Array Slot), B_M_readExact_166 post xy0 M → lv_has ls 5 [] → nf_W D a s sz H locs M → W p l e rm_M_readExact s m args below meth c H locs 0 0 (nf_MQ below (nf_Q nf_jN D a post ex (nf_A a sz)) args s rm_M_readExact.cells rm_M_readExact.slots (nf_A a sz)) (F0 m 166 ls [.int xy0, .ref (a 19)]) := by
  have hx := K.1
  have hb := K.2.1
  intro xy0 M H locs ls h hl hw
  refine nf_put (M' := ms_I M 19 9 xy0) K hw 19 7 9 nw_940 rfl rfl rfl ni_M ny_M nq_M nn_M (by decide) rfl rfl rfl rfl (Nat.le_of_ble_eq_true rfl) d_M_readExact_166 (fun H locs hw => ?_)
  obtain ⟨M1, eM1⟩ : ∃ z, z = ms_I M 19 9 xy0 := ⟨_, rfl⟩
  rw [← eM1] at hw
  have h := h M1 eM1
  exact nf_vret K hw d_M_readExact_169 (Nat.le_of_ble_eq_true rfl) (Nat.le_of_ble_eq_true rfl) (r := ()) rfl h
theorem w_M_readExact_162 {post : Unit → nf_M → Prop} (hfl : l.flags = flags0) (K : nf_K p s m args meth c "NumberForgeModel" nb_M_readExact 5 none D a sz) : ∀ (M : nf_M) (H : Heap) (locs : List Loc) (ls : Array Slot), B_M_readExact_162 post  M → lv_has ls 5 [(0, .ref (a 19))] → nf_W D a s sz H locs M → W p l e rm_M_readExact s m args below meth c H locs 0 0 (nf_MQ below (nf_Q nf_jN D a post ex (nf_A a sz)) args s rm_M_readExact.cells rm_M_readExact.slots (nf_A a sz)) (F0 m 162 ls [.ref (a 19)]) := by
  have hx := K.1
  have hb := K.2.1
  intro  M H locs ls h hl hw
  refine lv_aload_n hx hb d_M_readExact_162 rfl (lv_at hl 0 rfl) ?_
  refine nf_get (v := .int (mg_I M 19 9)) K hw 19 7 9 nw_940 rfl rfl ni_M (by decide) rfl rfl d_M_readExact_163 ?_
  exact w_M_readExact_166 hfl K (mg_I M 19 9) M _ _ _ h (lv_sub hl [] rfl) hw
theorem w_M_readExact_118 {post : Unit → nf_M → Prop} (hfl : l.flags = flags0) (K : nf_K p s m args meth c "NumberForgeModel" nb_M_readExact 5 none D a sz) : ∀ (x1 : Int32) (x3 : Int32) (x4 : Int32) (M : nf_M) (H : Heap) (locs : List Loc) (ls : Array Slot), B_M_readExact_118 post x1 x3 x4 M → lv_has ls 5 [(0, .ref (a 19)), (1, .int x1), (3, .int x3), (4, .int x4)] → nf_W D a s sz H locs M → W p l e rm_M_readExact s m args below meth c H locs 0 0 (nf_MQ below (nf_Q nf_jN D a post ex (nf_A a sz)) args s rm_M_readExact.cells rm_M_readExact.slots (nf_A a sz)) (F0 m 118 ls []) := by
  have hx := K.1
  have hb := K.2.1
  intro x1 x3 x4 M H locs ls h hl hw
  refine lv_iload hx hb d_M_readExact_118 (lv_at hl 3 rfl) ?_
  refine lv_bipush (v := (6 : Int32)) hx hb d_M_readExact_120 (by decide) ?_
  refine nf_ic_le hx hb d_M_readExact_122 (tgt := 131) (by decide) (fun hc => ?_) (fun hc => ?_)
  · have h := h.1 hc
    refine lv_aload_n hx hb d_M_readExact_125 rfl (lv_at hl 0 rfl) ?_
    refine lv_iconst (v := (5 : Int32)) hx hb d_M_readExact_126 (by decide) ?_
    refine nf_put (M' := ms_I M 19 9 (5 : Int32)) K hw 19 7 9 nw_940 rfl rfl rfl ni_M ny_M nq_M nn_M (by decide) rfl rfl rfl rfl (Nat.le_of_ble_eq_true rfl) d_M_readExact_127 (fun H locs hw => ?_)
    obtain ⟨M1, eM1⟩ : ∃ z, z = ms_I M 19 9 (5 : Int32) := ⟨_, rfl⟩
    rw [← eM1] at hw
    have h := h M1 eM1
    exact nf_vret K hw d_M_readExact_130 (Nat.le_of_ble_eq_true rfl) (Nat.le_of_ble_eq_true rfl) (r := ()) rfl h
  · have h := h.2 hc
    refine lv_aload_n hx hb d_M_readExact_131 rfl (lv_at hl 0 rfl) ?_
    refine lv_iload_n hx hb d_M_readExact_132 rfl (lv_at hl 2 rfl) ?_
    refine lv_iload hx hb d_M_readExact_133 (lv_at hl 3 rfl) ?_
    refine lv_iconst (v := (0 : Int32)) hx hb d_M_readExact_135 (by decide) ?_
    refine nf_callW (ex := (fun _ _ => False)) (As := [.ref (a 19), .int x3, .int x4, .int (0 : Int32)]) (st0 := [.int (0 : Int32), .int x4, .int x3, .ref (a 19)]) (rest := []) K hw (nf_invV hx hb K.2.2.2.1 (nf_Kg K nw_1029) (nf_Kg K nw_1031) (nf_Kg K nx_M_settle) (nf_Kg K nw_1032) ⟨by decide, by decide⟩ (nf_rcv K hw 19 7 rfl rfl) rfl nl_M_settle rfl d_M_readExact_136) (c_M_settle l hfl x3 x4 (0 : Int32)) nw_1032 nw_9 rfl ⟨by decide, by decide⟩ (Nat.le_of_ble_eq_true rfl) hl.1 ⟨Nat.le_of_ble_eq_true rfl, Nat.le_of_ble_eq_true rfl⟩ h (fun _ _ h => h.elim) (fun r2 M3 H locs h hw => ?_)
    refine W.eq (g2 := F0 m 139 ls []) rfl ?_
    refine lv_aload_n hx hb d_M_readExact_139 rfl (lv_at hl 0 rfl) ?_
    refine lv_aload_n hx hb d_M_readExact_140 rfl (lv_at hl 0 rfl) ?_
    refine nf_get (v := .int (mg_I M3 19 9)) K hw 19 7 9 nw_940 rfl rfl ni_M (by decide) rfl rfl d_M_readExact_141 ?_
    refine nf_if_ne hx hb d_M_readExact_144 (tgt := 162) (by decide) (fun hc => ?_) (fun hc => ?_)
    · have h := h.1 hc
      refine lv_iload_n hx hb d_M_readExact_147 rfl (lv_at hl 1 rfl) ?_
      refine lv_aload_n hx hb d_M_readExact_148 rfl (lv_at hl 0 rfl) ?_
      refine nf_get (v := .long (mg_L M3 19 10)) K hw 19 7 10 nw_941 rfl rfl ni_M (by decide) rfl rfl d_M_readExact_149 ?_
      refine nf_callW (ex := (fun _ _ => False)) (As := [.int x1, .long (mg_L M3 19 10)]) (st0 := [.long (mg_L M3 19 10), .int x1, .ref (a 19)]) (rest := [.ref (a 19)]) K hw (nf_invS hx hb K.2.2.2.1 (nf_Kg K nw_1039) (nf_Kg K nw_1040) (nf_Kg K nw_9) (nf_Kg K nw_1041) ⟨by decide, by decide⟩ rfl nl_M_fits rfl d_M_readExact_152) (c_M_fits l hfl x1 (mg_L M3 19 10)) nw_1041 nw_9 rfl ⟨by decide, by decide⟩ (Nat.le_of_ble_eq_true rfl) hl.1 ⟨Nat.le_of_ble_eq_true rfl, Nat.le_of_ble_eq_true rfl⟩ h (fun _ _ h => h.elim) (fun r4 M5 H locs h hw => ?_)
      refine W.eq (g2 := F0 m 155 ls [.int r4, .ref (a 19)]) rfl ?_
      refine nf_if_ne hx hb d_M_readExact_155 (tgt := 162) (by decide) (fun hc => ?_) (fun hc => ?_)
      · have h := h.1 hc
        refine lv_iconst (v := (3 : Int32)) hx hb d_M_readExact_158 (by decide) ?_
        refine lv_goto hx hb d_M_readExact_159 (tgt := 166) (by decide) ?_
        exact w_M_readExact_166 hfl K (3 : Int32) M5 _ _ _ h (lv_sub hl [] rfl) hw
      · have h := h.2 hc
        exact w_M_readExact_162 hfl K  M5 _ _ _ h (lv_sub hl [0] rfl) hw
    · have h := h.2 hc
      exact w_M_readExact_162 hfl K  M3 _ _ _ h (lv_sub hl [0] rfl) hw
theorem w_M_readExact_83 {post : Unit → nf_M → Prop} (hfl : l.flags = flags0) (K : nf_K p s m args meth c "NumberForgeModel" nb_M_readExact 5 none D a sz) : ∀ (n : Nat) (x1 : Int32) (x3 : Int32) (x4 : Int32) (M : nf_M) (H : Heap) (locs : List Loc) (ls : Array Slot), B_M_readExact_83 post n x1 x3 x4 M → lv_has ls 5 [(0, .ref (a 19)), (1, .int x1), (3, .int x3), (4, .int x4)] → nf_W D a s sz H locs M → W p l e rm_M_readExact s m args below meth c H locs 0 0 (nf_MQ below (nf_Q nf_jN D a post ex (nf_A a sz)) args s rm_M_readExact.cells rm_M_readExact.slots (nf_A a sz)) (F0 m 83 ls []) := by
  have hx := K.1
  have hb := K.2.1
  intro n
  induction n with
  | zero => intro x1 x3 x4 M H locs ls h hl hw; exact h.elim
  | succ n ih =>
    intro x1 x3 x4 M H locs ls h hl hw
    refine lv_iload hx hb d_M_readExact_83 (lv_at hl 3 rfl) ?_
    refine nf_if_le hx hb d_M_readExact_85 (tgt := 118) (by decide) (fun hc => ?_) (fun hc => ?_)
    · have h := h.1 hc
      refine lv_aload_n hx hb d_M_readExact_88 rfl (lv_at hl 0 rfl) ?_
      refine nf_get (v := .ref (a 26)) K hw 19 7 14 nw_945 rfl rfl ni_M (by decide) rfl rfl d_M_readExact_89 ?_
      refine lv_aload_n hx hb d_M_readExact_92 rfl (lv_at hl 0 rfl) ?_
      refine nf_get (v := .int (mg_I M 19 13)) K hw 19 7 13 nw_944 rfl rfl ni_M (by decide) rfl rfl d_M_readExact_93 ?_
      refine lv_iconst (v := (1 : Int32)) hx hb d_M_readExact_96 (by decide) ?_
      refine lv_isub hx hb d_M_readExact_97 ?_
      obtain ⟨g1, h⟩ := h
      refine nf_iald K hw 26 9 rfl rfl g1 d_M_readExact_98 ?_
      refine nf_if_ne hx hb d_M_readExact_99 (tgt := 118) (by decide) (fun hc => ?_) (fun hc => ?_)
      · have h := h.1 hc
        refine lv_aload_n hx hb d_M_readExact_102 rfl (lv_at hl 0 rfl) ?_
        refine lv_dup hx hb d_M_readExact_103 rfl ?_
        refine nf_get (v := .int (mg_I M 19 13)) K hw 19 7 13 nw_944 rfl rfl ni_M (by decide) rfl rfl d_M_readExact_104 ?_
        refine lv_iconst (v := (1 : Int32)) hx hb d_M_readExact_107 (by decide) ?_
        refine lv_isub hx hb d_M_readExact_108 ?_
        refine lv_topi (fun t2 et2 => ?_)
        have h := h t2 et2
        refine nf_put (M' := ms_I M 19 13 t2) K hw 19 7 13 nw_944 rfl rfl rfl ni_M ny_M nq_M nn_M (by decide) rfl rfl rfl rfl (Nat.le_of_ble_eq_true rfl) d_M_readExact_109 (fun H locs hw => ?_)
        obtain ⟨M3, eM3⟩ : ∃ z, z = ms_I M 19 13 t2 := ⟨_, rfl⟩
        rw [← eM3] at hw
        have h := h M3 eM3
        refine lv_iinc (k := 3) (v := x4 + (-1 : Int32)) (lv' := [(4, .int (x4 + (-1 : Int32))), (0, .ref (a 19)), (1, .int x1), (3, .int x3)]) hx hb d_M_readExact_112 hl rfl (nf_inc (by decide)) (by decide) rfl (fun ls hl => ?_)
        refine lv_goto hx hb d_M_readExact_115 (tgt := 83) (by decide) ?_
        exact ih x1 x3 (x4 + (-1 : Int32)) M3 _ _ _ h (lv_sub hl [1, 2, 3, 0] rfl) hw
      · have h := h.2 hc
        exact w_M_readExact_118 hfl K x1 x3 x4 M _ _ _ h (lv_sub hl [0, 1, 2, 3] rfl) hw
    · have h := h.2 hc
      exact w_M_readExact_118 hfl K x1 x3 x4 M _ _ _ h (lv_sub hl [0, 1, 2, 3] rfl) hw
theorem w_M_readExact_56 {post : Unit → nf_M → Prop} (hfl : l.flags = flags0) (K : nf_K p s m args meth c "NumberForgeModel" nb_M_readExact 5 none D a sz) : ∀ (x1 : Int32) (x3 : Int32) (xy0 : Int32) (M : nf_M) (H : Heap) (locs : List Loc) (ls : Array Slot), B_M_readExact_56 post x1 x3 xy0 M → lv_has ls 5 [(0, .ref (a 19)), (1, .int x1), (3, .int x3)] → nf_W D a s sz H locs M → W p l e rm_M_readExact s m args below meth c H locs 0 0 (nf_MQ below (nf_Q nf_jN D a post ex (nf_A a sz)) args s rm_M_readExact.cells rm_M_readExact.slots (nf_A a sz)) (F0 m 56 ls [.int xy0, .ref (a 19)]) := by
  have hx := K.1
  have hb := K.2.1
  intro x1 x3 xy0 M H locs ls h hl hw
  refine nf_callW (ex := (fun _ _ => False)) (As := [.ref (a 19), .int xy0]) (st0 := [.int xy0, .ref (a 19)]) (rest := []) K hw (nf_invV hx hb K.2.2.2.1 (nf_Kg K nw_1022) (nf_Kg K nw_1024) (nf_Kg K nx_M_digits) (nf_Kg K nw_1025) ⟨by decide, by decide⟩ (nf_rcv K hw 19 7 rfl rfl) rfl nl_M_digits rfl d_M_readExact_56) (c_M_digits l hfl xy0) nw_1025 nw_9 rfl ⟨by decide, by decide⟩ (Nat.le_of_ble_eq_true rfl) hl.1 ⟨Nat.le_of_ble_eq_true rfl, Nat.le_of_ble_eq_true rfl⟩ h (fun _ _ h => h.elim) (fun r1 M2 H locs h hw => ?_)
  refine W.eq (g2 := F0 m 59 ls [.int r1]) rfl ?_
  refine lv_istore (lv' := [(4, .int r1), (0, .ref (a 19)), (1, .int x1), (3, .int x3)]) hx hb d_M_readExact_59 hl (by decide) rfl (fun ls hl => ?_)
  refine lv_iload hx hb d_M_readExact_61 (lv_at hl 0 rfl) ?_
  refine nf_if_lt hx hb d_M_readExact_63 (tgt := 77) (by decide) (fun hc => ?_) (fun hc => ?_)
  · have h := h.1 hc
    exact w_M_readExact_77 hfl K  M2 _ _ _ h (lv_sub hl [1] rfl) hw
  · have h := h.2 hc
    refine lv_aload_n hx hb d_M_readExact_66 rfl (lv_at hl 1 rfl) ?_
    refine nf_get (v := .int (mg_I M2 19 15)) K hw 19 7 15 nw_946 rfl rfl ni_M (by decide) rfl rfl d_M_readExact_67 ?_
    refine lv_aload_n hx hb d_M_readExact_70 rfl (lv_at hl 1 rfl) ?_
    refine nf_get (v := .int (mg_I M2 19 16)) K hw 19 7 16 nw_947 rfl rfl ni_M (by decide) rfl rfl d_M_readExact_71 ?_
    refine nf_ic_ge hx hb d_M_readExact_74 (tgt := 83) (by decide) (fun hc => ?_) (fun hc => ?_)
    · have h := h.1 hc
      exact w_M_readExact_77 hfl K  M2 _ _ _ h (lv_sub hl [1] rfl) hw
    · have h := h.2 hc
      obtain ⟨n, h⟩ := h
      exact w_M_readExact_83 hfl K n x1 x3 r1 M2 _ _ _ h (lv_sub hl [1, 2, 3, 0] rfl) hw
theorem w_M_readExact_43 {post : Unit → nf_M → Prop} (hfl : l.flags = flags0) (K : nf_K p s m args meth c "NumberForgeModel" nb_M_readExact 5 none D a sz) : ∀ (x1 : Int32) (x3 : Int32) (xy0 : Int32) (M : nf_M) (H : Heap) (locs : List Loc) (ls : Array Slot), B_M_readExact_43 post x1 x3 xy0 M → lv_has ls 5 [(0, .ref (a 19)), (1, .int x1), (3, .int x3)] → nf_W D a s sz H locs M → W p l e rm_M_readExact s m args below meth c H locs 0 0 (nf_MQ below (nf_Q nf_jN D a post ex (nf_A a sz)) args s rm_M_readExact.cells rm_M_readExact.slots (nf_A a sz)) (F0 m 43 ls [.int xy0, .ref (a 19)]) := by
  have hx := K.1
  have hb := K.2.1
  intro x1 x3 xy0 M H locs ls h hl hw
  refine nf_put (M' := ms_I M 19 15 xy0) K hw 19 7 15 nw_946 rfl rfl rfl ni_M ny_M nq_M nn_M (by decide) rfl rfl rfl rfl (Nat.le_of_ble_eq_true rfl) d_M_readExact_43 (fun H locs hw => ?_)
  obtain ⟨M1, eM1⟩ : ∃ z, z = ms_I M 19 15 xy0 := ⟨_, rfl⟩
  rw [← eM1] at hw
  have h := h M1 eM1
  refine lv_aload_n hx hb d_M_readExact_46 rfl (lv_at hl 0 rfl) ?_
  refine lv_iload_n hx hb d_M_readExact_47 rfl (lv_at hl 1 rfl) ?_
  refine nf_if_ne hx hb d_M_readExact_48 (tgt := 55) (by decide) (fun hc => ?_) (fun hc => ?_)
  · have h := h.1 hc
    refine lv_iconst (v := (1 : Int32)) hx hb d_M_readExact_51 (by decide) ?_
    refine lv_goto hx hb d_M_readExact_52 (tgt := 56) (by decide) ?_
    exact w_M_readExact_56 hfl K x1 x3 (1 : Int32) M1 _ _ _ h (lv_sub hl [0, 1, 2] rfl) hw
  · have h := h.2 hc
    refine lv_iconst (v := (0 : Int32)) hx hb d_M_readExact_55 (by decide) ?_
    exact w_M_readExact_56 hfl K x1 x3 (0 : Int32) M1 _ _ _ h (lv_sub hl [0, 1, 2] rfl) hw
theorem w_M_readExact_30 {post : Unit → nf_M → Prop} (hfl : l.flags = flags0) (K : nf_K p s m args meth c "NumberForgeModel" nb_M_readExact 5 none D a sz) : ∀ (x1 : Int32) (x3 : Int32) (M : nf_M) (H : Heap) (locs : List Loc) (ls : Array Slot), B_M_readExact_30 post x1 x3 M → lv_has ls 5 [(0, .ref (a 19)), (1, .int x1), (3, .int x3)] → nf_W D a s sz H locs M → W p l e rm_M_readExact s m args below meth c H locs 0 0 (nf_MQ below (nf_Q nf_jN D a post ex (nf_A a sz)) args s rm_M_readExact.cells rm_M_readExact.slots (nf_A a sz)) (F0 m 30 ls [.ref (a 19)]) := by
  have hx := K.1
  have hb := K.2.1
  intro x1 x3 M H locs ls h hl hw
  refine lv_aload_n hx hb d_M_readExact_30 rfl (lv_at hl 0 rfl) ?_
  refine nf_get (v := .int (mg_I M 19 15)) K hw 19 7 15 nw_946 rfl rfl ni_M (by decide) rfl rfl d_M_readExact_31 ?_
  refine lv_iconst (v := (1 : Int32)) hx hb d_M_readExact_34 (by decide) ?_
  refine lv_iadd hx hb d_M_readExact_35 ?_
  refine lv_goto hx hb d_M_readExact_36 (tgt := 43) (by decide) ?_
  exact w_M_readExact_43 hfl K x1 x3 ((mg_I M 19 15) + (1 : Int32)) M _ _ _ h (lv_sub hl [0, 1, 2] rfl) hw
theorem w_M_readExact_16 {post : Unit → nf_M → Prop} (hfl : l.flags = flags0) (K : nf_K p s m args meth c "NumberForgeModel" nb_M_readExact 5 none D a sz) : ∀ (x1 : Int32) (x2 : Int32) (xy0 : Int32) (M : nf_M) (H : Heap) (locs : List Loc) (ls : Array Slot), B_M_readExact_16 post x1 x2 xy0 M → lv_has ls 5 [(0, .ref (a 19)), (1, .int x1), (2, .int x2)] → nf_W D a s sz H locs M → W p l e rm_M_readExact s m args below meth c H locs 0 0 (nf_MQ below (nf_Q nf_jN D a post ex (nf_A a sz)) args s rm_M_readExact.cells rm_M_readExact.slots (nf_A a sz)) (F0 m 16 ls [.int xy0]) := by
  have hx := K.1
  have hb := K.2.1
  intro x1 x2 xy0 M H locs ls h hl hw
  refine lv_istore_n (lv' := [(3, .int xy0), (0, .ref (a 19)), (1, .int x1), (2, .int x2)]) hx hb d_M_readExact_16 rfl hl (by decide) rfl (fun ls hl => ?_)
  refine lv_aload_n hx hb d_M_readExact_17 rfl (lv_at hl 1 rfl) ?_
  refine lv_iload_n hx hb d_M_readExact_18 rfl (lv_at hl 3 rfl) ?_
  refine lv_bipush (v := (45 : Int32)) hx hb d_M_readExact_19 (by decide) ?_
  refine nf_ic_eq hx hb d_M_readExact_21 (tgt := 30) (by decide) (fun hc => ?_) (fun hc => ?_)
  · have h := h.1 hc
    exact w_M_readExact_30 hfl K x1 xy0 M _ _ _ h (lv_sub hl [1, 2, 0] rfl) hw
  · have h := h.2 hc
    refine lv_iload_n hx hb d_M_readExact_24 rfl (lv_at hl 3 rfl) ?_
    refine lv_bipush (v := (43 : Int32)) hx hb d_M_readExact_25 (by decide) ?_
    refine nf_ic_ne hx hb d_M_readExact_27 (tgt := 39) (by decide) (fun hc => ?_) (fun hc => ?_)
    · have h := h.1 hc
      exact w_M_readExact_30 hfl K x1 xy0 M _ _ _ h (lv_sub hl [1, 2, 0] rfl) hw
    · have h := h.2 hc
      refine lv_aload_n hx hb d_M_readExact_39 rfl (lv_at hl 1 rfl) ?_
      refine nf_get (v := .int (mg_I M 19 15)) K hw 19 7 15 nw_946 rfl rfl ni_M (by decide) rfl rfl d_M_readExact_40 ?_
      exact w_M_readExact_43 hfl K x1 xy0 (mg_I M 19 15) M _ _ _ h (lv_sub hl [1, 2, 0] rfl) hw
theorem c_M_readExact (l : Launch) (hfl : l.flags = flags0) (x1 : Int32) : nf_C nf_jN l nm_M_readExact nb_M_readExact 5 none rm_M_readExact (fun a => [.ref (a 19), .int x1]) (fun M post ex => P_M_readExact x1 M post) := by
  refine nf_start (plainFor_of_name (by decide +kernel)) (fun a => Nat.le_of_ble_eq_true rfl) ?_
  intro D a sz M post ex p e s m below meth c ls h K hl hw
  have hx := K.1
  have hb := K.2.1
  have hl : lv_has ls 5 [(0, .ref (a 19)), (1, .int x1)] := hl
  refine lv_aload_n hx hb d_M_readExact_0 rfl (lv_at hl 0 rfl) ?_
  refine nf_callW (ex := (fun _ _ => False)) (As := [.ref (a 19)]) (st0 := [.ref (a 19)]) (rest := []) K hw (nf_invV hx hb K.2.2.2.1 (nf_Kg K nw_1018) (nf_Kg K nw_1020) (nf_Kg K nx_M_here) (nf_Kg K nw_1021) ⟨by decide, by decide⟩ (nf_rcv K hw 19 7 rfl rfl) rfl nl_M_here rfl d_M_readExact_1) (c_M_here l hfl ) nw_1021 nw_9 rfl ⟨by decide, by decide⟩ (Nat.le_of_ble_eq_true rfl) hl.1 ⟨Nat.le_of_ble_eq_true rfl, Nat.le_of_ble_eq_true rfl⟩ h (fun _ _ h => h.elim) (fun r1 M2 H locs h hw => ?_)
  refine W.eq (g2 := F0 m 4 ls [.int r1]) rfl ?_
  refine lv_istore_n (lv' := [(2, .int r1), (0, .ref (a 19)), (1, .int x1)]) hx hb d_M_readExact_4 rfl hl (by decide) rfl (fun ls hl => ?_)
  refine lv_iload_n hx hb d_M_readExact_5 rfl (lv_at hl 0 rfl) ?_
  refine lv_bipush (v := (45 : Int32)) hx hb d_M_readExact_6 (by decide) ?_
  refine nf_ic_ne hx hb d_M_readExact_8 (tgt := 15) (by decide) (fun hc => ?_) (fun hc => ?_)
  · have h := h.1 hc
    refine lv_iconst (v := (1 : Int32)) hx hb d_M_readExact_11 (by decide) ?_
    refine lv_goto hx hb d_M_readExact_12 (tgt := 16) (by decide) ?_
    exact w_M_readExact_16 hfl K x1 r1 (1 : Int32) M2 _ _ _ h (lv_sub hl [1, 2, 0] rfl) hw
  · have h := h.2 hc
    refine lv_iconst (v := (0 : Int32)) hx hb d_M_readExact_15 (by decide) ?_
    exact w_M_readExact_16 hfl K x1 r1 (0 : Int32) M2 _ _ _ h (lv_sub hl [1, 2, 0] rfl) hw
end NW5
