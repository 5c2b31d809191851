/-! walks (printed by wip/whole/gen/drive.py) -/
section NW1
variable {p : Program} {l : Launch} {e : Env} {s : State} {m : MethodId} {args : Array Value} {below : List Frame} {meth : Method} {c : Code} {D : va_G} {a : Nat → Nat} {sz : Nat} {ex : Nat → nf_M → Prop}
theorem d_V_becomeFloating_0 : decode nb_V_becomeFloating 0 = .ok (.aload_n 0, 1) := by decide +kernel
theorem d_V_becomeFloating_1 : decode nb_V_becomeFloating 1 = .ok (.iload_n 1, 1) := by decide +kernel
theorem d_V_becomeFloating_2 : decode nb_V_becomeFloating 2 = .ok (.putfield 9, 3) := by decide +kernel
theorem d_V_becomeFloating_5 : decode nb_V_becomeFloating 5 = .ok (.aload_n 0, 1) := by decide +kernel
theorem d_V_becomeFloating_6 : decode nb_V_becomeFloating 6 = .ok (.lconst 0, 1) := by decide +kernel
theorem d_V_becomeFloating_7 : decode nb_V_becomeFloating 7 = .ok (.putfield 15, 3) := by decide +kernel
theorem d_V_becomeFloating_10 : decode nb_V_becomeFloating 10 = .ok (.aload_n 0, 1) := by decide +kernel
theorem d_V_becomeFloating_11 : decode nb_V_becomeFloating 11 = .ok (.iconst 0, 1) := by decide +kernel
theorem d_V_becomeFloating_12 : decode nb_V_becomeFloating 12 = .ok (.putfield 19, 3) := by decide +kernel
theorem d_V_becomeFloating_15 : decode nb_V_becomeFloating 15 = .ok (.aload_n 0, 1) := by decide +kernel
theorem d_V_becomeFloating_16 : decode nb_V_becomeFloating 16 = .ok (.iload_n 1, 1) := by decide +kernel
theorem d_V_becomeFloating_17 : decode nb_V_becomeFloating 17 = .ok (.bipush 8, 2) := by decide +kernel
theorem d_V_becomeFloating_19 : decode nb_V_becomeFloating 19 = .ok (.if_icmp .ne 9, 3) := by decide +kernel
theorem d_V_becomeFloating_22 : decode nb_V_becomeFloating 22 = .ok (.dload_n 2, 1) := by decide +kernel
theorem d_V_becomeFloating_23 : decode nb_V_becomeFloating 23 = .ok (.d2f, 1) := by decide +kernel
theorem d_V_becomeFloating_24 : decode nb_V_becomeFloating 24 = .ok (.f2d, 1) := by decide +kernel
theorem d_V_becomeFloating_25 : decode nb_V_becomeFloating 25 = .ok (.goto 4, 3) := by decide +kernel
theorem d_V_becomeFloating_28 : decode nb_V_becomeFloating 28 = .ok (.dload_n 2, 1) := by decide +kernel
theorem d_V_becomeFloating_29 : decode nb_V_becomeFloating 29 = .ok (.putfield 22, 3) := by decide +kernel
theorem d_V_becomeFloating_32 : decode nb_V_becomeFloating 32 = .ok (.return_, 1) := by decide +kernel
abbrev rm_V_becomeFloating : Room := ({ frames := 0, cells := 0, slots := 0, locals := 0 })
theorem w_V_becomeFloating_29 {post : Unit → nf_M → Prop} (hfl : l.flags = flags0) (K : nf_K p s m args meth c "NumberForge$Value" nb_V_becomeFloating 4 none D a sz) : ∀ (xy0 : UInt64) (vy1 : Fin 9) (M : nf_M) (H : Heap) (locs : List Loc) (ls : Array Slot), B_V_becomeFloating_29 post xy0 vy1 M → lv_has ls 4 [] → nf_W D a s sz H locs M → W p l e rm_V_becomeFloating s m args below meth c H locs 0 0 (nf_MQ below (nf_Q nf_jN D a post ex (nf_A a sz)) args s rm_V_becomeFloating.cells rm_V_becomeFloating.slots (nf_A a sz)) (F0 m 29 ls [.double xy0, .ref (a (10 + (vy1 : Fin 9).val))]) := by
  have hx := K.1
  have hb := K.2.1
  intro xy0 vy1 M H locs ls h hl hw
  refine nf_put (M' := ms_R M vy1 xy0) K hw (10 + (vy1 : Fin 9).val) 4 3 nw_46 (nf_heV _ _ _) (nf_setR _ _ _ _) rfl ni_V ny_V nq_V nn_V (by decide) rfl rfl rfl rfl (Nat.le_of_ble_eq_true rfl) d_V_becomeFloating_29 (fun H locs hw => ?_)
  obtain ⟨M1, eM1⟩ : ∃ z, z = ms_R M vy1 xy0 := ⟨_, rfl⟩
  rw [← eM1] at hw
  have h := h M1 eM1
  exact nf_vret K hw d_V_becomeFloating_32 (Nat.le_of_ble_eq_true rfl) (Nat.le_of_ble_eq_true rfl) (r := ()) rfl h
theorem c_V_becomeFloating (l : Launch) (hfl : l.flags = flags0) (v0 : Fin 9) (x1 : Int32) (x2 : UInt64) : nf_C nf_jN l nm_V_becomeFloating nb_V_becomeFloating 4 none rm_V_becomeFloating (fun a => [.ref (a (10 + (v0 : Fin 9).val)), .int x1, .double x2]) (fun M post ex => P_V_becomeFloating v0 x1 x2 M post) := by
  refine nf_start (plainFor_of_name (by decide +kernel)) (fun a => Nat.le_of_ble_eq_true rfl) ?_
  intro D a sz M post ex p e s m below meth c ls h K hl hw
  have hx := K.1
  have hb := K.2.1
  have hl : lv_has ls 4 [(0, .ref (a (10 + (v0 : Fin 9).val))), (1, .int x1), (2, .double x2)] := hl
  refine lv_aload_n hx hb d_V_becomeFloating_0 rfl (lv_at hl 0 rfl) ?_
  refine lv_iload_n hx hb d_V_becomeFloating_1 rfl (lv_at hl 1 rfl) ?_
  refine nf_put (M' := ms_T M v0 x1) K hw (10 + (v0 : Fin 9).val) 4 0 nw_38 (nf_heV _ _ _) (nf_setT _ _ _ _) rfl ni_V ny_V nq_V nn_V (by decide) rfl rfl rfl rfl (Nat.le_of_ble_eq_true rfl) d_V_becomeFloating_2 (fun H locs hw => ?_)
  obtain ⟨M1, eM1⟩ : ∃ z, z = ms_T M v0 x1 := ⟨_, rfl⟩
  rw [← eM1] at hw
  have h := h M1 eM1
  refine lv_aload_n hx hb d_V_becomeFloating_5 rfl (lv_at hl 0 rfl) ?_
  refine lv_lconst (v := (0 : Int64)) hx hb d_V_becomeFloating_6 (by decide) ?_
  refine nf_put (M' := ms_U M1 v0 (0 : Int64)) K hw (10 + (v0 : Fin 9).val) 4 1 nw_40 (nf_heV _ _ _) (nf_setU _ _ _ _) rfl ni_V ny_V nq_V nn_V (by decide) rfl rfl rfl rfl (Nat.le_of_ble_eq_true rfl) d_V_becomeFloating_7 (fun H locs hw => ?_)
  obtain ⟨M2, eM2⟩ : ∃ z, z = ms_U M1 v0 (0 : Int64) := ⟨_, rfl⟩
  rw [← eM2] at hw
  have h := h M2 eM2
  refine lv_aload_n hx hb d_V_becomeFloating_10 rfl (lv_at hl 0 rfl) ?_
  refine lv_iconst (v := (0 : Int32)) hx hb d_V_becomeFloating_11 (by decide) ?_
  refine nf_put (M' := ms_S M2 v0 (0 : Int32)) K hw (10 + (v0 : Fin 9).val) 4 2 nw_43 (nf_heV _ _ _) (nf_setS _ _ _ _) rfl ni_V ny_V nq_V nn_V (by decide) rfl rfl rfl rfl (Nat.le_of_ble_eq_true rfl) d_V_becomeFloating_12 (fun H locs hw => ?_)
  obtain ⟨M3, eM3⟩ : ∃ z, z = ms_S M2 v0 (0 : Int32) := ⟨_, rfl⟩
  rw [← eM3] at hw
  have h := h M3 eM3
  refine lv_aload_n hx hb d_V_becomeFloating_15 rfl (lv_at hl 0 rfl) ?_
  refine lv_iload_n hx hb d_V_becomeFloating_16 rfl (lv_at hl 1 rfl) ?_
  refine lv_bipush (v := (8 : Int32)) hx hb d_V_becomeFloating_17 (by decide) ?_
  refine nf_ic_ne hx hb d_V_becomeFloating_19 (tgt := 28) (by decide) (fun hc => ?_) (fun hc => ?_)
  · have h := h.1 hc
    refine lv_dload_n hx hb d_V_becomeFloating_22 rfl (lv_at hl 2 rfl) ?_
    obtain ⟨g4, h⟩ := h
    refine lv_d2f hx hb d_V_becomeFloating_23 g4 ?_
    obtain ⟨g5, h⟩ := h
    refine lv_f2d hx hb d_V_becomeFloating_24 g5 ?_
    refine lv_goto hx hb d_V_becomeFloating_25 (tgt := 29) (by decide) ?_
    exact w_V_becomeFloating_29 hfl K (FP.f2d (FP.d2f x2)) v0 M3 _ _ _ h (lv_sub hl [] rfl) hw
  · have h := h.2 hc
    refine lv_dload_n hx hb d_V_becomeFloating_28 rfl (lv_at hl 2 rfl) ?_
    exact w_V_becomeFloating_29 hfl K x2 v0 M3 _ _ _ h (lv_sub hl [] rfl) hw
theorem d_N_units_0 : decode nb_N_units 0 = .ok (.aload_n 0, 1) := by decide +kernel
theorem d_N_units_1 : decode nb_N_units 1 = .ok (.getfield 55, 3) := by decide +kernel
theorem d_N_units_4 : decode nb_N_units 4 = .ok (.ifCond .ne 5, 3) := by decide +kernel
theorem d_N_units_7 : decode nb_N_units 7 = .ok (.lconst 0, 1) := by decide +kernel
theorem d_N_units_8 : decode nb_N_units 8 = .ok (.lreturn, 1) := by decide +kernel
theorem d_N_units_9 : decode nb_N_units 9 = .ok (.aload_n 0, 1) := by decide +kernel
theorem d_N_units_10 : decode nb_N_units 10 = .ok (.getfield 66, 3) := by decide +kernel
theorem d_N_units_13 : decode nb_N_units 13 = .ok (.bipush (-6), 2) := by decide +kernel
theorem d_N_units_15 : decode nb_N_units 15 = .ok (.if_icmp .lt 21, 3) := by decide +kernel
theorem d_N_units_18 : decode nb_N_units 18 = .ok (.aload_n 0, 1) := by decide +kernel
theorem d_N_units_19 : decode nb_N_units 19 = .ok (.getfield 55, 3) := by decide +kernel
theorem d_N_units_22 : decode nb_N_units 22 = .ok (.aload_n 0, 1) := by decide +kernel
theorem d_N_units_23 : decode nb_N_units 23 = .ok (.getfield 66, 3) := by decide +kernel
theorem d_N_units_26 : decode nb_N_units 26 = .ok (.iconst 0, 1) := by decide +kernel
theorem d_N_units_27 : decode nb_N_units 27 = .ok (.invokestatic 85, 3) := by decide +kernel
theorem d_N_units_30 : decode nb_N_units 30 = .ok (.iadd, 1) := by decide +kernel
theorem d_N_units_31 : decode nb_N_units 31 = .ok (.bipush 15, 2) := by decide +kernel
theorem d_N_units_33 : decode nb_N_units 33 = .ok (.if_icmp .le 13, 3) := by decide +kernel
theorem d_N_units_36 : decode nb_N_units 36 = .ok (.new 74, 3) := by decide +kernel
theorem d_N_units_39 : decode nb_N_units 39 = .ok (.dup, 1) := by decide +kernel
theorem d_N_units_40 : decode nb_N_units 40 = .ok (.ldc 76, 2) := by decide +kernel
theorem d_N_units_42 : decode nb_N_units 42 = .ok (.invokespecial 78, 3) := by decide +kernel
theorem d_N_units_45 : decode nb_N_units 45 = .ok (.athrow, 1) := by decide +kernel
theorem d_N_units_46 : decode nb_N_units 46 = .ok (.aload_n 0, 1) := by decide +kernel
theorem d_N_units_47 : decode nb_N_units 47 = .ok (.getfield 51, 3) := by decide +kernel
theorem d_N_units_50 : decode nb_N_units 50 = .ok (.aload_n 0, 1) := by decide +kernel
theorem d_N_units_51 : decode nb_N_units 51 = .ok (.getfield 66, 3) := by decide +kernel
theorem d_N_units_54 : decode nb_N_units 54 = .ok (.iconst 0, 1) := by decide +kernel
theorem d_N_units_55 : decode nb_N_units 55 = .ok (.invokestatic 85, 3) := by decide +kernel
theorem d_N_units_58 : decode nb_N_units 58 = .ok (.invokestatic 69, 3) := by decide +kernel
theorem d_N_units_61 : decode nb_N_units 61 = .ok (.lmul, 1) := by decide +kernel
theorem d_N_units_62 : decode nb_N_units 62 = .ok (.lstore_n 1, 1) := by decide +kernel
theorem d_N_units_63 : decode nb_N_units 63 = .ok (.aload_n 0, 1) := by decide +kernel
theorem d_N_units_64 : decode nb_N_units 64 = .ok (.getfield 27, 3) := by decide +kernel
theorem d_N_units_67 : decode nb_N_units 67 = .ok (.ifCond .eq 8, 3) := by decide +kernel
theorem d_N_units_70 : decode nb_N_units 70 = .ok (.lload_n 1, 1) := by decide +kernel
theorem d_N_units_71 : decode nb_N_units 71 = .ok (.lneg, 1) := by decide +kernel
theorem d_N_units_72 : decode nb_N_units 72 = .ok (.goto 4, 3) := by decide +kernel
theorem d_N_units_75 : decode nb_N_units 75 = .ok (.lload_n 1, 1) := by decide +kernel
theorem d_N_units_76 : decode nb_N_units 76 = .ok (.lreturn, 1) := by decide +kernel
abbrev rm_N_units : Room := ({ frames := 6, cells := 1, slots := 6, locals := 100 })
theorem w_N_units_36 {post : Int64 → nf_M → Prop} (hfl : l.flags = flags0) (K : nf_K p s m args meth c "NumberForge$Numeral" nb_N_units 3 (some FieldType.long) D a sz) : ∀ (M : nf_M) (H : Heap) (locs : List Loc) (ls : Array Slot), B_N_units_36 post ex  M → lv_has ls 3 [] → nf_W D a s sz H locs M → W p l e rm_N_units s m args below meth c H locs 0 0 (nf_MQ below (nf_Q nf_jJ D a post ex (nf_A a sz)) args s rm_N_units.cells rm_N_units.slots (nf_A a sz)) (F0 m 36 ls []) := by
  have hx := K.1
  have hb := K.2.1
  intro  M H locs ls h hl hw
  exact nf_throw (i := 8) 4 hfl K hw rfl (by decide) na_N_78 nw_381 nw_382 nw_15 rfl d_N_units_36 d_N_units_39 d_N_units_40 d_N_units_42 d_N_units_45 hl.1 ⟨by decide, by decide⟩ ⟨Nat.le_of_ble_eq_true rfl, Nat.le_of_ble_eq_true rfl⟩ h
theorem w_N_units_76 {post : Int64 → nf_M → Prop} (hfl : l.flags = flags0) (K : nf_K p s m args meth c "NumberForge$Numeral" nb_N_units 3 (some FieldType.long) D a sz) : ∀ (xy0 : Int64) (M : nf_M) (H : Heap) (locs : List Loc) (ls : Array Slot), B_N_units_76 post ex xy0 M → lv_has ls 3 [] → nf_W D a s sz H locs M → W p l e rm_N_units s m args below meth c H locs 0 0 (nf_MQ below (nf_Q nf_jJ D a post ex (nf_A a sz)) args s rm_N_units.cells rm_N_units.slots (nf_A a sz)) (F0 m 76 ls [.long xy0]) := by
  have hx := K.1
  have hb := K.2.1
  intro xy0 M H locs ls h hl hw
  exact nf_lret K hw d_N_units_76 (Nat.le_of_ble_eq_true rfl) (Nat.le_of_ble_eq_true rfl) (r := xy0) rfl h
theorem c_N_units (l : Launch) (hfl : l.flags = flags0) : nf_C nf_jJ l nm_N_units nb_N_units 3 (some FieldType.long) rm_N_units (fun a => [.ref (a 6)]) (fun M post ex => P_N_units  M post ex) := by
  refine nf_start (plainFor_of_name (by decide +kernel)) (fun a => Nat.le_of_ble_eq_true rfl) ?_
  intro D a sz M post ex p e s m below meth c ls h K hl hw
  have hx := K.1
  have hb := K.2.1
  have hl : lv_has ls 3 [(0, .ref (a 6))] := hl
  refine lv_aload_n hx hb d_N_units_0 rfl (lv_at hl 0 rfl) ?_
  refine nf_get (v := .int (mg_I M 6 5)) K hw 6 1 5 nw_88 rfl rfl ni_N (by decide) rfl rfl d_N_units_1 ?_
  refine nf_if_ne hx hb d_N_units_4 (tgt := 9) (by decide) (fun hc => ?_) (fun hc => ?_)
  · have h := h.1 hc
    refine lv_lconst (v := (0 : Int64)) hx hb d_N_units_7 (by decide) ?_
    exact nf_lret K hw d_N_units_8 (Nat.le_of_ble_eq_true rfl) (Nat.le_of_ble_eq_true rfl) (r := (0 : Int64)) rfl h
  · have h := h.2 hc
    refine lv_aload_n hx hb d_N_units_9 rfl (lv_at hl 0 rfl) ?_
    refine nf_get (v := .int (mg_I M 6 6)) K hw 6 1 6 nw_89 rfl rfl ni_N (by decide) rfl rfl d_N_units_10 ?_
    refine lv_bipush (v := (-6 : Int32)) hx hb d_N_units_13 (by decide) ?_
    refine nf_ic_lt hx hb d_N_units_15 (tgt := 36) (by decide) (fun hc => ?_) (fun hc => ?_)
    · have h := h.1 hc
      exact w_N_units_36 hfl K  M _ _ _ h (lv_sub hl [] rfl) hw
    · have h := h.2 hc
      refine lv_aload_n hx hb d_N_units_18 rfl (lv_at hl 0 rfl) ?_
      refine nf_get (v := .int (mg_I M 6 5)) K hw 6 1 5 nw_88 rfl rfl ni_N (by decide) rfl rfl d_N_units_19 ?_
      refine lv_aload_n hx hb d_N_units_22 rfl (lv_at hl 0 rfl) ?_
      refine nf_get (v := .int (mg_I M 6 6)) K hw 6 1 6 nw_89 rfl rfl ni_N (by decide) rfl rfl d_N_units_23 ?_
      refine lv_iconst (v := (0 : Int32)) hx hb d_N_units_26 (by decide) ?_
      refine nf_callW (ex := (fun _ _ => False)) (As := [.int (mg_I M 6 6), .int (0 : Int32)]) (st0 := [.int (0 : Int32), .int (mg_I M 6 6), .int (mg_I M 6 5)]) (rest := [.int (mg_I M 6 5)]) K hw (nf_invS hx hb K.2.2.2.1 (nf_Kg K nw_412) (nf_Kg K nw_64) (nf_Kg K nw_4) (nf_Kg K nw_65) ⟨by decide, by decide⟩ rfl nl_JM_max rfl d_N_units_27) (c_JM_max l hfl (mg_I M 6 6) (0 : Int32)) nw_65 nw_4 rfl ⟨by decide, by decide⟩ (Nat.le_of_ble_eq_true rfl) hl.1 ⟨Nat.le_of_ble_eq_true rfl, Nat.le_of_ble_eq_true rfl⟩ h (fun _ _ h => h.elim) (fun r1 M2 H locs h hw => ?_)
      refine W.eq (g2 := F0 m 30 ls [.int r1, .int (mg_I M 6 5)]) rfl ?_
      refine lv_iadd hx hb d_N_units_30 ?_
      refine lv_bipush (v := (15 : Int32)) hx hb d_N_units_31 (by decide) ?_
      refine nf_ic_le hx hb d_N_units_33 (tgt := 46) (by decide) (fun hc => ?_) (fun hc => ?_)
      · have h := h.1 hc
        exact w_N_units_36 hfl K  M2 _ _ _ h (lv_sub hl [] rfl) hw
      · have h := h.2 hc
        refine lv_aload_n hx hb d_N_units_46 rfl (lv_at hl 0 rfl) ?_
        refine nf_get (v := .long (mg_L M2 6 4)) K hw 6 1 4 nw_87 rfl rfl ni_N (by decide) rfl rfl d_N_units_47 ?_
        refine lv_aload_n hx hb d_N_units_50 rfl (lv_at hl 0 rfl) ?_
        refine nf_get (v := .int (mg_I M2 6 6)) K hw 6 1 6 nw_89 rfl rfl ni_N (by decide) rfl rfl d_N_units_51 ?_
        refine lv_iconst (v := (0 : Int32)) hx hb d_N_units_54 (by decide) ?_
        refine nf_callW (ex := (fun _ _ => False)) (As := [.int (mg_I M2 6 6), .int (0 : Int32)]) (st0 := [.int (0 : Int32), .int (mg_I M2 6 6), .long (mg_L M2 6 4)]) (rest := [.long (mg_L M2 6 4)]) K hw (nf_invS hx hb K.2.2.2.1 (nf_Kg K nw_412) (nf_Kg K nw_64) (nf_Kg K nw_4) (nf_Kg K nw_65) ⟨by decide, by decide⟩ rfl nl_JM_max rfl d_N_units_55) (c_JM_max l hfl (mg_I M2 6 6) (0 : Int32)) nw_65 nw_4 rfl ⟨by decide, by decide⟩ (Nat.le_of_ble_eq_true rfl) hl.1 ⟨Nat.le_of_ble_eq_true rfl, Nat.le_of_ble_eq_true rfl⟩ h (fun _ _ h => h.elim) (fun r3 M4 H locs h hw => ?_)
        refine W.eq (g2 := F0 m 58 ls [.int r3, .long (mg_L M2 6 4)]) rfl ?_
        refine nf_callW (ex := (fun _ _ => False)) (As := [.int r3]) (st0 := [.int r3, .long (mg_L M2 6 4)]) (rest := [.long (mg_L M2 6 4)]) K hw (nf_invSN hx hb K.2.2.2.1 ((nf_Kr K nv_351).use rfl) (nf_Kg K nw_352) (nf_Kg K nw_1) (nf_Kg K nw_353) ⟨by decide, by decide⟩ rfl nl_F_power rfl d_N_units_58) (c_F_power l hfl r3) nw_353 nw_1 rfl ⟨by decide, by decide⟩ (Nat.le_of_ble_eq_true rfl) hl.1 ⟨Nat.le_of_ble_eq_true rfl, Nat.le_of_ble_eq_true rfl⟩ h (fun _ _ h => h.elim) (fun r5 M6 H locs h hw => ?_)
        refine W.eq (g2 := F0 m 61 ls [.long r5, .long (mg_L M2 6 4)]) rfl ?_
        refine lv_lmul hx hb d_N_units_61 ?_
        refine lv_topl (fun t7 et7 => ?_)
        have h := h t7 et7
        refine lv_lstore_n (lv' := [(1, .long t7), (0, .ref (a 6))]) hx hb d_N_units_62 rfl hl (by decide) rfl (fun ls hl => ?_)
        refine lv_aload_n hx hb d_N_units_63 rfl (lv_at hl 1 rfl) ?_
        refine nf_get (v := .int (mg_I M6 6 2)) K hw 6 1 2 nw_85 rfl rfl ni_N (by decide) rfl rfl d_N_units_64 ?_
        refine nf_if_eq hx hb d_N_units_67 (tgt := 75) (by decide) (fun hc => ?_) (fun hc => ?_)
        · have h := h.1 hc
          refine lv_lload_n hx hb d_N_units_75 rfl (lv_at hl 0 rfl) ?_
          exact w_N_units_76 hfl K t7 M6 _ _ _ h (lv_sub hl [] rfl) hw
        · have h := h.2 hc
          refine lv_lload_n hx hb d_N_units_70 rfl (lv_at hl 0 rfl) ?_
          refine lv_lneg hx hb d_N_units_71 ?_
          refine lv_goto hx hb d_N_units_72 (tgt := 76) (by decide) ?_
          exact w_N_units_76 hfl K (-t7) M6 _ _ _ h (lv_sub hl [] rfl) hw
theorem d_N_scale_0 : decode nb_N_scale 0 = .ok (.aload_n 0, 1) := by decide +kernel
theorem d_N_scale_1 : decode nb_N_scale 1 = .ok (.getfield 55, 3) := by decide +kernel
theorem d_N_scale_4 : decode nb_N_scale 4 = .ok (.ifCond .ne 7, 3) := by decide +kernel
theorem d_N_scale_7 : decode nb_N_scale 7 = .ok (.iconst 0, 1) := by decide +kernel
theorem d_N_scale_8 : decode nb_N_scale 8 = .ok (.goto 12, 3) := by decide +kernel
theorem d_N_scale_11 : decode nb_N_scale 11 = .ok (.aload_n 0, 1) := by decide +kernel
theorem d_N_scale_12 : decode nb_N_scale 12 = .ok (.getfield 66, 3) := by decide +kernel
theorem d_N_scale_15 : decode nb_N_scale 15 = .ok (.ineg, 1) := by decide +kernel
theorem d_N_scale_16 : decode nb_N_scale 16 = .ok (.iconst 0, 1) := by decide +kernel
theorem d_N_scale_17 : decode nb_N_scale 17 = .ok (.invokestatic 85, 3) := by decide +kernel
theorem d_N_scale_20 : decode nb_N_scale 20 = .ok (.ireturn, 1) := by decide +kernel
abbrev rm_N_scale : Room := ({ frames := 1, cells := 0, slots := 0, locals := 21 })
theorem w_N_scale_20 {post : Int32 → nf_M → Prop} (hfl : l.flags = flags0) (K : nf_K p s m args meth c "NumberForge$Numeral" nb_N_scale 1 (some FieldType.int) D a sz) : ∀ (xy0 : Int32) (M : nf_M) (H : Heap) (locs : List Loc) (ls : Array Slot), B_N_scale_20 post xy0 M → lv_has ls 1 [] → nf_W D a s sz H locs M → W p l e rm_N_scale s m args below meth c H locs 0 0 (nf_MQ below (nf_Q nf_jI D a post ex (nf_A a sz)) args s rm_N_scale.cells rm_N_scale.slots (nf_A a sz)) (F0 m 20 ls [.int xy0]) := by
  have hx := K.1
  have hb := K.2.1
  intro xy0 M H locs ls h hl hw
  exact nf_iret K hw d_N_scale_20 rfl (Nat.le_of_ble_eq_true rfl) (Nat.le_of_ble_eq_true rfl) (r := xy0) rfl h
theorem c_N_scale (l : Launch) (hfl : l.flags = flags0) : nf_C nf_jI l nm_N_scale nb_N_scale 1 (some FieldType.int) rm_N_scale (fun a => [.ref (a 6)]) (fun M post ex => P_N_scale  M post) := by
  refine nf_start (plainFor_of_name (by decide +kernel)) (fun a => Nat.le_of_ble_eq_true rfl) ?_
  intro D a sz M post ex p e s m below meth c ls h K hl hw
  have hx := K.1
  have hb := K.2.1
  have hl : lv_has ls 1 [(0, .ref (a 6))] := hl
  refine lv_aload_n hx hb d_N_scale_0 rfl (lv_at hl 0 rfl) ?_
  refine nf_get (v := .int (mg_I M 6 5)) K hw 6 1 5 nw_88 rfl rfl ni_N (by decide) rfl rfl d_N_scale_1 ?_
  refine nf_if_ne hx hb d_N_scale_4 (tgt := 11) (by decide) (fun hc => ?_) (fun hc => ?_)
  · have h := h.1 hc
    refine lv_iconst (v := (0 : Int32)) hx hb d_N_scale_7 (by decide) ?_
    refine lv_goto hx hb d_N_scale_8 (tgt := 20) (by decide) ?_
    exact w_N_scale_20 hfl K (0 : Int32) M _ _ _ h (lv_sub hl [] rfl) hw
  · have h := h.2 hc
    refine lv_aload_n hx hb d_N_scale_11 rfl (lv_at hl 0 rfl) ?_
    refine nf_get (v := .int (mg_I M 6 6)) K hw 6 1 6 nw_89 rfl rfl ni_N (by decide) rfl rfl d_N_scale_12 ?_
    refine lv_ineg hx hb d_N_scale_15 ?_
    refine lv_iconst (v := (0 : Int32)) hx hb d_N_scale_16 (by decide) ?_
    refine nf_callW (ex := (fun _ _ => False)) (As := [.int (-(mg_I M 6 6)), .int (0 : Int32)]) (st0 := [.int (0 : Int32), .int (-(mg_I M 6 6))]) (rest := []) K hw (nf_invS hx hb K.2.2.2.1 (nf_Kg K nw_412) (nf_Kg K nw_64) (nf_Kg K nw_4) (nf_Kg K nw_65) ⟨by decide, by decide⟩ rfl nl_JM_max rfl d_N_scale_17) (c_JM_max l hfl (-(mg_I M 6 6)) (0 : Int32)) nw_65 nw_4 rfl ⟨by decide, by decide⟩ (Nat.le_of_ble_eq_true rfl) hl.1 ⟨Nat.le_of_ble_eq_true rfl, Nat.le_of_ble_eq_true rfl⟩ h (fun _ _ h => h.elim) (fun r1 M2 H locs h hw => ?_)
    refine W.eq (g2 := F0 m 20 ls [.int r1]) rfl ?_
    exact w_N_scale_20 hfl K r1 M2 _ _ _ h (lv_sub hl [] rfl) hw
theorem d_V_becomeUnits_0 : decode nb_V_becomeUnits 0 = .ok (.aload_n 0, 1) := by decide +kernel
theorem d_V_becomeUnits_1 : decode nb_V_becomeUnits 1 = .ok (.iload_n 1, 1) := by decide +kernel
theorem d_V_becomeUnits_2 : decode nb_V_becomeUnits 2 = .ok (.putfield 9, 3) := by decide +kernel
theorem d_V_becomeUnits_5 : decode nb_V_becomeUnits 5 = .ok (.aload_n 0, 1) := by decide +kernel
theorem d_V_becomeUnits_6 : decode nb_V_becomeUnits 6 = .ok (.lload_n 2, 1) := by decide +kernel
theorem d_V_becomeUnits_7 : decode nb_V_becomeUnits 7 = .ok (.putfield 15, 3) := by decide +kernel
theorem d_V_becomeUnits_10 : decode nb_V_becomeUnits 10 = .ok (.aload_n 0, 1) := by decide +kernel
theorem d_V_becomeUnits_11 : decode nb_V_becomeUnits 11 = .ok (.iload 4, 2) := by decide +kernel
theorem d_V_becomeUnits_13 : decode nb_V_becomeUnits 13 = .ok (.putfield 19, 3) := by decide +kernel
theorem d_V_becomeUnits_16 : decode nb_V_becomeUnits 16 = .ok (.aload_n 0, 1) := by decide +kernel
theorem d_V_becomeUnits_17 : decode nb_V_becomeUnits 17 = .ok (.dconst 0, 1) := by decide +kernel
theorem d_V_becomeUnits_18 : decode nb_V_becomeUnits 18 = .ok (.putfield 22, 3) := by decide +kernel
theorem d_V_becomeUnits_21 : decode nb_V_becomeUnits 21 = .ok (.return_, 1) := by decide +kernel
abbrev rm_V_becomeUnits : Room := ({ frames := 0, cells := 0, slots := 0, locals := 0 })
theorem c_V_becomeUnits (l : Launch) (hfl : l.flags = flags0) (v0 : Fin 9) (x1 : Int32) (x2 : Int64) (x4 : Int32) : nf_C nf_jN l nm_V_becomeUnits nb_V_becomeUnits 5 none rm_V_becomeUnits (fun a => [.ref (a (10 + (v0 : Fin 9).val)), .int x1, .long x2, .int x4]) (fun M post ex => P_V_becomeUnits v0 x1 x2 x4 M post) := by
  refine nf_start (plainFor_of_name (by decide +kernel)) (fun a => Nat.le_of_ble_eq_true rfl) ?_
  intro D a sz M post ex p e s m below meth c ls h K hl hw
  have hx := K.1
  have hb := K.2.1
  have hl : lv_has ls 5 [(0, .ref (a (10 + (v0 : Fin 9).val))), (1, .int x1), (2, .long x2), (4, .int x4)] := hl
  refine lv_aload_n hx hb d_V_becomeUnits_0 rfl (lv_at hl 0 rfl) ?_
  refine lv_iload_n hx hb d_V_becomeUnits_1 rfl (lv_at hl 1 rfl) ?_
  refine nf_put (M' := ms_T M v0 x1) K hw (10 + (v0 : Fin 9).val) 4 0 nw_38 (nf_heV _ _ _) (nf_setT _ _ _ _) rfl ni_V ny_V nq_V nn_V (by decide) rfl rfl rfl rfl (Nat.le_of_ble_eq_true rfl) d_V_becomeUnits_2 (fun H locs hw => ?_)
  obtain ⟨M1, eM1⟩ : ∃ z, z = ms_T M v0 x1 := ⟨_, rfl⟩
  rw [← eM1] at hw
  have h := h M1 eM1
  refine lv_aload_n hx hb d_V_becomeUnits_5 rfl (lv_at hl 0 rfl) ?_
  refine lv_lload_n hx hb d_V_becomeUnits_6 rfl (lv_at hl 2 rfl) ?_
  refine nf_put (M' := ms_U M1 v0 x2) K hw (10 + (v0 : Fin 9).val) 4 1 nw_40 (nf_heV _ _ _) (nf_setU _ _ _ _) rfl ni_V ny_V nq_V nn_V (by decide) rfl rfl rfl rfl (Nat.le_of_ble_eq_true rfl) d_V_becomeUnits_7 (fun H locs hw => ?_)
  obtain ⟨M2, eM2⟩ : ∃ z, z = ms_U M1 v0 x2 := ⟨_, rfl⟩
  rw [← eM2] at hw
  have h := h M2 eM2
  refine lv_aload_n hx hb d_V_becomeUnits_10 rfl (lv_at hl 0 rfl) ?_
  refine lv_iload hx hb d_V_becomeUnits_11 (lv_at hl 3 rfl) ?_
  refine nf_put (M' := ms_S M2 v0 x4) K hw (10 + (v0 : Fin 9).val) 4 2 nw_43 (nf_heV _ _ _) (nf_setS _ _ _ _) rfl ni_V ny_V nq_V nn_V (by decide) rfl rfl rfl rfl (Nat.le_of_ble_eq_true rfl) d_V_becomeUnits_13 (fun H locs hw => ?_)
  obtain ⟨M3, eM3⟩ : ∃ z, z = ms_S M2 v0 x4 := ⟨_, rfl⟩
  rw [← eM3] at hw
  have h := h M3 eM3
  refine lv_aload_n hx hb d_V_becomeUnits_16 rfl (lv_at hl 0 rfl) ?_
  refine lv_dconst0 hx hb d_V_becomeUnits_17 ?_
  refine nf_put (M' := ms_R M3 v0 (FP.dconst0)) K hw (10 + (v0 : Fin 9).val) 4 3 nw_46 (nf_heV _ _ _) (nf_setR _ _ _ _) rfl ni_V ny_V nq_V nn_V (by decide) rfl rfl rfl rfl (Nat.le_of_ble_eq_true rfl) d_V_becomeUnits_18 (fun H locs hw => ?_)
  obtain ⟨M4, eM4⟩ : ∃ z, z = ms_R M3 v0 (FP.dconst0) := ⟨_, rfl⟩
  rw [← eM4] at hw
  have h := h M4 eM4
  exact nf_vret K hw d_V_becomeUnits_21 (Nat.le_of_ble_eq_true rfl) (Nat.le_of_ble_eq_true rfl) (r := ()) rfl h
theorem d_F_checkFits_0 : decode nb_F_checkFits 0 = .ok (.iload_n 2, 1) := by decide +kernel
theorem d_F_checkFits_1 : decode nb_F_checkFits 1 = .ok (.iconst 1, 1) := by decide +kernel
theorem d_F_checkFits_2 : decode nb_F_checkFits 2 = .ok (.if_icmp .le 39, 3) := by decide +kernel
theorem d_F_checkFits_5 : decode nb_F_checkFits 5 = .ok (.iload_n 2, 1) := by decide +kernel
theorem d_F_checkFits_6 : decode nb_F_checkFits 6 = .ok (.bipush 8, 2) := by decide +kernel
theorem d_F_checkFits_8 : decode nb_F_checkFits 8 = .ok (.if_icmp .ge 33, 3) := by decide +kernel
theorem d_F_checkFits_11 : decode nb_F_checkFits 11 = .ok (.lload_n 0, 1) := by decide +kernel
theorem d_F_checkFits_12 : decode nb_F_checkFits 12 = .ok (.getstatic 248, 3) := by decide +kernel
theorem d_F_checkFits_15 : decode nb_F_checkFits 15 = .ok (.iload_n 2, 1) := by decide +kernel
theorem d_F_checkFits_16 : decode nb_F_checkFits 16 = .ok (.laload, 1) := by decide +kernel
theorem d_F_checkFits_17 : decode nb_F_checkFits 17 = .ok (.lcmp, 1) := by decide +kernel
theorem d_F_checkFits_18 : decode nb_F_checkFits 18 = .ok (.ifCond .lt 13, 3) := by decide +kernel
theorem d_F_checkFits_21 : decode nb_F_checkFits 21 = .ok (.lload_n 0, 1) := by decide +kernel
theorem d_F_checkFits_22 : decode nb_F_checkFits 22 = .ok (.getstatic 252, 3) := by decide +kernel
theorem d_F_checkFits_25 : decode nb_F_checkFits 25 = .ok (.iload_n 2, 1) := by decide +kernel
theorem d_F_checkFits_26 : decode nb_F_checkFits 26 = .ok (.laload, 1) := by decide +kernel
theorem d_F_checkFits_27 : decode nb_F_checkFits 27 = .ok (.lcmp, 1) := by decide +kernel
theorem d_F_checkFits_28 : decode nb_F_checkFits 28 = .ok (.ifCond .le 13, 3) := by decide +kernel
theorem d_F_checkFits_31 : decode nb_F_checkFits 31 = .ok (.new 83, 3) := by decide +kernel
theorem d_F_checkFits_34 : decode nb_F_checkFits 34 = .ok (.dup, 1) := by decide +kernel
theorem d_F_checkFits_35 : decode nb_F_checkFits 35 = .ok (.ldc 255, 2) := by decide +kernel
theorem d_F_checkFits_37 : decode nb_F_checkFits 37 = .ok (.invokespecial 87, 3) := by decide +kernel
theorem d_F_checkFits_40 : decode nb_F_checkFits 40 = .ok (.athrow, 1) := by decide +kernel
theorem d_F_checkFits_41 : decode nb_F_checkFits 41 = .ok (.return_, 1) := by decide +kernel
abbrev rm_F_checkFits : Room := ({ frames := 6, cells := 1, slots := 6, locals := 100 })
theorem w_F_checkFits_31 {post : Unit → nf_M → Prop} (hfl : l.flags = flags0) (K : nf_K p s m args meth c "NumberForge" nb_F_checkFits 3 none D a sz) : ∀ (M : nf_M) (H : Heap) (locs : List Loc) (ls : Array Slot), B_F_checkFits_31 post ex  M → lv_has ls 3 [] → nf_W D a s sz H locs M → W p l e rm_F_checkFits s m args below meth c H locs 0 0 (nf_MQ below (nf_Q nf_jN D a post ex (nf_A a sz)) args s rm_F_checkFits.cells rm_F_checkFits.slots (nf_A a sz)) (F0 m 31 ls []) := by
  have hx := K.1
  have hb := K.2.1
  intro  M H locs ls h hl hw
  exact nf_throw (i := 9) 1 hfl K hw rfl (by decide) na_F_87 nw_360 nw_361 nw_14 rfl d_F_checkFits_31 d_F_checkFits_34 d_F_checkFits_35 d_F_checkFits_37 d_F_checkFits_40 hl.1 ⟨by decide, by decide⟩ ⟨Nat.le_of_ble_eq_true rfl, Nat.le_of_ble_eq_true rfl⟩ h
theorem w_F_checkFits_41 {post : Unit → nf_M → Prop} (hfl : l.flags = flags0) (K : nf_K p s m args meth c "NumberForge" nb_F_checkFits 3 none D a sz) : ∀ (M : nf_M) (H : Heap) (locs : List Loc) (ls : Array Slot), B_F_checkFits_41 post ex  M → lv_has ls 3 [] → nf_W D a s sz H locs M → W p l e rm_F_checkFits s m args below meth c H locs 0 0 (nf_MQ below (nf_Q nf_jN D a post ex (nf_A a sz)) args s rm_F_checkFits.cells rm_F_checkFits.slots (nf_A a sz)) (F0 m 41 ls []) := by
  have hx := K.1
  have hb := K.2.1
  intro  M H locs ls h hl hw
  exact nf_vret K hw d_F_checkFits_41 (Nat.le_of_ble_eq_true rfl) (Nat.le_of_ble_eq_true rfl) (r := ()) rfl h
theorem c_F_checkFits (l : Launch) (hfl : l.flags = flags0) (x0 : Int64) (x2 : Int32) : nf_C nf_jN l nm_F_checkFits nb_F_checkFits 3 none rm_F_checkFits (fun a => [.long x0, .int x2]) (fun M post ex => P_F_checkFits x0 x2 M post ex) := by
  refine nf_start (plainFor_of_name (by decide +kernel)) (fun a => Nat.le_of_ble_eq_true rfl) ?_
  intro D a sz M post ex p e s m below meth c ls h K hl hw
  have hx := K.1
  have hb := K.2.1
  have hl : lv_has ls 3 [(0, .long x0), (2, .int x2)] := hl
  refine lv_iload_n hx hb d_F_checkFits_0 rfl (lv_at hl 1 rfl) ?_
  refine lv_iconst (v := (1 : Int32)) hx hb d_F_checkFits_1 (by decide) ?_
  refine nf_ic_le hx hb d_F_checkFits_2 (tgt := 41) (by decide) (fun hc => ?_) (fun hc => ?_)
  · have h := h.1 hc
    refine lv_iload_n hx hb d_F_checkFits_5 rfl (lv_at hl 1 rfl) ?_
    refine lv_bipush (v := (8 : Int32)) hx hb d_F_checkFits_6 (by decide) ?_
    refine nf_ic_ge hx hb d_F_checkFits_8 (tgt := 41) (by decide) (fun hc => ?_) (fun hc => ?_)
    · have h := h.1 hc
      refine lv_lload_n hx hb d_F_checkFits_11 rfl (lv_at hl 0 rfl) ?_
      refine nf_gets K hw (nf_st0 K).2.2.1 nw_424 d_F_checkFits_12 ?_
      refine lv_iload_n hx hb d_F_checkFits_15 rfl (lv_at hl 1 rfl) ?_
      obtain ⟨g1, h⟩ := h
      refine va_tl (v := .long (nf_LOW.getD x2.toNatClampNeg 0)) hx hb (nf_st0 K).2.2.2.1 hw.2.2 g1 rfl d_F_checkFits_16 ?_
      refine nf_lc_lt hx hb d_F_checkFits_17 d_F_checkFits_18 (tgt := 31) (by decide) (fun hc => ?_) (fun hc => ?_)
      · have h := h.1 hc
        exact w_F_checkFits_31 hfl K  M _ _ _ h (lv_sub hl [] rfl) hw
      · have h := h.2 hc
        refine lv_lload_n hx hb d_F_checkFits_21 rfl (lv_at hl 0 rfl) ?_
        refine nf_gets K hw (nf_st0 K).2.2.2.2.1 nw_426 d_F_checkFits_22 ?_
        refine lv_iload_n hx hb d_F_checkFits_25 rfl (lv_at hl 1 rfl) ?_
        obtain ⟨g2, h⟩ := h
        refine va_tl (v := .long (nf_HIGH.getD x2.toNatClampNeg 0)) hx hb (nf_st0 K).2.2.2.2.2.1 hw.2.2 g2 rfl d_F_checkFits_26 ?_
        refine nf_lc_le hx hb d_F_checkFits_27 d_F_checkFits_28 (tgt := 41) (by decide) (fun hc => ?_) (fun hc => ?_)
        · have h := h.1 hc
          exact w_F_checkFits_31 hfl K  M _ _ _ h (lv_sub hl [] rfl) hw
        · have h := h.2 hc
          exact w_F_checkFits_41 hfl K  M _ _ _ h (lv_sub hl [] rfl) hw
    · have h := h.2 hc
      exact w_F_checkFits_41 hfl K  M _ _ _ h (lv_sub hl [] rfl) hw
  · have h := h.2 hc
    exact w_F_checkFits_41 hfl K  M _ _ _ h (lv_sub hl [] rfl) hw
theorem d_V_become_0 : decode nb_V_become 0 = .ok (.aload_n 0, 1) := by decide +kernel
theorem d_V_become_1 : decode nb_V_become 1 = .ok (.aload_n 1, 1) := by decide +kernel
theorem d_V_become_2 : decode nb_V_become 2 = .ok (.getfield 9, 3) := by decide +kernel
theorem d_V_become_5 : decode nb_V_become 5 = .ok (.putfield 9, 3) := by decide +kernel
theorem d_V_become_8 : decode nb_V_become 8 = .ok (.aload_n 0, 1) := by decide +kernel
theorem d_V_become_9 : decode nb_V_become 9 = .ok (.aload_n 1, 1) := by decide +kernel
theorem d_V_become_10 : decode nb_V_become 10 = .ok (.getfield 15, 3) := by decide +kernel
theorem d_V_become_13 : decode nb_V_become 13 = .ok (.putfield 15, 3) := by decide +kernel
theorem d_V_become_16 : decode nb_V_become 16 = .ok (.aload_n 0, 1) := by decide +kernel
theorem d_V_become_17 : decode nb_V_become 17 = .ok (.aload_n 1, 1) := by decide +kernel
theorem d_V_become_18 : decode nb_V_become 18 = .ok (.getfield 19, 3) := by decide +kernel
theorem d_V_become_21 : decode nb_V_become 21 = .ok (.putfield 19, 3) := by decide +kernel
theorem d_V_become_24 : decode nb_V_become 24 = .ok (.aload_n 0, 1) := by decide +kernel
theorem d_V_become_25 : decode nb_V_become 25 = .ok (.aload_n 1, 1) := by decide +kernel
theorem d_V_become_26 : decode nb_V_become 26 = .ok (.getfield 22, 3) := by decide +kernel
theorem d_V_become_29 : decode nb_V_become 29 = .ok (.putfield 22, 3) := by decide +kernel
theorem d_V_become_32 : decode nb_V_become 32 = .ok (.return_, 1) := by decide +kernel
abbrev rm_V_become : Room := ({ frames := 0, cells := 0, slots := 0, locals := 0 })
theorem c_V_become (l : Launch) (hfl : l.flags = flags0) (v0 : Fin 9) (v1 : Fin 9) : nf_C nf_jN l nm_V_become nb_V_become 2 none rm_V_become (fun a => [.ref (a (10 + (v0 : Fin 9).val)), .ref (a (10 + (v1 : Fin 9).val))]) (fun M post ex => P_V_become v0 v1 M post) := by
  refine nf_start (plainFor_of_name (by decide +kernel)) (fun a => Nat.le_of_ble_eq_true rfl) ?_
  intro D a sz M post ex p e s m below meth c ls h K hl hw
  have hx := K.1
  have hb := K.2.1
  have hl : lv_has ls 2 [(0, .ref (a (10 + (v0 : Fin 9).val))), (1, .ref (a (10 + (v1 : Fin 9).val)))] := hl
  refine lv_aload_n hx hb d_V_become_0 rfl (lv_at hl 0 rfl) ?_
  refine lv_aload_n hx hb d_V_become_1 rfl (lv_at hl 1 rfl) ?_
  refine nf_get (v := .int (mg_T M v1)) K hw (10 + (v1 : Fin 9).val) 4 0 nw_38 (nf_heV _ _ _) rfl ni_V (by decide) rfl rfl d_V_become_2 ?_
  refine lv_topi (fun t1 et1 => ?_)
  have h := h t1 et1
  refine nf_put (M' := ms_T M v0 t1) K hw (10 + (v0 : Fin 9).val) 4 0 nw_38 (nf_heV _ _ _) (nf_setT _ _ _ _) rfl ni_V ny_V nq_V nn_V (by decide) rfl rfl rfl rfl (Nat.le_of_ble_eq_true rfl) d_V_become_5 (fun H locs hw => ?_)
  obtain ⟨M2, eM2⟩ : ∃ z, z = ms_T M v0 t1 := ⟨_, rfl⟩
  rw [← eM2] at hw
  have h := h M2 eM2
  refine lv_aload_n hx hb d_V_become_8 rfl (lv_at hl 0 rfl) ?_
  refine lv_aload_n hx hb d_V_become_9 rfl (lv_at hl 1 rfl) ?_
  refine nf_get (v := .long (mg_U M2 v1)) K hw (10 + (v1 : Fin 9).val) 4 1 nw_40 (nf_heV _ _ _) rfl ni_V (by decide) rfl rfl d_V_become_10 ?_
  refine lv_topl (fun t3 et3 => ?_)
  have h := h t3 et3
  refine nf_put (M' := ms_U M2 v0 t3) K hw (10 + (v0 : Fin 9).val) 4 1 nw_40 (nf_heV _ _ _) (nf_setU _ _ _ _) rfl ni_V ny_V nq_V nn_V (by decide) rfl rfl rfl rfl (Nat.le_of_ble_eq_true rfl) d_V_become_13 (fun H locs hw => ?_)
  obtain ⟨M4, eM4⟩ : ∃ z, z = ms_U M2 v0 t3 := ⟨_, rfl⟩
  rw [← eM4] at hw
  have h := h M4 eM4
  refine lv_aload_n hx hb d_V_become_16 rfl (lv_at hl 0 rfl) ?_
  refine lv_aload_n hx hb d_V_become_17 rfl (lv_at hl 1 rfl) ?_
  refine nf_get (v := .int (mg_S M4 v1)) K hw (10 + (v1 : Fin 9).val) 4 2 nw_43 (nf_heV _ _ _) rfl ni_V (by decide) rfl rfl d_V_become_18 ?_
  refine lv_topi (fun t5 et5 => ?_)
  have h := h t5 et5
  refine nf_put (M' := ms_S M4 v0 t5) K hw (10 + (v0 : Fin 9).val) 4 2 nw_43 (nf_heV _ _ _) (nf_setS _ _ _ _) rfl ni_V ny_V nq_V nn_V (by decide) rfl rfl rfl rfl (Nat.le_of_ble_eq_true rfl) d_V_become_21 (fun H locs hw => ?_)
  obtain ⟨M6, eM6⟩ : ∃ z, z = ms_S M4 v0 t5 := ⟨_, rfl⟩
  rw [← eM6] at hw
  have h := h M6 eM6
  refine lv_aload_n hx hb d_V_become_24 rfl (lv_at hl 0 rfl) ?_
  refine lv_aload_n hx hb d_V_become_25 rfl (lv_at hl 1 rfl) ?_
  refine nf_get (v := .double (mg_R M6 v1)) K hw (10 + (v1 : Fin 9).val) 4 3 nw_46 (nf_heV _ _ _) rfl ni_V (by decide) rfl rfl d_V_become_26 ?_
  refine lv_topd (fun t7 et7 => ?_)
  have h := h t7 et7
  refine nf_put (M' := ms_R M6 v0 t7) K hw (10 + (v0 : Fin 9).val) 4 3 nw_46 (nf_heV _ _ _) (nf_setR _ _ _ _) rfl ni_V ny_V nq_V nn_V (by decide) rfl rfl rfl rfl (Nat.le_of_ble_eq_true rfl) d_V_become_29 (fun H locs hw => ?_)
  obtain ⟨M8, eM8⟩ : ∃ z, z = ms_R M6 v0 t7 := ⟨_, rfl⟩
  rw [← eM8] at hw
  have h := h M8 eM8
  exact nf_vret K hw d_V_become_32 (Nat.le_of_ble_eq_true rfl) (Nat.le_of_ble_eq_true rfl) (r := ()) rfl h
theorem d_F_read_0 : decode nb_F_read 0 = .ok (.aload_n 0, 1) := by decide +kernel
theorem d_F_read_1 : decode nb_F_read 1 = .ok (.iload_n 1, 1) := by decide +kernel
theorem d_F_read_2 : decode nb_F_read 2 = .ok (.invokevirtual 71, 3) := by decide +kernel
theorem d_F_read_5 : decode nb_F_read 5 = .ok (.astore_n 3, 1) := by decide +kernel
theorem d_F_read_6 : decode nb_F_read 6 = .ok (.iload_n 2, 1) := by decide +kernel
theorem d_F_read_7 : decode nb_F_read 7 = .ok (.bipush 10, 2) := by decide +kernel
theorem d_F_read_9 : decode nb_F_read 9 = .ok (.invokestatic 75, 3) := by decide +kernel
theorem d_F_read_12 : decode nb_F_read 12 = .ok (.aload_n 0, 1) := by decide +kernel
theorem d_F_read_13 : decode nb_F_read 13 = .ok (.getfield 35, 3) := by decide +kernel
theorem d_F_read_16 : decode nb_F_read 16 = .ok (.aload_n 0, 1) := by decide +kernel
theorem d_F_read_17 : decode nb_F_read 17 = .ok (.getfield 25, 3) := by decide +kernel
theorem d_F_read_20 : decode nb_F_read 20 = .ok (.iload_n 2, 1) := by decide +kernel
theorem d_F_read_21 : decode nb_F_read 21 = .ok (.invokevirtual 79, 3) := by decide +kernel
theorem d_F_read_24 : decode nb_F_read 24 = .ok (.ifCond .ne 13, 3) := by decide +kernel
theorem d_F_read_27 : decode nb_F_read 27 = .ok (.new 83, 3) := by decide +kernel
theorem d_F_read_30 : decode nb_F_read 30 = .ok (.dup, 1) := by decide +kernel
theorem d_F_read_31 : decode nb_F_read 31 = .ok (.ldc 85, 2) := by decide +kernel
theorem d_F_read_33 : decode nb_F_read 33 = .ok (.invokespecial 87, 3) := by decide +kernel
theorem d_F_read_36 : decode nb_F_read 36 = .ok (.athrow, 1) := by decide +kernel
theorem d_F_read_37 : decode nb_F_read 37 = .ok (.iload_n 2, 1) := by decide +kernel
theorem d_F_read_38 : decode nb_F_read 38 = .ok (.bipush 8, 2) := by decide +kernel
theorem d_F_read_40 : decode nb_F_read 40 = .ok (.if_icmp .lt 21, 3) := by decide +kernel
theorem d_F_read_43 : decode nb_F_read 43 = .ok (.aload_n 0, 1) := by decide +kernel
theorem d_F_read_44 : decode nb_F_read 44 = .ok (.getfield 16, 3) := by decide +kernel
theorem d_F_read_47 : decode nb_F_read 47 = .ok (.iload_n 2, 1) := by decide +kernel
theorem d_F_read_48 : decode nb_F_read 48 = .ok (.aload_n 0, 1) := by decide +kernel
theorem d_F_read_49 : decode nb_F_read 49 = .ok (.getfield 35, 3) := by decide +kernel
theorem d_F_read_52 : decode nb_F_read 52 = .ok (.invokevirtual 90, 3) := by decide +kernel
theorem d_F_read_55 : decode nb_F_read 55 = .ok (.invokevirtual 94, 3) := by decide +kernel
theorem d_F_read_58 : decode nb_F_read 58 = .ok (.goto 36, 3) := by decide +kernel
theorem d_F_read_61 : decode nb_F_read 61 = .ok (.aload_n 0, 1) := by decide +kernel
theorem d_F_read_62 : decode nb_F_read 62 = .ok (.getfield 16, 3) := by decide +kernel
theorem d_F_read_65 : decode nb_F_read 65 = .ok (.iload_n 2, 1) := by decide +kernel
theorem d_F_read_66 : decode nb_F_read 66 = .ok (.aload_n 0, 1) := by decide +kernel
theorem d_F_read_67 : decode nb_F_read 67 = .ok (.getfield 35, 3) := by decide +kernel
theorem d_F_read_70 : decode nb_F_read 70 = .ok (.invokevirtual 98, 3) := by decide +kernel
theorem d_F_read_73 : decode nb_F_read 73 = .ok (.aload_n 0, 1) := by decide +kernel
theorem d_F_read_74 : decode nb_F_read 74 = .ok (.getfield 35, 3) := by decide +kernel
theorem d_F_read_77 : decode nb_F_read 77 = .ok (.invokevirtual 102, 3) := by decide +kernel
theorem d_F_read_80 : decode nb_F_read 80 = .ok (.invokevirtual 106, 3) := by decide +kernel
theorem d_F_read_83 : decode nb_F_read 83 = .ok (.aload_n 0, 1) := by decide +kernel
theorem d_F_read_84 : decode nb_F_read 84 = .ok (.getfield 16, 3) := by decide +kernel
theorem d_F_read_87 : decode nb_F_read 87 = .ok (.getfield 110, 3) := by decide +kernel
theorem d_F_read_90 : decode nb_F_read 90 = .ok (.iload_n 2, 1) := by decide +kernel
theorem d_F_read_91 : decode nb_F_read 91 = .ok (.invokestatic 113, 3) := by decide +kernel
theorem d_F_read_94 : decode nb_F_read 94 = .ok (.aload_n 3, 1) := by decide +kernel
theorem d_F_read_95 : decode nb_F_read 95 = .ok (.aload_n 0, 1) := by decide +kernel
theorem d_F_read_96 : decode nb_F_read 96 = .ok (.getfield 16, 3) := by decide +kernel
theorem d_F_read_99 : decode nb_F_read 99 = .ok (.invokevirtual 117, 3) := by decide +kernel
theorem d_F_read_102 : decode nb_F_read 102 = .ok (.aload_n 0, 1) := by decide +kernel
theorem d_F_read_103 : decode nb_F_read 103 = .ok (.getfield 25, 3) := by decide +kernel
theorem d_F_read_106 : decode nb_F_read 106 = .ok (.invokevirtual 68, 3) := by decide +kernel
theorem d_F_read_109 : decode nb_F_read 109 = .ok (.return_, 1) := by decide +kernel
abbrev rm_F_read : Room := ({ frames := 7, cells := 4, slots := 24, locals := 122 })
theorem w_F_read_94 {post : Unit → nf_M → Prop} (hfl : l.flags = flags0) (K : nf_K p s m args meth c "NumberForge" nb_F_read 4 none D a sz) : ∀ (v3 : Fin 9) (M : nf_M) (H : Heap) (locs : List Loc) (ls : Array Slot), B_F_read_94 post ex v3 M → lv_has ls 4 [(0, .ref (a 0)), (3, .ref (a (10 + (v3 : Fin 9).val)))] → nf_W D a s sz H locs M → W p l e rm_F_read s m args below meth c H locs 4 24 (nf_MQ below (nf_Q nf_jN D a post ex (nf_A a sz)) args s rm_F_read.cells rm_F_read.slots (nf_A a sz)) (F0 m 94 ls []) := by
  have hx := K.1
  have hb := K.2.1
  intro v3 M H locs ls h hl hw
  refine lv_aload_n hx hb d_F_read_94 rfl (lv_at hl 1 rfl) ?_
  refine lv_aload_n hx hb d_F_read_95 rfl (lv_at hl 0 rfl) ?_
  refine nf_get (v := .ref (a (10 + ((0 : Fin 9) : Fin 9).val))) K hw 0 6 1 nw_169 rfl rfl ni_F (by decide) rfl rfl d_F_read_96 ?_
  refine nf_callW (ex := (fun _ _ => False)) (As := [.ref (a (10 + (v3 : Fin 9).val)), .ref (a (10 + ((0 : Fin 9) : Fin 9).val))]) (st0 := [.ref (a (10 + ((0 : Fin 9) : Fin 9).val)), .ref (a (10 + (v3 : Fin 9).val))]) (rest := []) K hw (nf_invVN hx hb K.2.2.2.1 ((nf_Kr K nv_429).use rfl) (nf_Kg K nw_431) (nf_Kg K nx_V_become) (nf_Kg K nw_432) ⟨by decide, by decide⟩ (nf_rcv K hw (10 + (v3 : Fin 9).val) 4 (nf_heV _ _ _) rfl) rfl nl_V_become rfl d_F_read_99) (c_V_become l hfl v3 (0 : Fin 9)) nw_432 nw_2 rfl ⟨by decide, by decide⟩ (Nat.le_of_ble_eq_true rfl) hl.1 ⟨Nat.le_of_ble_eq_true rfl, Nat.le_of_ble_eq_true rfl⟩ h (fun _ _ h => h.elim) (fun r1 M2 H locs h hw => ?_)
  refine W.eq (g2 := F0 m 102 ls []) rfl ?_
  refine lv_aload_n hx hb d_F_read_102 rfl (lv_at hl 0 rfl) ?_
  refine nf_get (v := .ref (a (nf_ro false))) K hw 0 6 2 nw_170 rfl rfl ni_F (by decide) rfl rfl d_F_read_103 ?_
  refine nf_callW (ex := (fun _ _ => False)) (As := [.ref (a (nf_ro false))]) (st0 := [.ref (a (nf_ro false))]) (rest := []) K hw (nf_invVN hx hb K.2.2.2.1 ((nf_Kr K nv_205).use rfl) (nf_Kg K nw_207) (nf_Kg K nx_R_clear) (nf_Kg K nw_208) ⟨by decide, by decide⟩ (nf_rcv K hw (nf_ro false) 3 (nf_heR _ _ _) rfl) rfl nl_R_clear rfl d_F_read_106) (c_R_clear l hfl false) nw_208 nw_3 rfl ⟨by decide, by decide⟩ (Nat.le_of_ble_eq_true rfl) hl.1 ⟨Nat.le_of_ble_eq_true rfl, Nat.le_of_ble_eq_true rfl⟩ h (fun _ _ h => h.elim) (fun r3 M4 H locs h hw => ?_)
  refine W.eq (g2 := F0 m 109 ls []) rfl ?_
  exact nf_vret K hw d_F_read_109 (Nat.le_of_ble_eq_true rfl) (Nat.le_of_ble_eq_true rfl) (r := ()) rfl h
theorem c_F_read (l : Launch) (hfl : l.flags = flags0) (x1 : Int32) (x2 : Int32) : nf_C nf_jN l nm_F_read nb_F_read 4 none rm_F_read (fun a => [.ref (a 0), .int x1, .int x2]) (fun M post ex => P_F_read x1 x2 M post ex) := by
  refine nf_start (plainFor_of_name (by decide +kernel)) (fun a => Nat.le_of_ble_eq_true rfl) ?_
  intro D a sz M post ex p e s m below meth c ls h K hl hw
  have hx := K.1
  have hb := K.2.1
  have hl : lv_has ls 4 [(0, .ref (a 0)), (1, .int x1), (2, .int x2)] := hl
  refine lv_aload_n hx hb d_F_read_0 rfl (lv_at hl 0 rfl) ?_
  refine lv_iload_n hx hb d_F_read_1 rfl (lv_at hl 1 rfl) ?_
  refine nf_callW (ex := ex) (As := [.ref (a 0), .int x1]) (st0 := [.int x1, .ref (a 0)]) (rest := []) K hw (nf_invV hx hb K.2.2.2.1 (nf_Kg K nw_243) (nf_Kg K nw_245) (nf_Kg K nx_F_register) (nf_Kg K nw_246) ⟨by decide, by decide⟩ (nf_rcv K hw 0 6 rfl rfl) rfl nl_F_register rfl d_F_read_2) (c_F_register l hfl x1) nw_246 nw_1 rfl ⟨by decide, by decide⟩ (Nat.le_of_ble_eq_true rfl) hl.1 ⟨Nat.le_of_ble_eq_true rfl, Nat.le_of_ble_eq_true rfl⟩ h (fun _ _ h => h) (fun r1 M2 H locs h hw => ?_)
  refine W.eq (g2 := F0 m 5 ls [.ref (a (10 + (r1 : Fin 9).val))]) rfl ?_
  refine W.widen (k := 1) (n := 6) (by decide) (by decide) ?_
  refine lv_astore_n (lv' := [(3, .ref (a (10 + (r1 : Fin 9).val))), (0, .ref (a 0)), (1, .int x1), (2, .int x2)]) hx hb d_F_read_5 rfl hl (by decide) rfl (fun ls hl => ?_)
  refine lv_iload_n hx hb d_F_read_6 rfl (lv_at hl 3 rfl) ?_
  refine lv_bipush (v := (10 : Int32)) hx hb d_F_read_7 (by decide) ?_
  refine nf_callW (ex := ex) (As := [.int x2, .int (10 : Int32)]) (st0 := [.int (10 : Int32), .int x2]) (rest := []) K hw (nf_invS hx hb K.2.2.2.1 (nf_Kg K nw_317) (nf_Kg K nw_318) (nf_Kg K nw_1) (nf_Kg K nw_319) ⟨by decide, by decide⟩ rfl nl_F_checkIndex rfl d_F_read_9) (c_F_checkIndex l hfl x2 (10 : Int32)) nw_319 nw_1 rfl ⟨by decide, by decide⟩ (Nat.le_of_ble_eq_true rfl) hl.1 ⟨Nat.le_of_ble_eq_true rfl, Nat.le_of_ble_eq_true rfl⟩ h (fun _ _ h => h) (fun r3 M4 H locs h hw => ?_)
  refine W.eq (g2 := F0 m 12 ls []) rfl ?_
  refine W.widen (k := 2) (n := 12) (by decide) (by decide) ?_
  refine lv_aload_n hx hb d_F_read_12 rfl (lv_at hl 1 rfl) ?_
  refine nf_get (v := .ref (a 6)) K hw 0 6 4 nw_172 rfl rfl ni_F (by decide) rfl rfl d_F_read_13 ?_
  refine lv_aload_n hx hb d_F_read_16 rfl (lv_at hl 1 rfl) ?_
  refine nf_get (v := .ref (a (nf_ro false))) K hw 0 6 2 nw_170 rfl rfl ni_F (by decide) rfl rfl d_F_read_17 ?_
  refine lv_iload_n hx hb d_F_read_20 rfl (lv_at hl 3 rfl) ?_
  refine nf_callW (ex := (fun _ _ => False)) (As := [.ref (a 6), .ref (a (nf_ro false)), .int x2]) (st0 := [.int x2, .ref (a (nf_ro false)), .ref (a 6)]) (rest := []) K hw (nf_invVN hx hb K.2.2.2.1 ((nf_Kr K nv_321).use rfl) (nf_Kg K nw_323) (nf_Kg K nx_N_parse) (nf_Kg K nw_324) ⟨by decide, by decide⟩ (nf_rcv K hw 6 1 rfl rfl) rfl nl_N_parse rfl d_F_read_21) (c_N_parse l hfl false x2) nw_324 nw_5 rfl ⟨by decide, by decide⟩ (Nat.le_of_ble_eq_true rfl) hl.1 ⟨Nat.le_of_ble_eq_true rfl, Nat.le_of_ble_eq_true rfl⟩ h (fun _ _ h => h.elim) (fun r5 M6 H locs h hw => ?_)
  refine W.eq (g2 := F0 m 24 ls [.int r5]) rfl ?_
  refine nf_if_ne hx hb d_F_read_24 (tgt := 37) (by decide) (fun hc => ?_) (fun hc => ?_)
  · have h := h.1 hc
    exact nf_throw (i := 7) 1 hfl K hw rfl (by decide) na_F_87 nw_360 nw_361 nw_14 rfl d_F_read_27 d_F_read_30 d_F_read_31 d_F_read_33 d_F_read_36 hl.1 ⟨by decide, by decide⟩ ⟨Nat.le_of_ble_eq_true rfl, Nat.le_of_ble_eq_true rfl⟩ h
  · have h := h.2 hc
    refine lv_iload_n hx hb d_F_read_37 rfl (lv_at hl 3 rfl) ?_
    refine lv_bipush (v := (8 : Int32)) hx hb d_F_read_38 (by decide) ?_
    refine nf_ic_lt hx hb d_F_read_40 (tgt := 61) (by decide) (fun hc => ?_) (fun hc => ?_)
    · have h := h.1 hc
      refine lv_aload_n hx hb d_F_read_61 rfl (lv_at hl 1 rfl) ?_
      refine nf_get (v := .ref (a (10 + ((0 : Fin 9) : Fin 9).val))) K hw 0 6 1 nw_169 rfl rfl ni_F (by decide) rfl rfl d_F_read_62 ?_
      refine lv_iload_n hx hb d_F_read_65 rfl (lv_at hl 3 rfl) ?_
      refine lv_aload_n hx hb d_F_read_66 rfl (lv_at hl 1 rfl) ?_
      refine nf_get (v := .ref (a 6)) K hw 0 6 4 nw_172 rfl rfl ni_F (by decide) rfl rfl d_F_read_67 ?_
      refine nf_callW (ex := ex) (As := [.ref (a 6)]) (st0 := [.ref (a 6), .int x2, .ref (a (10 + ((0 : Fin 9) : Fin 9).val))]) (rest := [.int x2, .ref (a (10 + ((0 : Fin 9) : Fin 9).val))]) K hw (nf_invVN hx hb K.2.2.2.1 ((nf_Kr K nv_408).use rfl) (nf_Kg K nw_410) (nf_Kg K nx_N_units) (nf_Kg K nw_411) ⟨by decide, by decide⟩ (nf_rcv K hw 6 1 rfl rfl) rfl nl_N_units rfl d_F_read_70) (c_N_units l hfl ) nw_411 nw_5 rfl ⟨by decide, by decide⟩ (Nat.le_of_ble_eq_true rfl) hl.1 ⟨Nat.le_of_ble_eq_true rfl, Nat.le_of_ble_eq_true rfl⟩ h (fun _ _ h => h) (fun r7 M8 H locs h hw => ?_)
      refine W.eq (g2 := F0 m 73 ls [.long r7, .int x2, .ref (a (10 + ((0 : Fin 9) : Fin 9).val))]) rfl ?_
      refine W.widen (k := 3) (n := 18) (by decide) (by decide) ?_
      refine lv_aload_n hx hb d_F_read_73 rfl (lv_at hl 1 rfl) ?_
      refine nf_get (v := .ref (a 6)) K hw 0 6 4 nw_172 rfl rfl ni_F (by decide) rfl rfl d_F_read_74 ?_
      refine nf_callW (ex := (fun _ _ => False)) (As := [.ref (a 6)]) (st0 := [.ref (a 6), .long r7, .int x2, .ref (a (10 + ((0 : Fin 9) : Fin 9).val))]) (rest := [.long r7, .int x2, .ref (a (10 + ((0 : Fin 9) : Fin 9).val))]) K hw (nf_invVN hx hb K.2.2.2.1 ((nf_Kr K nv_413).use rfl) (nf_Kg K nw_415) (nf_Kg K nx_N_scale) (nf_Kg K nw_416) ⟨by decide, by decide⟩ (nf_rcv K hw 6 1 rfl rfl) rfl nl_N_scale rfl d_F_read_77) (c_N_scale l hfl ) nw_416 nw_5 rfl ⟨by decide, by decide⟩ (Nat.le_of_ble_eq_true rfl) hl.1 ⟨Nat.le_of_ble_eq_true rfl, Nat.le_of_ble_eq_true rfl⟩ h (fun _ _ h => h.elim) (fun r9 M10 H locs h hw => ?_)
      refine W.eq (g2 := F0 m 80 ls [.int r9, .long r7, .int x2, .ref (a (10 + ((0 : Fin 9) : Fin 9).val))]) rfl ?_
      refine nf_callW (ex := (fun _ _ => False)) (As := [.ref (a (10 + ((0 : Fin 9) : Fin 9).val)), .int x2, .long r7, .int r9]) (st0 := [.int r9, .long r7, .int x2, .ref (a (10 + ((0 : Fin 9) : Fin 9).val))]) (rest := []) K hw (nf_invVN hx hb K.2.2.2.1 ((nf_Kr K nv_417).use rfl) (nf_Kg K nw_419) (nf_Kg K nx_V_becomeUnits) (nf_Kg K nw_420) ⟨by decide, by decide⟩ (nf_rcv K hw (10 + ((0 : Fin 9) : Fin 9).val) 4 (nf_heV _ _ _) rfl) rfl nl_V_becomeUnits rfl d_F_read_80) (c_V_becomeUnits l hfl (0 : Fin 9) x2 r7 r9) nw_420 nw_2 rfl ⟨by decide, by decide⟩ (Nat.le_of_ble_eq_true rfl) hl.1 ⟨Nat.le_of_ble_eq_true rfl, Nat.le_of_ble_eq_true rfl⟩ h (fun _ _ h => h.elim) (fun r11 M12 H locs h hw => ?_)
      refine W.eq (g2 := F0 m 83 ls []) rfl ?_
      refine lv_aload_n hx hb d_F_read_83 rfl (lv_at hl 1 rfl) ?_
      refine nf_get (v := .ref (a (10 + ((0 : Fin 9) : Fin 9).val))) K hw 0 6 1 nw_169 rfl rfl ni_F (by decide) rfl rfl d_F_read_84 ?_
      refine nf_getN (v := .long (mg_U M12 (0 : Fin 9))) K hw (10 + ((0 : Fin 9) : Fin 9).val) 4 1 nv_41 (nf_heV _ _ _) rfl ni_V (by decide) rfl rfl d_F_read_87 ?_
      refine lv_iload_n hx hb d_F_read_90 rfl (lv_at hl 3 rfl) ?_
      refine nf_callW (ex := ex) (As := [.long (mg_U M12 (0 : Fin 9)), .int x2]) (st0 := [.int x2, .long (mg_U M12 (0 : Fin 9))]) (rest := []) K hw (nf_invS hx hb K.2.2.2.1 (nf_Kg K nw_421) (nf_Kg K nw_422) (nf_Kg K nw_1) (nf_Kg K nw_423) ⟨by decide, by decide⟩ rfl nl_F_checkFits rfl d_F_read_91) (c_F_checkFits l hfl (mg_U M12 (0 : Fin 9)) x2) nw_423 nw_1 rfl ⟨by decide, by decide⟩ (Nat.le_of_ble_eq_true rfl) hl.1 ⟨Nat.le_of_ble_eq_true rfl, Nat.le_of_ble_eq_true rfl⟩ h (fun _ _ h => h) (fun r13 M14 H locs h hw => ?_)
      refine W.eq (g2 := F0 m 94 ls []) rfl ?_
      refine W.widen (k := 4) (n := 24) (by decide) (by decide) ?_
      exact w_F_read_94 hfl K r1 M14 _ _ _ h (lv_sub hl [1, 0] rfl) hw
    · have h := h.2 hc
      refine lv_aload_n hx hb d_F_read_43 rfl (lv_at hl 1 rfl) ?_
      refine nf_get (v := .ref (a (10 + ((0 : Fin 9) : Fin 9).val))) K hw 0 6 1 nw_169 rfl rfl ni_F (by decide) rfl rfl d_F_read_44 ?_
      refine lv_iload_n hx hb d_F_read_47 rfl (lv_at hl 3 rfl) ?_
      refine lv_aload_n hx hb d_F_read_48 rfl (lv_at hl 1 rfl) ?_
      refine nf_get (v := .ref (a 6)) K hw 0 6 4 nw_172 rfl rfl ni_F (by decide) rfl rfl d_F_read_49 ?_
      refine nf_callW (ex := ex) (As := [.ref (a 6)]) (st0 := [.ref (a 6), .int x2, .ref (a (10 + ((0 : Fin 9) : Fin 9).val))]) (rest := [.int x2, .ref (a (10 + ((0 : Fin 9) : Fin 9).val))]) K hw (nf_invVN hx hb K.2.2.2.1 ((nf_Kr K nv_376).use rfl) (nf_Kg K nw_378) (nf_Kg K nx_N_asFloating) (nf_Kg K nw_379) ⟨by decide, by decide⟩ (nf_rcv K hw 6 1 rfl rfl) rfl nl_N_asFloating rfl d_F_read_52) (c_N_asFloating l hfl ) nw_379 nw_5 rfl ⟨by decide, by decide⟩ (Nat.le_of_ble_eq_true rfl) hl.1 ⟨Nat.le_of_ble_eq_true rfl, Nat.le_of_ble_eq_true rfl⟩ h (fun _ _ h => h) (fun r15 M16 H locs h hw => ?_)
      refine W.eq (g2 := F0 m 55 ls [.double r15, .int x2, .ref (a (10 + ((0 : Fin 9) : Fin 9).val))]) rfl ?_
      refine W.widen (k := 3) (n := 18) (by decide) (by decide) ?_
      refine nf_callW (ex := (fun _ _ => False)) (As := [.ref (a (10 + ((0 : Fin 9) : Fin 9).val)), .int x2, .double r15]) (st0 := [.double r15, .int x2, .ref (a (10 + ((0 : Fin 9) : Fin 9).val))]) (rest := []) K hw (nf_invVN hx hb K.2.2.2.1 ((nf_Kr K nv_404).use rfl) (nf_Kg K nw_406) (nf_Kg K nx_V_becomeFloating) (nf_Kg K nw_407) ⟨by decide, by decide⟩ (nf_rcv K hw (10 + ((0 : Fin 9) : Fin 9).val) 4 (nf_heV _ _ _) rfl) rfl nl_V_becomeFloating rfl d_F_read_55) (c_V_becomeFloating l hfl (0 : Fin 9) x2 r15) nw_407 nw_2 rfl ⟨by decide, by decide⟩ (Nat.le_of_ble_eq_true rfl) hl.1 ⟨Nat.le_of_ble_eq_true rfl, Nat.le_of_ble_eq_true rfl⟩ h (fun _ _ h => h.elim) (fun r17 M18 H locs h hw => ?_)
      refine W.eq (g2 := F0 m 58 ls []) rfl ?_
      refine lv_goto hx hb d_F_read_58 (tgt := 94) (by decide) ?_
      refine W.widen (k := 4) (n := 24) (by decide) (by decide) ?_
      exact w_F_read_94 hfl K r1 M18 _ _ _ h (lv_sub hl [1, 0] rfl) hw
theorem d_F_put_0 : decode nb_F_put 0 = .ok (.aload_n 0, 1) := by decide +kernel
theorem d_F_put_1 : decode nb_F_put 1 = .ok (.iload_n 1, 1) := by decide +kernel
theorem d_F_put_2 : decode nb_F_put 2 = .ok (.invokevirtual 71, 3) := by decide +kernel
theorem d_F_put_5 : decode nb_F_put 5 = .ok (.astore 5, 2) := by decide +kernel
theorem d_F_put_7 : decode nb_F_put 7 = .ok (.dload_n 2, 1) := by decide +kernel
theorem d_F_put_8 : decode nb_F_put 8 = .ok (.dload_n 2, 1) := by decide +kernel
theorem d_F_put_9 : decode nb_F_put 9 = .ok (.dcmp .l, 1) := by decide +kernel
theorem d_F_put_10 : decode nb_F_put 10 = .ok (.ifCond .ne 21, 3) := by decide +kernel
theorem d_F_put_13 : decode nb_F_put 13 = .ok (.aload 5, 2) := by decide +kernel
theorem d_F_put_15 : decode nb_F_put 15 = .ok (.iload 4, 2) := by decide +kernel
theorem d_F_put_17 : decode nb_F_put 17 = .ok (.ifCond .eq 8, 3) := by decide +kernel
theorem d_F_put_20 : decode nb_F_put 20 = .ok (.bipush 8, 2) := by decide +kernel
theorem d_F_put_22 : decode nb_F_put 22 = .ok (.goto 5, 3) := by decide +kernel
theorem d_F_put_25 : decode nb_F_put 25 = .ok (.bipush 9, 2) := by decide +kernel
theorem d_F_put_27 : decode nb_F_put 27 = .ok (.dload_n 2, 1) := by decide +kernel
theorem d_F_put_28 : decode nb_F_put 28 = .ok (.invokevirtual 94, 3) := by decide +kernel
theorem d_F_put_31 : decode nb_F_put 31 = .ok (.return_, 1) := by decide +kernel
abbrev rm_F_put : Room := ({ frames := 7, cells := 1, slots := 6, locals := 121 })
theorem w_F_put_31 {post : Unit → nf_M → Prop} (hfl : l.flags = flags0) (K : nf_K p s m args meth c "NumberForge" nb_F_put 6 none D a sz) : ∀ (M : nf_M) (H : Heap) (locs : List Loc) (ls : Array Slot), B_F_put_31 post ex  M → lv_has ls 6 [] → nf_W D a s sz H locs M → W p l e rm_F_put s m args below meth c H locs 1 6 (nf_MQ below (nf_Q nf_jN D a post ex (nf_A a sz)) args s rm_F_put.cells rm_F_put.slots (nf_A a sz)) (F0 m 31 ls []) := by
  have hx := K.1
  have hb := K.2.1
  intro  M H locs ls h hl hw
  exact nf_vret K hw d_F_put_31 (Nat.le_of_ble_eq_true rfl) (Nat.le_of_ble_eq_true rfl) (r := ()) rfl h
theorem w_F_put_27 {post : Unit → nf_M → Prop} (hfl : l.flags = flags0) (K : nf_K p s m args meth c "NumberForge" nb_F_put 6 none D a sz) : ∀ (x2 : UInt64) (xy0 : Int32) (vy1 : Fin 9) (M : nf_M) (H : Heap) (locs : List Loc) (ls : Array Slot), B_F_put_27 post ex x2 xy0 vy1 M → lv_has ls 6 [(2, .double x2)] → nf_W D a s sz H locs M → W p l e rm_F_put s m args below meth c H locs 1 6 (nf_MQ below (nf_Q nf_jN D a post ex (nf_A a sz)) args s rm_F_put.cells rm_F_put.slots (nf_A a sz)) (F0 m 27 ls [.int xy0, .ref (a (10 + (vy1 : Fin 9).val))]) := by
  have hx := K.1
  have hb := K.2.1
  intro x2 xy0 vy1 M H locs ls h hl hw
  refine lv_dload_n hx hb d_F_put_27 rfl (lv_at hl 0 rfl) ?_
  refine nf_callW (ex := (fun _ _ => False)) (As := [.ref (a (10 + (vy1 : Fin 9).val)), .int xy0, .double x2]) (st0 := [.double x2, .int xy0, .ref (a (10 + (vy1 : Fin 9).val))]) (rest := []) K hw (nf_invVN hx hb K.2.2.2.1 ((nf_Kr K nv_404).use rfl) (nf_Kg K nw_406) (nf_Kg K nx_V_becomeFloating) (nf_Kg K nw_407) ⟨by decide, by decide⟩ (nf_rcv K hw (10 + (vy1 : Fin 9).val) 4 (nf_heV _ _ _) rfl) rfl nl_V_becomeFloating rfl d_F_put_28) (c_V_becomeFloating l hfl vy1 xy0 x2) nw_407 nw_2 rfl ⟨by decide, by decide⟩ (Nat.le_of_ble_eq_true rfl) hl.1 ⟨Nat.le_of_ble_eq_true rfl, Nat.le_of_ble_eq_true rfl⟩ h (fun _ _ h => h.elim) (fun r1 M2 H locs h hw => ?_)
  refine W.eq (g2 := F0 m 31 ls []) rfl ?_
  exact w_F_put_31 hfl K  M2 _ _ _ h (lv_sub hl [] rfl) hw
theorem c_F_put (l : Launch) (hfl : l.flags = flags0) (x1 : Int32) (x2 : UInt64) (x4 : Int32) : nf_C nf_jN l nm_F_put nb_F_put 6 none rm_F_put (fun a => [.ref (a 0), .int x1, .double x2, .int x4]) (fun M post ex => P_F_put x1 x2 x4 M post ex) := by
  refine nf_start (plainFor_of_name (by decide +kernel)) (fun a => Nat.le_of_ble_eq_true rfl) ?_
  intro D a sz M post ex p e s m below meth c ls h K hl hw
  have hx := K.1
  have hb := K.2.1
  have hl : lv_has ls 6 [(0, .ref (a 0)), (1, .int x1), (2, .double x2), (4, .int x4)] := hl
  refine lv_aload_n hx hb d_F_put_0 rfl (lv_at hl 0 rfl) ?_
  refine lv_iload_n hx hb d_F_put_1 rfl (lv_at hl 1 rfl) ?_
  refine nf_callW (ex := ex) (As := [.ref (a 0), .int x1]) (st0 := [.int x1, .ref (a 0)]) (rest := []) K hw (nf_invV hx hb K.2.2.2.1 (nf_Kg K nw_243) (nf_Kg K nw_245) (nf_Kg K nx_F_register) (nf_Kg K nw_246) ⟨by decide, by decide⟩ (nf_rcv K hw 0 6 rfl rfl) rfl nl_F_register rfl d_F_put_2) (c_F_register l hfl x1) nw_246 nw_1 rfl ⟨by decide, by decide⟩ (Nat.le_of_ble_eq_true rfl) hl.1 ⟨Nat.le_of_ble_eq_true rfl, Nat.le_of_ble_eq_true rfl⟩ h (fun _ _ h => h) (fun r1 M2 H locs h hw => ?_)
  refine W.eq (g2 := F0 m 5 ls [.ref (a (10 + (r1 : Fin 9).val))]) rfl ?_
  refine W.widen (k := 1) (n := 6) (by decide) (by decide) ?_
  refine lv_astore (lv' := [(5, .ref (a (10 + (r1 : Fin 9).val))), (0, .ref (a 0)), (1, .int x1), (2, .double x2), (4, .int x4)]) hx hb d_F_put_5 hl (by decide) rfl (fun ls hl => ?_)
  refine lv_dload_n hx hb d_F_put_7 rfl (lv_at hl 3 rfl) ?_
  refine lv_dload_n hx hb d_F_put_8 rfl (lv_at hl 3 rfl) ?_
  refine nf_dl_ne hx hb d_F_put_9 d_F_put_10 (tgt := 31) (by decide) (fun hc => ?_) (fun hc => ?_)
  · have h := h.1 hc
    refine lv_aload hx hb d_F_put_13 (lv_at hl 0 rfl) ?_
    refine lv_iload hx hb d_F_put_15 (lv_at hl 4 rfl) ?_
    refine nf_if_eq hx hb d_F_put_17 (tgt := 25) (by decide) (fun hc => ?_) (fun hc => ?_)
    · have h := h.1 hc
      refine lv_bipush (v := (9 : Int32)) hx hb d_F_put_25 (by decide) ?_
      exact w_F_put_27 hfl K x2 (9 : Int32) r1 M2 _ _ _ h (lv_sub hl [3] rfl) hw
    · have h := h.2 hc
      refine lv_bipush (v := (8 : Int32)) hx hb d_F_put_20 (by decide) ?_
      refine lv_goto hx hb d_F_put_22 (tgt := 27) (by decide) ?_
      exact w_F_put_27 hfl K x2 (8 : Int32) r1 M2 _ _ _ h (lv_sub hl [3] rfl) hw
  · have h := h.2 hc
    exact w_F_put_31 hfl K  M2 _ _ _ h (lv_sub hl [] rfl) hw
theorem d_F_checkFull_0 : decode nb_F_checkFull 0 = .ok (.aload_n 0, 1) := by decide +kernel
theorem d_F_checkFull_1 : decode nb_F_checkFull 1 = .ok (.getfield 135, 3) := by decide +kernel
theorem d_F_checkFull_4 : decode nb_F_checkFull 4 = .ok (.iconst (-1), 1) := by decide +kernel
theorem d_F_checkFull_5 : decode nb_F_checkFull 5 = .ok (.if_icmp .ne 13, 3) := by decide +kernel
theorem d_F_checkFull_8 : decode nb_F_checkFull 8 = .ok (.new 221, 3) := by decide +kernel
theorem d_F_checkFull_11 : decode nb_F_checkFull 11 = .ok (.dup, 1) := by decide +kernel
theorem d_F_checkFull_12 : decode nb_F_checkFull 12 = .ok (.ldc 246, 2) := by decide +kernel
theorem d_F_checkFull_14 : decode nb_F_checkFull 14 = .ok (.invokespecial 225, 3) := by decide +kernel
theorem d_F_checkFull_17 : decode nb_F_checkFull 17 = .ok (.athrow, 1) := by decide +kernel
theorem d_F_checkFull_18 : decode nb_F_checkFull 18 = .ok (.return_, 1) := by decide +kernel
abbrev rm_F_checkFull : Room := ({ frames := 6, cells := 1, slots := 6, locals := 100 })
theorem c_F_checkFull (l : Launch) (hfl : l.flags = flags0) (v0 : Fin 9) : nf_C nf_jN l nm_F_checkFull nb_F_checkFull 1 none rm_F_checkFull (fun a => [.ref (a (10 + (v0 : Fin 9).val))]) (fun M post ex => P_F_checkFull v0 M post ex) := by
  refine nf_start (plainFor_of_name (by decide +kernel)) (fun a => Nat.le_of_ble_eq_true rfl) ?_
  intro D a sz M post ex p e s m below meth c ls h K hl hw
  have hx := K.1
  have hb := K.2.1
  have hl : lv_has ls 1 [(0, .ref (a (10 + (v0 : Fin 9).val)))] := hl
  refine lv_aload_n hx hb d_F_checkFull_0 rfl (lv_at hl 0 rfl) ?_
  refine nf_getN (v := .int (mg_T M v0)) K hw (10 + (v0 : Fin 9).val) 4 0 nv_39 (nf_heV _ _ _) rfl ni_V (by decide) rfl rfl d_F_checkFull_1 ?_
  refine lv_iconst (v := (-1 : Int32)) hx hb d_F_checkFull_4 (by decide) ?_
  refine nf_ic_ne hx hb d_F_checkFull_5 (tgt := 18) (by decide) (fun hc => ?_) (fun hc => ?_)
  · have h := h.1 hc
    exact nf_throw (i := 10) 2 hfl K hw rfl (by decide) na_F_225 nw_452 nw_453 nw_16 rfl d_F_checkFull_8 d_F_checkFull_11 d_F_checkFull_12 d_F_checkFull_14 d_F_checkFull_17 hl.1 ⟨by decide, by decide⟩ ⟨Nat.le_of_ble_eq_true rfl, Nat.le_of_ble_eq_true rfl⟩ h
  · have h := h.2 hc
    exact nf_vret K hw d_F_checkFull_18 (Nat.le_of_ble_eq_true rfl) (Nat.le_of_ble_eq_true rfl) (r := ()) rfl h
theorem d_V_isFloating_0 : decode nb_V_isFloating 0 = .ok (.aload_n 0, 1) := by decide +kernel
theorem d_V_isFloating_1 : decode nb_V_isFloating 1 = .ok (.getfield 9, 3) := by decide +kernel
theorem d_V_isFloating_4 : decode nb_V_isFloating 4 = .ok (.bipush 8, 2) := by decide +kernel
theorem d_V_isFloating_6 : decode nb_V_isFloating 6 = .ok (.if_icmp .lt 7, 3) := by decide +kernel
theorem d_V_isFloating_9 : decode nb_V_isFloating 9 = .ok (.iconst 1, 1) := by decide +kernel
theorem d_V_isFloating_10 : decode nb_V_isFloating 10 = .ok (.goto 4, 3) := by decide +kernel
theorem d_V_isFloating_13 : decode nb_V_isFloating 13 = .ok (.iconst 0, 1) := by decide +kernel
theorem d_V_isFloating_14 : decode nb_V_isFloating 14 = .ok (.ireturn, 1) := by decide +kernel
abbrev rm_V_isFloating : Room := ({ frames := 0, cells := 0, slots := 0, locals := 0 })
theorem w_V_isFloating_14 {post : Int32 → nf_M → Prop} (hfl : l.flags = flags0) (K : nf_K p s m args meth c "NumberForge$Value" nb_V_isFloating 1 (some FieldType.boolean) D a sz) : ∀ (xy0 : Int32) (M : nf_M) (H : Heap) (locs : List Loc) (ls : Array Slot), B_V_isFloating_14 post xy0 M → lv_has ls 1 [] → nf_W D a s sz H locs M → W p l e rm_V_isFloating s m args below meth c H locs 0 0 (nf_MQ below (nf_Q nf_jI D a post ex (nf_A a sz)) args s rm_V_isFloating.cells rm_V_isFloating.slots (nf_A a sz)) (F0 m 14 ls [.int xy0]) := by
  have hx := K.1
  have hb := K.2.1
  intro xy0 M H locs ls h hl hw
  obtain ⟨g1, h⟩ := h
  exact nf_iret K hw d_V_isFloating_14 g1 (Nat.le_of_ble_eq_true rfl) (Nat.le_of_ble_eq_true rfl) (r := xy0) rfl h
theorem c_V_isFloating (l : Launch) (hfl : l.flags = flags0) (v0 : Fin 9) : nf_C nf_jI l nm_V_isFloating nb_V_isFloating 1 (some FieldType.boolean) rm_V_isFloating (fun a => [.ref (a (10 + (v0 : Fin 9).val))]) (fun M post ex => P_V_isFloating v0 M post) := by
  refine nf_start (plainFor_of_name (by decide +kernel)) (fun a => Nat.le_of_ble_eq_true rfl) ?_
  intro D a sz M post ex p e s m below meth c ls h K hl hw
  have hx := K.1
  have hb := K.2.1
  have hl : lv_has ls 1 [(0, .ref (a (10 + (v0 : Fin 9).val)))] := hl
  refine lv_aload_n hx hb d_V_isFloating_0 rfl (lv_at hl 0 rfl) ?_
  refine nf_get (v := .int (mg_T M v0)) K hw (10 + (v0 : Fin 9).val) 4 0 nw_38 (nf_heV _ _ _) rfl ni_V (by decide) rfl rfl d_V_isFloating_1 ?_
  refine lv_bipush (v := (8 : Int32)) hx hb d_V_isFloating_4 (by decide) ?_
  refine nf_ic_lt hx hb d_V_isFloating_6 (tgt := 13) (by decide) (fun hc => ?_) (fun hc => ?_)
  · have h := h.1 hc
    refine lv_iconst (v := (0 : Int32)) hx hb d_V_isFloating_13 (by decide) ?_
    exact w_V_isFloating_14 hfl K (0 : Int32) M _ _ _ h (lv_sub hl [] rfl) hw
  · have h := h.2 hc
    refine lv_iconst (v := (1 : Int32)) hx hb d_V_isFloating_9 (by decide) ?_
    refine lv_goto hx hb d_V_isFloating_10 (tgt := 14) (by decide) ?_
    exact w_V_isFloating_14 hfl K (1 : Int32) M _ _ _ h (lv_sub hl [] rfl) hw
theorem d_V_asDouble_0 : decode nb_V_asDouble 0 = .ok (.aload_n 0, 1) := by decide +kernel
theorem d_V_asDouble_1 : decode nb_V_asDouble 1 = .ok (.invokevirtual 26, 3) := by decide +kernel
theorem d_V_asDouble_4 : decode nb_V_asDouble 4 = .ok (.ifCond .eq 10, 3) := by decide +kernel
theorem d_V_asDouble_7 : decode nb_V_asDouble 7 = .ok (.aload_n 0, 1) := by decide +kernel
theorem d_V_asDouble_8 : decode nb_V_asDouble 8 = .ok (.getfield 22, 3) := by decide +kernel
theorem d_V_asDouble_11 : decode nb_V_asDouble 11 = .ok (.goto 16, 3) := by decide +kernel
theorem d_V_asDouble_14 : decode nb_V_asDouble 14 = .ok (.aload_n 0, 1) := by decide +kernel
theorem d_V_asDouble_15 : decode nb_V_asDouble 15 = .ok (.getfield 15, 3) := by decide +kernel
theorem d_V_asDouble_18 : decode nb_V_asDouble 18 = .ok (.l2d, 1) := by decide +kernel
theorem d_V_asDouble_19 : decode nb_V_asDouble 19 = .ok (.aload_n 0, 1) := by decide +kernel
theorem d_V_asDouble_20 : decode nb_V_asDouble 20 = .ok (.getfield 19, 3) := by decide +kernel
theorem d_V_asDouble_23 : decode nb_V_asDouble 23 = .ok (.ineg, 1) := by decide +kernel
theorem d_V_asDouble_24 : decode nb_V_asDouble 24 = .ok (.invokestatic 30, 3) := by decide +kernel
theorem d_V_asDouble_27 : decode nb_V_asDouble 27 = .ok (.dreturn, 1) := by decide +kernel
abbrev rm_V_asDouble : Room := ({ frames := 2, cells := 0, slots := 0, locals := 45 })
theorem w_V_asDouble_27 {post : UInt64 → nf_M → Prop} (hfl : l.flags = flags0) (K : nf_K p s m args meth c "NumberForge$Value" nb_V_asDouble 1 (some FieldType.double) D a sz) : ∀ (xy0 : UInt64) (M : nf_M) (H : Heap) (locs : List Loc) (ls : Array Slot), B_V_asDouble_27 post xy0 M → lv_has ls 1 [] → nf_W D a s sz H locs M → W p l e rm_V_asDouble s m args below meth c H locs 0 0 (nf_MQ below (nf_Q nf_jD D a post ex (nf_A a sz)) args s rm_V_asDouble.cells rm_V_asDouble.slots (nf_A a sz)) (F0 m 27 ls [.double xy0]) := by
  have hx := K.1
  have hb := K.2.1
  intro xy0 M H locs ls h hl hw
  exact nf_dret K hw d_V_asDouble_27 (Nat.le_of_ble_eq_true rfl) (Nat.le_of_ble_eq_true rfl) (r := xy0) rfl h
theorem c_V_asDouble (l : Launch) (hfl : l.flags = flags0) (v0 : Fin 9) : nf_C nf_jD l nm_V_asDouble nb_V_asDouble 1 (some FieldType.double) rm_V_asDouble (fun a => [.ref (a (10 + (v0 : Fin 9).val))]) (fun M post ex => P_V_asDouble v0 M post) := by
  refine nf_start (plainFor_of_name (by decide +kernel)) (fun a => Nat.le_of_ble_eq_true rfl) ?_
  intro D a sz M post ex p e s m below meth c ls h K hl hw
  have hx := K.1
  have hb := K.2.1
  have hl : lv_has ls 1 [(0, .ref (a (10 + (v0 : Fin 9).val)))] := hl
  refine lv_aload_n hx hb d_V_asDouble_0 rfl (lv_at hl 0 rfl) ?_
  refine nf_callW (ex := (fun _ _ => False)) (As := [.ref (a (10 + (v0 : Fin 9).val))]) (st0 := [.ref (a (10 + (v0 : Fin 9).val))]) (rest := []) K hw (nf_invV hx hb K.2.2.2.1 (nf_Kg K nw_480) (nf_Kg K nw_470) (nf_Kg K nx_V_isFloating) (nf_Kg K nw_471) ⟨by decide, by decide⟩ (nf_rcv K hw (10 + (v0 : Fin 9).val) 4 (nf_heV _ _ _) rfl) rfl nl_V_isFloating rfl d_V_asDouble_1) (c_V_isFloating l hfl v0) nw_471 nw_2 rfl ⟨by decide, by decide⟩ (Nat.le_of_ble_eq_true rfl) hl.1 ⟨Nat.le_of_ble_eq_true rfl, Nat.le_of_ble_eq_true rfl⟩ h (fun _ _ h => h.elim) (fun r1 M2 H locs h hw => ?_)
  refine W.eq (g2 := F0 m 4 ls [.int r1]) rfl ?_
  refine nf_if_eq hx hb d_V_asDouble_4 (tgt := 14) (by decide) (fun hc => ?_) (fun hc => ?_)
  · have h := h.1 hc
    refine lv_aload_n hx hb d_V_asDouble_14 rfl (lv_at hl 0 rfl) ?_
    refine nf_get (v := .long (mg_U M2 v0)) K hw (10 + (v0 : Fin 9).val) 4 1 nw_40 (nf_heV _ _ _) rfl ni_V (by decide) rfl rfl d_V_asDouble_15 ?_
    refine lv_l2d hx hb d_V_asDouble_18 ?_
    refine lv_aload_n hx hb d_V_asDouble_19 rfl (lv_at hl 0 rfl) ?_
    refine nf_get (v := .int (mg_S M2 v0)) K hw (10 + (v0 : Fin 9).val) 4 2 nw_43 (nf_heV _ _ _) rfl ni_V (by decide) rfl rfl d_V_asDouble_20 ?_
    refine lv_ineg hx hb d_V_asDouble_23 ?_
    refine nf_callW (ex := (fun _ _ => False)) (As := [.double (FP.l2d (mg_U M2 v0)), .int (-(mg_S M2 v0))]) (st0 := [.int (-(mg_S M2 v0)), .double (FP.l2d (mg_U M2 v0))]) (rest := []) K hw (nf_invSN hx hb K.2.2.2.1 ((nf_Kr K nv_481).use rfl) (nf_Kg K nw_398) (nf_Kg K nw_1) (nf_Kg K nw_399) ⟨by decide, by decide⟩ rfl nl_F_timesTen rfl d_V_asDouble_24) (c_F_timesTen l hfl (FP.l2d (mg_U M2 v0)) (-(mg_S M2 v0))) nw_399 nw_1 rfl ⟨by decide, by decide⟩ (Nat.le_of_ble_eq_true rfl) hl.1 ⟨Nat.le_of_ble_eq_true rfl, Nat.le_of_ble_eq_true rfl⟩ h (fun _ _ h => h.elim) (fun r3 M4 H locs h hw => ?_)
    refine W.eq (g2 := F0 m 27 ls [.double r3]) rfl ?_
    exact w_V_asDouble_27 hfl K r3 M4 _ _ _ h (lv_sub hl [] rfl) hw
  · have h := h.2 hc
    refine lv_aload_n hx hb d_V_asDouble_7 rfl (lv_at hl 0 rfl) ?_
    refine nf_get (v := .double (mg_R M2 v0)) K hw (10 + (v0 : Fin 9).val) 4 3 nw_46 (nf_heV _ _ _) rfl ni_V (by decide) rfl rfl d_V_asDouble_8 ?_
    refine lv_goto hx hb d_V_asDouble_11 (tgt := 27) (by decide) ?_
    exact w_V_asDouble_27 hfl K (mg_R M2 v0) M2 _ _ _ h (lv_sub hl [] rfl) hw
theorem d_V_asFloat_0 : decode nb_V_asFloat 0 = .ok (.aload_n 0, 1) := by decide +kernel
theorem d_V_asFloat_1 : decode nb_V_asFloat 1 = .ok (.invokevirtual 34, 3) := by decide +kernel
theorem d_V_asFloat_4 : decode nb_V_asFloat 4 = .ok (.d2f, 1) := by decide +kernel
theorem d_V_asFloat_5 : decode nb_V_asFloat 5 = .ok (.freturn, 1) := by decide +kernel
abbrev rm_V_asFloat : Room := ({ frames := 3, cells := 0, slots := 0, locals := 65 })
theorem c_V_asFloat (l : Launch) (hfl : l.flags = flags0) (v0 : Fin 9) : nf_C nf_jF l nm_V_asFloat nb_V_asFloat 1 (some FieldType.float) rm_V_asFloat (fun a => [.ref (a (10 + (v0 : Fin 9).val))]) (fun M post ex => P_V_asFloat v0 M post) := by
  refine nf_start (plainFor_of_name (by decide +kernel)) (fun a => Nat.le_of_ble_eq_true rfl) ?_
  intro D a sz M post ex p e s m below meth c ls h K hl hw
  have hx := K.1
  have hb := K.2.1
  have hl : lv_has ls 1 [(0, .ref (a (10 + (v0 : Fin 9).val)))] := hl
  refine lv_aload_n hx hb d_V_asFloat_0 rfl (lv_at hl 0 rfl) ?_
  refine nf_callW (ex := (fun _ _ => False)) (As := [.ref (a (10 + (v0 : Fin 9).val))]) (st0 := [.ref (a (10 + (v0 : Fin 9).val))]) (rest := []) K hw (nf_invV hx hb K.2.2.2.1 (nf_Kg K nw_486) (nf_Kg K nw_478) (nf_Kg K nx_V_asDouble) (nf_Kg K nw_479) ⟨by decide, by decide⟩ (nf_rcv K hw (10 + (v0 : Fin 9).val) 4 (nf_heV _ _ _) rfl) rfl nl_V_asDouble rfl d_V_asFloat_1) (c_V_asDouble l hfl v0) nw_479 nw_2 rfl ⟨by decide, by decide⟩ (Nat.le_of_ble_eq_true rfl) hl.1 ⟨Nat.le_of_ble_eq_true rfl, Nat.le_of_ble_eq_true rfl⟩ h (fun _ _ h => h.elim) (fun r1 M2 H locs h hw => ?_)
  refine W.eq (g2 := F0 m 4 ls [.double r1]) rfl ?_
  obtain ⟨g3, h⟩ := h
  refine lv_d2f hx hb d_V_asFloat_4 g3 ?_
  exact nf_fret K hw d_V_asFloat_5 (Nat.le_of_ble_eq_true rfl) (Nat.le_of_ble_eq_true rfl) (r := FP.d2f r1) rfl h
theorem d_F_amount_0 : decode nb_F_amount 0 = .ok (.dload_n 0, 1) := by decide +kernel
theorem d_F_amount_1 : decode nb_F_amount 1 = .ok (.dconst 0, 1) := by decide +kernel
theorem d_F_amount_2 : decode nb_F_amount 2 = .ok (.dcmp .g, 1) := by decide +kernel
theorem d_F_amount_3 : decode nb_F_amount 3 = .ok (.ifCond .gt 9, 3) := by decide +kernel
theorem d_F_amount_6 : decode nb_F_amount 6 = .ok (.dconst 0, 1) := by decide +kernel
theorem d_F_amount_7 : decode nb_F_amount 7 = .ok (.dload_n 0, 1) := by decide +kernel
theorem d_F_amount_8 : decode nb_F_amount 8 = .ok (.dsub, 1) := by decide +kernel
theorem d_F_amount_9 : decode nb_F_amount 9 = .ok (.goto 4, 3) := by decide +kernel
theorem d_F_amount_12 : decode nb_F_amount 12 = .ok (.dload_n 0, 1) := by decide +kernel
theorem d_F_amount_13 : decode nb_F_amount 13 = .ok (.dreturn, 1) := by decide +kernel
abbrev rm_F_amount : Room := ({ frames := 0, cells := 0, slots := 0, locals := 0 })
theorem w_F_amount_13 {post : UInt64 → nf_M → Prop} (hfl : l.flags = flags0) (K : nf_K p s m args meth c "NumberForge" nb_F_amount 2 (some FieldType.double) D a sz) : ∀ (xy0 : UInt64) (M : nf_M) (H : Heap) (locs : List Loc) (ls : Array Slot), B_F_amount_13 post xy0 M → lv_has ls 2 [] → nf_W D a s sz H locs M → W p l e rm_F_amount s m args below meth c H locs 0 0 (nf_MQ below (nf_Q nf_jD D a post ex (nf_A a sz)) args s rm_F_amount.cells rm_F_amount.slots (nf_A a sz)) (F0 m 13 ls [.double xy0]) := by
  have hx := K.1
  have hb := K.2.1
  intro xy0 M H locs ls h hl hw
  exact nf_dret K hw d_F_amount_13 (Nat.le_of_ble_eq_true rfl) (Nat.le_of_ble_eq_true rfl) (r := xy0) rfl h
theorem c_F_amount (l : Launch) (hfl : l.flags = flags0) (x0 : UInt64) : nf_C nf_jD l nm_F_amount nb_F_amount 2 (some FieldType.double) rm_F_amount (fun a => [.double x0]) (fun M post ex => P_F_amount x0 M post) := by
  refine nf_start (plainFor_of_name (by decide +kernel)) (fun a => Nat.le_of_ble_eq_true rfl) ?_
  intro D a sz M post ex p e s m below meth c ls h K hl hw
  have hx := K.1
  have hb := K.2.1
  have hl : lv_has ls 2 [(0, .double x0)] := hl
  refine lv_dload_n hx hb d_F_amount_0 rfl (lv_at hl 0 rfl) ?_
  refine lv_dconst0 hx hb d_F_amount_1 ?_
  refine nf_dg_gt hx hb d_F_amount_2 d_F_amount_3 (tgt := 12) (by decide) (fun hc => ?_) (fun hc => ?_)
  · have h := h.1 hc
    refine lv_dconst0 hx hb d_F_amount_6 ?_
    refine lv_dload_n hx hb d_F_amount_7 rfl (lv_at hl 0 rfl) ?_
    obtain ⟨g1, h⟩ := h
    refine lv_dsub hx hb d_F_amount_8 g1 ?_
    refine lv_goto hx hb d_F_amount_9 (tgt := 13) (by decide) ?_
    exact w_F_amount_13 hfl K (FP.dsub (FP.dconst0) x0) M _ _ _ h (lv_sub hl [] rfl) hw
  · have h := h.2 hc
    refine lv_dload_n hx hb d_F_amount_12 rfl (lv_at hl 0 rfl) ?_
    exact w_F_amount_13 hfl K x0 M _ _ _ h (lv_sub hl [] rfl) hw
theorem d_F_isInfinite_0 : decode nb_F_isInfinite 0 = .ok (.dload_n 0, 1) := by decide +kernel
theorem d_F_isInfinite_1 : decode nb_F_isInfinite 1 = .ok (.invokestatic 287, 3) := by decide +kernel
theorem d_F_isInfinite_4 : decode nb_F_isInfinite 4 = .ok (.ldc2_w 291, 3) := by decide +kernel
theorem d_F_isInfinite_7 : decode nb_F_isInfinite 7 = .ok (.dcmp .l, 1) := by decide +kernel
theorem d_F_isInfinite_8 : decode nb_F_isInfinite 8 = .ok (.ifCond .le 7, 3) := by decide +kernel
theorem d_F_isInfinite_11 : decode nb_F_isInfinite 11 = .ok (.iconst 1, 1) := by decide +kernel
theorem d_F_isInfinite_12 : decode nb_F_isInfinite 12 = .ok (.goto 4, 3) := by decide +kernel
theorem d_F_isInfinite_15 : decode nb_F_isInfinite 15 = .ok (.iconst 0, 1) := by decide +kernel
theorem d_F_isInfinite_16 : decode nb_F_isInfinite 16 = .ok (.ireturn, 1) := by decide +kernel
abbrev rm_F_isInfinite : Room := ({ frames := 1, cells := 0, slots := 0, locals := 21 })
theorem w_F_isInfinite_16 {post : Int32 → nf_M → Prop} (hfl : l.flags = flags0) (K : nf_K p s m args meth c "NumberForge" nb_F_isInfinite 2 (some FieldType.boolean) D a sz) : ∀ (xy0 : Int32) (M : nf_M) (H : Heap) (locs : List Loc) (ls : Array Slot), B_F_isInfinite_16 post xy0 M → lv_has ls 2 [] → nf_W D a s sz H locs M → W p l e rm_F_isInfinite s m args below meth c H locs 0 0 (nf_MQ below (nf_Q nf_jI D a post ex (nf_A a sz)) args s rm_F_isInfinite.cells rm_F_isInfinite.slots (nf_A a sz)) (F0 m 16 ls [.int xy0]) := by
  have hx := K.1
  have hb := K.2.1
  intro xy0 M H locs ls h hl hw
  obtain ⟨g1, h⟩ := h
  exact nf_iret K hw d_F_isInfinite_16 g1 (Nat.le_of_ble_eq_true rfl) (Nat.le_of_ble_eq_true rfl) (r := xy0) rfl h
theorem c_F_isInfinite (l : Launch) (hfl : l.flags = flags0) (x0 : UInt64) : nf_C nf_jI l nm_F_isInfinite nb_F_isInfinite 2 (some FieldType.boolean) rm_F_isInfinite (fun a => [.double x0]) (fun M post ex => P_F_isInfinite x0 M post) := by
  refine nf_start (plainFor_of_name (by decide +kernel)) (fun a => Nat.le_of_ble_eq_true rfl) ?_
  intro D a sz M post ex p e s m below meth c ls h K hl hw
  have hx := K.1
  have hb := K.2.1
  have hl : lv_has ls 2 [(0, .double x0)] := hl
  refine lv_dload_n hx hb d_F_isInfinite_0 rfl (lv_at hl 0 rfl) ?_
  refine nf_callW (ex := (fun _ _ => False)) (As := [.double x0]) (st0 := [.double x0]) (rest := []) K hw (nf_invS hx hb K.2.2.2.1 (nf_Kg K nw_493) (nf_Kg K nw_494) (nf_Kg K nw_1) (nf_Kg K nw_495) ⟨by decide, by decide⟩ rfl nl_F_amount rfl d_F_isInfinite_1) (c_F_amount l hfl x0) nw_495 nw_1 rfl ⟨by decide, by decide⟩ (Nat.le_of_ble_eq_true rfl) hl.1 ⟨Nat.le_of_ble_eq_true rfl, Nat.le_of_ble_eq_true rfl⟩ h (fun _ _ h => h.elim) (fun r1 M2 H locs h hw => ?_)
  refine W.eq (g2 := F0 m 4 ls [.double r1]) rfl ?_
  refine lv_ldc2d (v := (9218868437227405311 : UInt64)) hx hb K.2.2.2.1 (nf_Kg K nw_496) d_F_isInfinite_4 ?_
  refine nf_dl_le hx hb d_F_isInfinite_7 d_F_isInfinite_8 (tgt := 15) (by decide) (fun hc => ?_) (fun hc => ?_)
  · have h := h.1 hc
    refine lv_iconst (v := (1 : Int32)) hx hb d_F_isInfinite_11 (by decide) ?_
    refine lv_goto hx hb d_F_isInfinite_12 (tgt := 16) (by decide) ?_
    exact w_F_isInfinite_16 hfl K (1 : Int32) M2 _ _ _ h (lv_sub hl [] rfl) hw
  · have h := h.2 hc
    refine lv_iconst (v := (0 : Int32)) hx hb d_F_isInfinite_15 (by decide) ?_
    exact w_F_isInfinite_16 hfl K (0 : Int32) M2 _ _ _ h (lv_sub hl [] rfl) hw
theorem d_F_isNoNumber_0 : decode nb_F_isNoNumber 0 = .ok (.dload_n 1, 1) := by decide +kernel
theorem d_F_isNoNumber_1 : decode nb_F_isNoNumber 1 = .ok (.invokestatic 326, 3) := by decide +kernel
theorem d_F_isNoNumber_4 : decode nb_F_isNoNumber 4 = .ok (.ifCond .eq 14, 3) := by decide +kernel
theorem d_F_isNoNumber_7 : decode nb_F_isNoNumber 7 = .ok (.dload_n 3, 1) := by decide +kernel
theorem d_F_isNoNumber_8 : decode nb_F_isNoNumber 8 = .ok (.invokestatic 326, 3) := by decide +kernel
theorem d_F_isNoNumber_11 : decode nb_F_isNoNumber 11 = .ok (.ifCond .eq 7, 3) := by decide +kernel
theorem d_F_isNoNumber_14 : decode nb_F_isNoNumber 14 = .ok (.iconst 1, 1) := by decide +kernel
theorem d_F_isNoNumber_15 : decode nb_F_isNoNumber 15 = .ok (.goto 4, 3) := by decide +kernel
theorem d_F_isNoNumber_18 : decode nb_F_isNoNumber 18 = .ok (.iconst 0, 1) := by decide +kernel
theorem d_F_isNoNumber_19 : decode nb_F_isNoNumber 19 = .ok (.istore 5, 2) := by decide +kernel
theorem d_F_isNoNumber_21 : decode nb_F_isNoNumber 21 = .ok (.iload_n 0, 1) := by decide +kernel
theorem d_F_isNoNumber_22 : decode nb_F_isNoNumber 22 = .ok (.tableswitch 178 0 4 #[34, 70, 106, 138, 161], 34) := by decide +kernel
theorem d_F_isNoNumber_56 : decode nb_F_isNoNumber 56 = .ok (.iload 5, 2) := by decide +kernel
theorem d_F_isNoNumber_58 : decode nb_F_isNoNumber 58 = .ok (.ifCond .eq 32, 3) := by decide +kernel
theorem d_F_isNoNumber_61 : decode nb_F_isNoNumber 61 = .ok (.dload_n 1, 1) := by decide +kernel
theorem d_F_isNoNumber_62 : decode nb_F_isNoNumber 62 = .ok (.dconst 0, 1) := by decide +kernel
theorem d_F_isNoNumber_63 : decode nb_F_isNoNumber 63 = .ok (.dcmp .l, 1) := by decide +kernel
theorem d_F_isNoNumber_64 : decode nb_F_isNoNumber 64 = .ok (.ifCond .le 7, 3) := by decide +kernel
theorem d_F_isNoNumber_67 : decode nb_F_isNoNumber 67 = .ok (.iconst 1, 1) := by decide +kernel
theorem d_F_isNoNumber_68 : decode nb_F_isNoNumber 68 = .ok (.goto 4, 3) := by decide +kernel
theorem d_F_isNoNumber_71 : decode nb_F_isNoNumber 71 = .ok (.iconst 0, 1) := by decide +kernel
theorem d_F_isNoNumber_72 : decode nb_F_isNoNumber 72 = .ok (.dload_n 3, 1) := by decide +kernel
theorem d_F_isNoNumber_73 : decode nb_F_isNoNumber 73 = .ok (.dconst 0, 1) := by decide +kernel
theorem d_F_isNoNumber_74 : decode nb_F_isNoNumber 74 = .ok (.dcmp .l, 1) := by decide +kernel
theorem d_F_isNoNumber_75 : decode nb_F_isNoNumber 75 = .ok (.ifCond .le 7, 3) := by decide +kernel
theorem d_F_isNoNumber_78 : decode nb_F_isNoNumber 78 = .ok (.iconst 1, 1) := by decide +kernel
theorem d_F_isNoNumber_79 : decode nb_F_isNoNumber 79 = .ok (.goto 4, 3) := by decide +kernel
theorem d_F_isNoNumber_82 : decode nb_F_isNoNumber 82 = .ok (.iconst 0, 1) := by decide +kernel
theorem d_F_isNoNumber_83 : decode nb_F_isNoNumber 83 = .ok (.if_icmp .eq 7, 3) := by decide +kernel
theorem d_F_isNoNumber_86 : decode nb_F_isNoNumber 86 = .ok (.iconst 1, 1) := by decide +kernel
theorem d_F_isNoNumber_87 : decode nb_F_isNoNumber 87 = .ok (.goto 4, 3) := by decide +kernel
theorem d_F_isNoNumber_90 : decode nb_F_isNoNumber 90 = .ok (.iconst 0, 1) := by decide +kernel
theorem d_F_isNoNumber_91 : decode nb_F_isNoNumber 91 = .ok (.ireturn, 1) := by decide +kernel
theorem d_F_isNoNumber_92 : decode nb_F_isNoNumber 92 = .ok (.iload 5, 2) := by decide +kernel
theorem d_F_isNoNumber_94 : decode nb_F_isNoNumber 94 = .ok (.ifCond .eq 32, 3) := by decide +kernel
theorem d_F_isNoNumber_97 : decode nb_F_isNoNumber 97 = .ok (.dload_n 1, 1) := by decide +kernel
theorem d_F_isNoNumber_98 : decode nb_F_isNoNumber 98 = .ok (.dconst 0, 1) := by decide +kernel
theorem d_F_isNoNumber_99 : decode nb_F_isNoNumber 99 = .ok (.dcmp .l, 1) := by decide +kernel
theorem d_F_isNoNumber_100 : decode nb_F_isNoNumber 100 = .ok (.ifCond .le 7, 3) := by decide +kernel
theorem d_F_isNoNumber_103 : decode nb_F_isNoNumber 103 = .ok (.iconst 1, 1) := by decide +kernel
theorem d_F_isNoNumber_104 : decode nb_F_isNoNumber 104 = .ok (.goto 4, 3) := by decide +kernel
theorem d_F_isNoNumber_107 : decode nb_F_isNoNumber 107 = .ok (.iconst 0, 1) := by decide +kernel
theorem d_F_isNoNumber_108 : decode nb_F_isNoNumber 108 = .ok (.dload_n 3, 1) := by decide +kernel
theorem d_F_isNoNumber_109 : decode nb_F_isNoNumber 109 = .ok (.dconst 0, 1) := by decide +kernel
theorem d_F_isNoNumber_110 : decode nb_F_isNoNumber 110 = .ok (.dcmp .l, 1) := by decide +kernel
theorem d_F_isNoNumber_111 : decode nb_F_isNoNumber 111 = .ok (.ifCond .le 7, 3) := by decide +kernel
theorem d_F_isNoNumber_114 : decode nb_F_isNoNumber 114 = .ok (.iconst 1, 1) := by decide +kernel
theorem d_F_isNoNumber_115 : decode nb_F_isNoNumber 115 = .ok (.goto 4, 3) := by decide +kernel
theorem d_F_isNoNumber_118 : decode nb_F_isNoNumber 118 = .ok (.iconst 0, 1) := by decide +kernel
theorem d_F_isNoNumber_119 : decode nb_F_isNoNumber 119 = .ok (.if_icmp .ne 7, 3) := by decide +kernel
theorem d_F_isNoNumber_122 : decode nb_F_isNoNumber 122 = .ok (.iconst 1, 1) := by decide +kernel
theorem d_F_isNoNumber_123 : decode nb_F_isNoNumber 123 = .ok (.goto 4, 3) := by decide +kernel
theorem d_F_isNoNumber_126 : decode nb_F_isNoNumber 126 = .ok (.iconst 0, 1) := by decide +kernel
theorem d_F_isNoNumber_127 : decode nb_F_isNoNumber 127 = .ok (.ireturn, 1) := by decide +kernel
theorem d_F_isNoNumber_128 : decode nb_F_isNoNumber 128 = .ok (.dload_n 1, 1) := by decide +kernel
theorem d_F_isNoNumber_129 : decode nb_F_isNoNumber 129 = .ok (.dconst 0, 1) := by decide +kernel
theorem d_F_isNoNumber_130 : decode nb_F_isNoNumber 130 = .ok (.dcmp .l, 1) := by decide +kernel
theorem d_F_isNoNumber_131 : decode nb_F_isNoNumber 131 = .ok (.ifCond .ne 10, 3) := by decide +kernel
theorem d_F_isNoNumber_134 : decode nb_F_isNoNumber 134 = .ok (.dload_n 3, 1) := by decide +kernel
theorem d_F_isNoNumber_135 : decode nb_F_isNoNumber 135 = .ok (.invokestatic 326, 3) := by decide +kernel
theorem d_F_isNoNumber_138 : decode nb_F_isNoNumber 138 = .ok (.ifCond .ne 16, 3) := by decide +kernel
theorem d_F_isNoNumber_141 : decode nb_F_isNoNumber 141 = .ok (.dload_n 1, 1) := by decide +kernel
theorem d_F_isNoNumber_142 : decode nb_F_isNoNumber 142 = .ok (.invokestatic 326, 3) := by decide +kernel
theorem d_F_isNoNumber_145 : decode nb_F_isNoNumber 145 = .ok (.ifCond .eq 13, 3) := by decide +kernel
theorem d_F_isNoNumber_148 : decode nb_F_isNoNumber 148 = .ok (.dload_n 3, 1) := by decide +kernel
theorem d_F_isNoNumber_149 : decode nb_F_isNoNumber 149 = .ok (.dconst 0, 1) := by decide +kernel
theorem d_F_isNoNumber_150 : decode nb_F_isNoNumber 150 = .ok (.dcmp .l, 1) := by decide +kernel
theorem d_F_isNoNumber_151 : decode nb_F_isNoNumber 151 = .ok (.ifCond .ne 7, 3) := by decide +kernel
theorem d_F_isNoNumber_154 : decode nb_F_isNoNumber 154 = .ok (.iconst 1, 1) := by decide +kernel
theorem d_F_isNoNumber_155 : decode nb_F_isNoNumber 155 = .ok (.goto 4, 3) := by decide +kernel
theorem d_F_isNoNumber_158 : decode nb_F_isNoNumber 158 = .ok (.iconst 0, 1) := by decide +kernel
theorem d_F_isNoNumber_159 : decode nb_F_isNoNumber 159 = .ok (.ireturn, 1) := by decide +kernel
theorem d_F_isNoNumber_160 : decode nb_F_isNoNumber 160 = .ok (.iload 5, 2) := by decide +kernel
theorem d_F_isNoNumber_162 : decode nb_F_isNoNumber 162 = .ok (.ifCond .ne 15, 3) := by decide +kernel
theorem d_F_isNoNumber_165 : decode nb_F_isNoNumber 165 = .ok (.dload_n 1, 1) := by decide +kernel
theorem d_F_isNoNumber_166 : decode nb_F_isNoNumber 166 = .ok (.dconst 0, 1) := by decide +kernel
theorem d_F_isNoNumber_167 : decode nb_F_isNoNumber 167 = .ok (.dcmp .l, 1) := by decide +kernel
theorem d_F_isNoNumber_168 : decode nb_F_isNoNumber 168 = .ok (.ifCond .ne 13, 3) := by decide +kernel
theorem d_F_isNoNumber_171 : decode nb_F_isNoNumber 171 = .ok (.dload_n 3, 1) := by decide +kernel
theorem d_F_isNoNumber_172 : decode nb_F_isNoNumber 172 = .ok (.dconst 0, 1) := by decide +kernel
theorem d_F_isNoNumber_173 : decode nb_F_isNoNumber 173 = .ok (.dcmp .l, 1) := by decide +kernel
theorem d_F_isNoNumber_174 : decode nb_F_isNoNumber 174 = .ok (.ifCond .ne 7, 3) := by decide +kernel
theorem d_F_isNoNumber_177 : decode nb_F_isNoNumber 177 = .ok (.iconst 1, 1) := by decide +kernel
theorem d_F_isNoNumber_178 : decode nb_F_isNoNumber 178 = .ok (.goto 4, 3) := by decide +kernel
theorem d_F_isNoNumber_181 : decode nb_F_isNoNumber 181 = .ok (.iconst 0, 1) := by decide +kernel
theorem d_F_isNoNumber_182 : decode nb_F_isNoNumber 182 = .ok (.ireturn, 1) := by decide +kernel
theorem d_F_isNoNumber_183 : decode nb_F_isNoNumber 183 = .ok (.iload 5, 2) := by decide +kernel
theorem d_F_isNoNumber_185 : decode nb_F_isNoNumber 185 = .ok (.ifCond .ne 9, 3) := by decide +kernel
theorem d_F_isNoNumber_188 : decode nb_F_isNoNumber 188 = .ok (.dload_n 3, 1) := by decide +kernel
theorem d_F_isNoNumber_189 : decode nb_F_isNoNumber 189 = .ok (.dconst 0, 1) := by decide +kernel
theorem d_F_isNoNumber_190 : decode nb_F_isNoNumber 190 = .ok (.dcmp .l, 1) := by decide +kernel
theorem d_F_isNoNumber_191 : decode nb_F_isNoNumber 191 = .ok (.ifCond .ne 7, 3) := by decide +kernel
theorem d_F_isNoNumber_194 : decode nb_F_isNoNumber 194 = .ok (.iconst 1, 1) := by decide +kernel
theorem d_F_isNoNumber_195 : decode nb_F_isNoNumber 195 = .ok (.goto 4, 3) := by decide +kernel
theorem d_F_isNoNumber_198 : decode nb_F_isNoNumber 198 = .ok (.iconst 0, 1) := by decide +kernel
theorem d_F_isNoNumber_199 : decode nb_F_isNoNumber 199 = .ok (.ireturn, 1) := by decide +kernel
theorem d_F_isNoNumber_200 : decode nb_F_isNoNumber 200 = .ok (.dload_n 1, 1) := by decide +kernel
theorem d_F_isNoNumber_201 : decode nb_F_isNoNumber 201 = .ok (.invokestatic 326, 3) := by decide +kernel
theorem d_F_isNoNumber_204 : decode nb_F_isNoNumber 204 = .ok (.ifCond .ne 9, 3) := by decide +kernel
theorem d_F_isNoNumber_207 : decode nb_F_isNoNumber 207 = .ok (.dload_n 3, 1) := by decide +kernel
theorem d_F_isNoNumber_208 : decode nb_F_isNoNumber 208 = .ok (.dconst 0, 1) := by decide +kernel
theorem d_F_isNoNumber_209 : decode nb_F_isNoNumber 209 = .ok (.dcmp .l, 1) := by decide +kernel
theorem d_F_isNoNumber_210 : decode nb_F_isNoNumber 210 = .ok (.ifCond .ne 7, 3) := by decide +kernel
theorem d_F_isNoNumber_213 : decode nb_F_isNoNumber 213 = .ok (.iconst 1, 1) := by decide +kernel
theorem d_F_isNoNumber_214 : decode nb_F_isNoNumber 214 = .ok (.goto 4, 3) := by decide +kernel
theorem d_F_isNoNumber_217 : decode nb_F_isNoNumber 217 = .ok (.iconst 0, 1) := by decide +kernel
theorem d_F_isNoNumber_218 : decode nb_F_isNoNumber 218 = .ok (.ireturn, 1) := by decide +kernel
abbrev rm_F_isNoNumber : Room := ({ frames := 2, cells := 0, slots := 0, locals := 42 })
theorem w_F_isNoNumber_91 {post : Int32 → nf_M → Prop} (hfl : l.flags = flags0) (K : nf_K p s m args meth c "NumberForge" nb_F_isNoNumber 6 (some FieldType.boolean) D a sz) : ∀ (xy0 : Int32) (M : nf_M) (H : Heap) (locs : List Loc) (ls : Array Slot), B_F_isNoNumber_91 post xy0 M → lv_has ls 6 [] → nf_W D a s sz H locs M → W p l e rm_F_isNoNumber s m args below meth c H locs 0 0 (nf_MQ below (nf_Q nf_jI D a post ex (nf_A a sz)) args s rm_F_isNoNumber.cells rm_F_isNoNumber.slots (nf_A a sz)) (F0 m 91 ls [.int xy0]) := by
  have hx := K.1
  have hb := K.2.1
  intro xy0 M H locs ls h hl hw
  obtain ⟨g1, h⟩ := h
  exact nf_iret K hw d_F_isNoNumber_91 g1 (Nat.le_of_ble_eq_true rfl) (Nat.le_of_ble_eq_true rfl) (r := xy0) rfl h
theorem w_F_isNoNumber_90 {post : Int32 → nf_M → Prop} (hfl : l.flags = flags0) (K : nf_K p s m args meth c "NumberForge" nb_F_isNoNumber 6 (some FieldType.boolean) D a sz) : ∀ (M : nf_M) (H : Heap) (locs : List Loc) (ls : Array Slot), B_F_isNoNumber_90 post  M → lv_has ls 6 [] → nf_W D a s sz H locs M → W p l e rm_F_isNoNumber s m args below meth c H locs 0 0 (nf_MQ below (nf_Q nf_jI D a post ex (nf_A a sz)) args s rm_F_isNoNumber.cells rm_F_isNoNumber.slots (nf_A a sz)) (F0 m 90 ls []) := by
  have hx := K.1
  have hb := K.2.1
  intro  M H locs ls h hl hw
  refine lv_iconst (v := (0 : Int32)) hx hb d_F_isNoNumber_90 (by decide) ?_
  exact w_F_isNoNumber_91 hfl K (0 : Int32) M _ _ _ h (lv_sub hl [] rfl) hw
theorem w_F_isNoNumber_83 {post : Int32 → nf_M → Prop} (hfl : l.flags = flags0) (K : nf_K p s m args meth c "NumberForge" nb_F_isNoNumber 6 (some FieldType.boolean) D a sz) : ∀ (xy0 : Int32) (xy1 : Int32) (M : nf_M) (H : Heap) (locs : List Loc) (ls : Array Slot), B_F_isNoNumber_83 post xy0 xy1 M → lv_has ls 6 [] → nf_W D a s sz H locs M → W p l e rm_F_isNoNumber s m args below meth c H locs 0 0 (nf_MQ below (nf_Q nf_jI D a post ex (nf_A a sz)) args s rm_F_isNoNumber.cells rm_F_isNoNumber.slots (nf_A a sz)) (F0 m 83 ls [.int xy0, .int xy1]) := by
  have hx := K.1
  have hb := K.2.1
  intro xy0 xy1 M H locs ls h hl hw
  refine nf_ic_eq hx hb d_F_isNoNumber_83 (tgt := 90) (by decide) (fun hc => ?_) (fun hc => ?_)
  · have h := h.1 hc
    exact w_F_isNoNumber_90 hfl K  M _ _ _ h (lv_sub hl [] rfl) hw
  · have h := h.2 hc
    refine lv_iconst (v := (1 : Int32)) hx hb d_F_isNoNumber_86 (by decide) ?_
    refine lv_goto hx hb d_F_isNoNumber_87 (tgt := 91) (by decide) ?_
    exact w_F_isNoNumber_91 hfl K (1 : Int32) M _ _ _ h (lv_sub hl [] rfl) hw
theorem w_F_isNoNumber_72 {post : Int32 → nf_M → Prop} (hfl : l.flags = flags0) (K : nf_K p s m args meth c "NumberForge" nb_F_isNoNumber 6 (some FieldType.boolean) D a sz) : ∀ (x3 : UInt64) (xy0 : Int32) (M : nf_M) (H : Heap) (locs : List Loc) (ls : Array Slot), B_F_isNoNumber_72 post x3 xy0 M → lv_has ls 6 [(3, .double x3)] → nf_W D a s sz H locs M → W p l e rm_F_isNoNumber s m args below meth c H locs 0 0 (nf_MQ below (nf_Q nf_jI D a post ex (nf_A a sz)) args s rm_F_isNoNumber.cells rm_F_isNoNumber.slots (nf_A a sz)) (F0 m 72 ls [.int xy0]) := by
  have hx := K.1
  have hb := K.2.1
  intro x3 xy0 M H locs ls h hl hw
  refine lv_dload_n hx hb d_F_isNoNumber_72 rfl (lv_at hl 0 rfl) ?_
  refine lv_dconst0 hx hb d_F_isNoNumber_73 ?_
  refine nf_dl_le hx hb d_F_isNoNumber_74 d_F_isNoNumber_75 (tgt := 82) (by decide) (fun hc => ?_) (fun hc => ?_)
  · have h := h.1 hc
    refine lv_iconst (v := (1 : Int32)) hx hb d_F_isNoNumber_78 (by decide) ?_
    refine lv_goto hx hb d_F_isNoNumber_79 (tgt := 83) (by decide) ?_
    exact w_F_isNoNumber_83 hfl K (1 : Int32) xy0 M _ _ _ h (lv_sub hl [] rfl) hw
  · have h := h.2 hc
    refine lv_iconst (v := (0 : Int32)) hx hb d_F_isNoNumber_82 (by decide) ?_
    exact w_F_isNoNumber_83 hfl K (0 : Int32) xy0 M _ _ _ h (lv_sub hl [] rfl) hw
theorem w_F_isNoNumber_127 {post : Int32 → nf_M → Prop} (hfl : l.flags = flags0) (K : nf_K p s m args meth c "NumberForge" nb_F_isNoNumber 6 (some FieldType.boolean) D a sz) : ∀ (xy0 : Int32) (M : nf_M) (H : Heap) (locs : List Loc) (ls : Array Slot), B_F_isNoNumber_127 post xy0 M → lv_has ls 6 [] → nf_W D a s sz H locs M → W p l e rm_F_isNoNumber s m args below meth c H locs 0 0 (nf_MQ below (nf_Q nf_jI D a post ex (nf_A a sz)) args s rm_F_isNoNumber.cells rm_F_isNoNumber.slots (nf_A a sz)) (F0 m 127 ls [.int xy0]) := by
  have hx := K.1
  have hb := K.2.1
  intro xy0 M H locs ls h hl hw
  obtain ⟨g1, h⟩ := h
  exact nf_iret K hw d_F_isNoNumber_127 g1 (Nat.le_of_ble_eq_true rfl) (Nat.le_of_ble_eq_true rfl) (r := xy0) rfl h
theorem w_F_isNoNumber_126 {post : Int32 → nf_M → Prop} (hfl : l.flags = flags0) (K : nf_K p s m args meth c "NumberForge" nb_F_isNoNumber 6 (some FieldType.boolean) D a sz) : ∀ (M : nf_M) (H : Heap) (locs : List Loc) (ls : Array Slot), B_F_isNoNumber_126 post  M → lv_has ls 6 [] → nf_W D a s sz H locs M → W p l e rm_F_isNoNumber s m args below meth c H locs 0 0 (nf_MQ below (nf_Q nf_jI D a post ex (nf_A a sz)) args s rm_F_isNoNumber.cells rm_F_isNoNumber.slots (nf_A a sz)) (F0 m 126 ls []) := by
  have hx := K.1
  have hb := K.2.1
  intro  M H locs ls h hl hw
  refine lv_iconst (v := (0 : Int32)) hx hb d_F_isNoNumber_126 (by decide) ?_
  exact w_F_isNoNumber_127 hfl K (0 : Int32) M _ _ _ h (lv_sub hl [] rfl) hw
theorem w_F_isNoNumber_119 {post : Int32 → nf_M → Prop} (hfl : l.flags = flags0) (K : nf_K p s m args meth c "NumberForge" nb_F_isNoNumber 6 (some FieldType.boolean) D a sz) : ∀ (xy0 : Int32) (xy1 : Int32) (M : nf_M) (H : Heap) (locs : List Loc) (ls : Array Slot), B_F_isNoNumber_119 post xy0 xy1 M → lv_has ls 6 [] → nf_W D a s sz H locs M → W p l e rm_F_isNoNumber s m args below meth c H locs 0 0 (nf_MQ below (nf_Q nf_jI D a post ex (nf_A a sz)) args s rm_F_isNoNumber.cells rm_F_isNoNumber.slots (nf_A a sz)) (F0 m 119 ls [.int xy0, .int xy1]) := by
  have hx := K.1
  have hb := K.2.1
  intro xy0 xy1 M H locs ls h hl hw
  refine nf_ic_ne hx hb d_F_isNoNumber_119 (tgt := 126) (by decide) (fun hc => ?_) (fun hc => ?_)
  · have h := h.1 hc
    refine lv_iconst (v := (1 : Int32)) hx hb d_F_isNoNumber_122 (by decide) ?_
    refine lv_goto hx hb d_F_isNoNumber_123 (tgt := 127) (by decide) ?_
    exact w_F_isNoNumber_127 hfl K (1 : Int32) M _ _ _ h (lv_sub hl [] rfl) hw
  · have h := h.2 hc
    exact w_F_isNoNumber_126 hfl K  M _ _ _ h (lv_sub hl [] rfl) hw
theorem w_F_isNoNumber_108 {post : Int32 → nf_M → Prop} (hfl : l.flags = flags0) (K : nf_K p s m args meth c "NumberForge" nb_F_isNoNumber 6 (some FieldType.boolean) D a sz) : ∀ (x3 : UInt64) (xy0 : Int32) (M : nf_M) (H : Heap) (locs : List Loc) (ls : Array Slot), B_F_isNoNumber_108 post x3 xy0 M → lv_has ls 6 [(3, .double x3)] → nf_W D a s sz H locs M → W p l e rm_F_isNoNumber s m args below meth c H locs 0 0 (nf_MQ below (nf_Q nf_jI D a post ex (nf_A a sz)) args s rm_F_isNoNumber.cells rm_F_isNoNumber.slots (nf_A a sz)) (F0 m 108 ls [.int xy0]) := by
  have hx := K.1
  have hb := K.2.1
  intro x3 xy0 M H locs ls h hl hw
  refine lv_dload_n hx hb d_F_isNoNumber_108 rfl (lv_at hl 0 rfl) ?_
  refine lv_dconst0 hx hb d_F_isNoNumber_109 ?_
  refine nf_dl_le hx hb d_F_isNoNumber_110 d_F_isNoNumber_111 (tgt := 118) (by decide) (fun hc => ?_) (fun hc => ?_)
  · have h := h.1 hc
    refine lv_iconst (v := (1 : Int32)) hx hb d_F_isNoNumber_114 (by decide) ?_
    refine lv_goto hx hb d_F_isNoNumber_115 (tgt := 119) (by decide) ?_
    exact w_F_isNoNumber_119 hfl K (1 : Int32) xy0 M _ _ _ h (lv_sub hl [] rfl) hw
  · have h := h.2 hc
    refine lv_iconst (v := (0 : Int32)) hx hb d_F_isNoNumber_118 (by decide) ?_
    exact w_F_isNoNumber_119 hfl K (0 : Int32) xy0 M _ _ _ h (lv_sub hl [] rfl) hw
theorem w_F_isNoNumber_159 {post : Int32 → nf_M → Prop} (hfl : l.flags = flags0) (K : nf_K p s m args meth c "NumberForge" nb_F_isNoNumber 6 (some FieldType.boolean) D a sz) : ∀ (xy0 : Int32) (M : nf_M) (H : Heap) (locs : List Loc) (ls : Array Slot), B_F_isNoNumber_159 post xy0 M → lv_has ls 6 [] → nf_W D a s sz H locs M → W p l e rm_F_isNoNumber s m args below meth c H locs 0 0 (nf_MQ below (nf_Q nf_jI D a post ex (nf_A a sz)) args s rm_F_isNoNumber.cells rm_F_isNoNumber.slots (nf_A a sz)) (F0 m 159 ls [.int xy0]) := by
  have hx := K.1
  have hb := K.2.1
  intro xy0 M H locs ls h hl hw
  obtain ⟨g1, h⟩ := h
  exact nf_iret K hw d_F_isNoNumber_159 g1 (Nat.le_of_ble_eq_true rfl) (Nat.le_of_ble_eq_true rfl) (r := xy0) rfl h
theorem w_F_isNoNumber_154 {post : Int32 → nf_M → Prop} (hfl : l.flags = flags0) (K : nf_K p s m args meth c "NumberForge" nb_F_isNoNumber 6 (some FieldType.boolean) D a sz) : ∀ (M : nf_M) (H : Heap) (locs : List Loc) (ls : Array Slot), B_F_isNoNumber_154 post  M → lv_has ls 6 [] → nf_W D a s sz H locs M → W p l e rm_F_isNoNumber s m args below meth c H locs 0 0 (nf_MQ below (nf_Q nf_jI D a post ex (nf_A a sz)) args s rm_F_isNoNumber.cells rm_F_isNoNumber.slots (nf_A a sz)) (F0 m 154 ls []) := by
  have hx := K.1
  have hb := K.2.1
  intro  M H locs ls h hl hw
  refine lv_iconst (v := (1 : Int32)) hx hb d_F_isNoNumber_154 (by decide) ?_
  refine lv_goto hx hb d_F_isNoNumber_155 (tgt := 159) (by decide) ?_
  exact w_F_isNoNumber_159 hfl K (1 : Int32) M _ _ _ h (lv_sub hl [] rfl) hw
theorem w_F_isNoNumber_158 {post : Int32 → nf_M → Prop} (hfl : l.flags = flags0) (K : nf_K p s m args meth c "NumberForge" nb_F_isNoNumber 6 (some FieldType.boolean) D a sz) : ∀ (M : nf_M) (H : Heap) (locs : List Loc) (ls : Array Slot), B_F_isNoNumber_158 post  M → lv_has ls 6 [] → nf_W D a s sz H locs M → W p l e rm_F_isNoNumber s m args below meth c H locs 0 0 (nf_MQ below (nf_Q nf_jI D a post ex (nf_A a sz)) args s rm_F_isNoNumber.cells rm_F_isNoNumber.slots (nf_A a sz)) (F0 m 158 ls []) := by
  have hx := K.1
  have hb := K.2.1
  intro  M H locs ls h hl hw
  refine lv_iconst (v := (0 : Int32)) hx hb d_F_isNoNumber_158 (by decide) ?_
  exact w_F_isNoNumber_159 hfl K (0 : Int32) M _ _ _ h (lv_sub hl [] rfl) hw
theorem w_F_isNoNumber_141 {post : Int32 → nf_M → Prop} (hfl : l.flags = flags0) (K : nf_K p s m args meth c "NumberForge" nb_F_isNoNumber 6 (some FieldType.boolean) D a sz) : ∀ (x1 : UInt64) (x3 : UInt64) (M : nf_M) (H : Heap) (locs : List Loc) (ls : Array Slot), B_F_isNoNumber_141 post x1 x3 M → lv_has ls 6 [(1, .double x1), (3, .double x3)] → nf_W D a s sz H locs M → W p l e rm_F_isNoNumber s m args below meth c H locs 0 0 (nf_MQ below (nf_Q nf_jI D a post ex (nf_A a sz)) args s rm_F_isNoNumber.cells rm_F_isNoNumber.slots (nf_A a sz)) (F0 m 141 ls []) := by
  have hx := K.1
  have hb := K.2.1
  intro x1 x3 M H locs ls h hl hw
  refine lv_dload_n hx hb d_F_isNoNumber_141 rfl (lv_at hl 0 rfl) ?_
  refine nf_callW (ex := (fun _ _ => False)) (As := [.double x1]) (st0 := [.double x1]) (rest := []) K hw (nf_invS hx hb K.2.2.2.1 (nf_Kg K nw_490) (nf_Kg K nw_491) (nf_Kg K nw_1) (nf_Kg K nw_492) ⟨by decide, by decide⟩ rfl nl_F_isInfinite rfl d_F_isNoNumber_142) (c_F_isInfinite l hfl x1) nw_492 nw_1 rfl ⟨by decide, by decide⟩ (Nat.le_of_ble_eq_true rfl) hl.1 ⟨Nat.le_of_ble_eq_true rfl, Nat.le_of_ble_eq_true rfl⟩ h (fun _ _ h => h.elim) (fun r1 M2 H locs h hw => ?_)
  refine W.eq (g2 := F0 m 145 ls [.int r1]) rfl ?_
  refine nf_if_eq hx hb d_F_isNoNumber_145 (tgt := 158) (by decide) (fun hc => ?_) (fun hc => ?_)
  · have h := h.1 hc
    exact w_F_isNoNumber_158 hfl K  M2 _ _ _ h (lv_sub hl [] rfl) hw
  · have h := h.2 hc
    refine lv_dload_n hx hb d_F_isNoNumber_148 rfl (lv_at hl 1 rfl) ?_
    refine lv_dconst0 hx hb d_F_isNoNumber_149 ?_
    refine nf_dl_ne hx hb d_F_isNoNumber_150 d_F_isNoNumber_151 (tgt := 158) (by decide) (fun hc => ?_) (fun hc => ?_)
    · have h := h.1 hc
      exact w_F_isNoNumber_154 hfl K  M2 _ _ _ h (lv_sub hl [] rfl) hw
    · have h := h.2 hc
      exact w_F_isNoNumber_158 hfl K  M2 _ _ _ h (lv_sub hl [] rfl) hw
theorem w_F_isNoNumber_182 {post : Int32 → nf_M → Prop} (hfl : l.flags = flags0) (K : nf_K p s m args meth c "NumberForge" nb_F_isNoNumber 6 (some FieldType.boolean) D a sz) : ∀ (xy0 : Int32) (M : nf_M) (H : Heap) (locs : List Loc) (ls : Array Slot), B_F_isNoNumber_182 post xy0 M → lv_has ls 6 [] → nf_W D a s sz H locs M → W p l e rm_F_isNoNumber s m args below meth c H locs 0 0 (nf_MQ below (nf_Q nf_jI D a post ex (nf_A a sz)) args s rm_F_isNoNumber.cells rm_F_isNoNumber.slots (nf_A a sz)) (F0 m 182 ls [.int xy0]) := by
  have hx := K.1
  have hb := K.2.1
  intro xy0 M H locs ls h hl hw
  obtain ⟨g1, h⟩ := h
  exact nf_iret K hw d_F_isNoNumber_182 g1 (Nat.le_of_ble_eq_true rfl) (Nat.le_of_ble_eq_true rfl) (r := xy0) rfl h
theorem w_F_isNoNumber_177 {post : Int32 → nf_M → Prop} (hfl : l.flags = flags0) (K : nf_K p s m args meth c "NumberForge" nb_F_isNoNumber 6 (some FieldType.boolean) D a sz) : ∀ (M : nf_M) (H : Heap) (locs : List Loc) (ls : Array Slot), B_F_isNoNumber_177 post  M → lv_has ls 6 [] → nf_W D a s sz H locs M → W p l e rm_F_isNoNumber s m args below meth c H locs 0 0 (nf_MQ below (nf_Q nf_jI D a post ex (nf_A a sz)) args s rm_F_isNoNumber.cells rm_F_isNoNumber.slots (nf_A a sz)) (F0 m 177 ls []) := by
  have hx := K.1
  have hb := K.2.1
  intro  M H locs ls h hl hw
  refine lv_iconst (v := (1 : Int32)) hx hb d_F_isNoNumber_177 (by decide) ?_
  refine lv_goto hx hb d_F_isNoNumber_178 (tgt := 182) (by decide) ?_
  exact w_F_isNoNumber_182 hfl K (1 : Int32) M _ _ _ h (lv_sub hl [] rfl) hw
theorem w_F_isNoNumber_181 {post : Int32 → nf_M → Prop} (hfl : l.flags = flags0) (K : nf_K p s m args meth c "NumberForge" nb_F_isNoNumber 6 (some FieldType.boolean) D a sz) : ∀ (M : nf_M) (H : Heap) (locs : List Loc) (ls : Array Slot), B_F_isNoNumber_181 post  M → lv_has ls 6 [] → nf_W D a s sz H locs M → W p l e rm_F_isNoNumber s m args below meth c H locs 0 0 (nf_MQ below (nf_Q nf_jI D a post ex (nf_A a sz)) args s rm_F_isNoNumber.cells rm_F_isNoNumber.slots (nf_A a sz)) (F0 m 181 ls []) := by
  have hx := K.1
  have hb := K.2.1
  intro  M H locs ls h hl hw
  refine lv_iconst (v := (0 : Int32)) hx hb d_F_isNoNumber_181 (by decide) ?_
  exact w_F_isNoNumber_182 hfl K (0 : Int32) M _ _ _ h (lv_sub hl [] rfl) hw
theorem w_F_isNoNumber_199 {post : Int32 → nf_M → Prop} (hfl : l.flags = flags0) (K : nf_K p s m args meth c "NumberForge" nb_F_isNoNumber 6 (some FieldType.boolean) D a sz) : ∀ (xy0 : Int32) (M : nf_M) (H : Heap) (locs : List Loc) (ls : Array Slot), B_F_isNoNumber_199 post xy0 M → lv_has ls 6 [] → nf_W D a s sz H locs M → W p l e rm_F_isNoNumber s m args below meth c H locs 0 0 (nf_MQ below (nf_Q nf_jI D a post ex (nf_A a sz)) args s rm_F_isNoNumber.cells rm_F_isNoNumber.slots (nf_A a sz)) (F0 m 199 ls [.int xy0]) := by
  have hx := K.1
  have hb := K.2.1
  intro xy0 M H locs ls h hl hw
  obtain ⟨g1, h⟩ := h
  exact nf_iret K hw d_F_isNoNumber_199 g1 (Nat.le_of_ble_eq_true rfl) (Nat.le_of_ble_eq_true rfl) (r := xy0) rfl h
theorem w_F_isNoNumber_194 {post : Int32 → nf_M → Prop} (hfl : l.flags = flags0) (K : nf_K p s m args meth c "NumberForge" nb_F_isNoNumber 6 (some FieldType.boolean) D a sz) : ∀ (M : nf_M) (H : Heap) (locs : List Loc) (ls : Array Slot), B_F_isNoNumber_194 post  M → lv_has ls 6 [] → nf_W D a s sz H locs M → W p l e rm_F_isNoNumber s m args below meth c H locs 0 0 (nf_MQ below (nf_Q nf_jI D a post ex (nf_A a sz)) args s rm_F_isNoNumber.cells rm_F_isNoNumber.slots (nf_A a sz)) (F0 m 194 ls []) := by
  have hx := K.1
  have hb := K.2.1
  intro  M H locs ls h hl hw
  refine lv_iconst (v := (1 : Int32)) hx hb d_F_isNoNumber_194 (by decide) ?_
  refine lv_goto hx hb d_F_isNoNumber_195 (tgt := 199) (by decide) ?_
  exact w_F_isNoNumber_199 hfl K (1 : Int32) M _ _ _ h (lv_sub hl [] rfl) hw
theorem w_F_isNoNumber_218 {post : Int32 → nf_M → Prop} (hfl : l.flags = flags0) (K : nf_K p s m args meth c "NumberForge" nb_F_isNoNumber 6 (some FieldType.boolean) D a sz) : ∀ (xy0 : Int32) (M : nf_M) (H : Heap) (locs : List Loc) (ls : Array Slot), B_F_isNoNumber_218 post xy0 M → lv_has ls 6 [] → nf_W D a s sz H locs M → W p l e rm_F_isNoNumber s m args below meth c H locs 0 0 (nf_MQ below (nf_Q nf_jI D a post ex (nf_A a sz)) args s rm_F_isNoNumber.cells rm_F_isNoNumber.slots (nf_A a sz)) (F0 m 218 ls [.int xy0]) := by
  have hx := K.1
  have hb := K.2.1
  intro xy0 M H locs ls h hl hw
  obtain ⟨g1, h⟩ := h
  exact nf_iret K hw d_F_isNoNumber_218 g1 (Nat.le_of_ble_eq_true rfl) (Nat.le_of_ble_eq_true rfl) (r := xy0) rfl h
theorem w_F_isNoNumber_213 {post : Int32 → nf_M → Prop} (hfl : l.flags = flags0) (K : nf_K p s m args meth c "NumberForge" nb_F_isNoNumber 6 (some FieldType.boolean) D a sz) : ∀ (M : nf_M) (H : Heap) (locs : List Loc) (ls : Array Slot), B_F_isNoNumber_213 post  M → lv_has ls 6 [] → nf_W D a s sz H locs M → W p l e rm_F_isNoNumber s m args below meth c H locs 0 0 (nf_MQ below (nf_Q nf_jI D a post ex (nf_A a sz)) args s rm_F_isNoNumber.cells rm_F_isNoNumber.slots (nf_A a sz)) (F0 m 213 ls []) := by
  have hx := K.1
  have hb := K.2.1
  intro  M H locs ls h hl hw
  refine lv_iconst (v := (1 : Int32)) hx hb d_F_isNoNumber_213 (by decide) ?_
  refine lv_goto hx hb d_F_isNoNumber_214 (tgt := 218) (by decide) ?_
  exact w_F_isNoNumber_218 hfl K (1 : Int32) M _ _ _ h (lv_sub hl [] rfl) hw
theorem w_F_isNoNumber_19 {post : Int32 → nf_M → Prop} (hfl : l.flags = flags0) (K : nf_K p s m args meth c "NumberForge" nb_F_isNoNumber 6 (some FieldType.boolean) D a sz) : ∀ (x0 : Int32) (x1 : UInt64) (x3 : UInt64) (xy0 : Int32) (M : nf_M) (H : Heap) (locs : List Loc) (ls : Array Slot), B_F_isNoNumber_19 post x0 x1 x3 xy0 M → lv_has ls 6 [(0, .int x0), (1, .double x1), (3, .double x3)] → nf_W D a s sz H locs M → W p l e rm_F_isNoNumber s m args below meth c H locs 0 0 (nf_MQ below (nf_Q nf_jI D a post ex (nf_A a sz)) args s rm_F_isNoNumber.cells rm_F_isNoNumber.slots (nf_A a sz)) (F0 m 19 ls [.int xy0]) := by
  have hx := K.1
  have hb := K.2.1
  intro x0 x1 x3 xy0 M H locs ls h hl hw
  refine lv_istore (lv' := [(5, .int xy0), (0, .int x0), (1, .double x1), (3, .double x3)]) hx hb d_F_isNoNumber_19 hl (by decide) rfl (fun ls hl => ?_)
  refine lv_iload_n hx hb d_F_isNoNumber_21 rfl (lv_at hl 1 rfl) ?_
  by_cases hc : x0 = (0 : Int32)
  · have h := h.1 hc
    refine lv_tableIn hx hb d_F_isNoNumber_22 (by rw [hc]; decide) (by rw [hc]; decide) (off := 34) (by rw [hc]; rfl) (tgt := 56) (by decide) ?_
    refine lv_iload hx hb d_F_isNoNumber_56 (lv_at hl 0 rfl) ?_
    refine nf_if_eq hx hb d_F_isNoNumber_58 (tgt := 90) (by decide) (fun hc => ?_) (fun hc => ?_)
    · have h := h.1 hc
      exact w_F_isNoNumber_90 hfl K  M _ _ _ h (lv_sub hl [] rfl) hw
    · have h := h.2 hc
      refine lv_dload_n hx hb d_F_isNoNumber_61 rfl (lv_at hl 2 rfl) ?_
      refine lv_dconst0 hx hb d_F_isNoNumber_62 ?_
      refine nf_dl_le hx hb d_F_isNoNumber_63 d_F_isNoNumber_64 (tgt := 71) (by decide) (fun hc => ?_) (fun hc => ?_)
      · have h := h.1 hc
        refine lv_iconst (v := (1 : Int32)) hx hb d_F_isNoNumber_67 (by decide) ?_
        refine lv_goto hx hb d_F_isNoNumber_68 (tgt := 72) (by decide) ?_
        exact w_F_isNoNumber_72 hfl K x3 (1 : Int32) M _ _ _ h (lv_sub hl [3] rfl) hw
      · have h := h.2 hc
        refine lv_iconst (v := (0 : Int32)) hx hb d_F_isNoNumber_71 (by decide) ?_
        exact w_F_isNoNumber_72 hfl K x3 (0 : Int32) M _ _ _ h (lv_sub hl [3] rfl) hw
  have h := h.2 hc
  have q1 := nf_ne hc (k := 0) (by decide)
  clear hc
  by_cases hc : x0 = (1 : Int32)
  · have h := h.1 hc
    refine lv_tableIn hx hb d_F_isNoNumber_22 (by rw [hc]; decide) (by rw [hc]; decide) (off := 70) (by rw [hc]; rfl) (tgt := 92) (by decide) ?_
    refine lv_iload hx hb d_F_isNoNumber_92 (lv_at hl 0 rfl) ?_
    refine nf_if_eq hx hb d_F_isNoNumber_94 (tgt := 126) (by decide) (fun hc => ?_) (fun hc => ?_)
    · have h := h.1 hc
      exact w_F_isNoNumber_126 hfl K  M _ _ _ h (lv_sub hl [] rfl) hw
    · have h := h.2 hc
      refine lv_dload_n hx hb d_F_isNoNumber_97 rfl (lv_at hl 2 rfl) ?_
      refine lv_dconst0 hx hb d_F_isNoNumber_98 ?_
      refine nf_dl_le hx hb d_F_isNoNumber_99 d_F_isNoNumber_100 (tgt := 107) (by decide) (fun hc => ?_) (fun hc => ?_)
      · have h := h.1 hc
        refine lv_iconst (v := (1 : Int32)) hx hb d_F_isNoNumber_103 (by decide) ?_
        refine lv_goto hx hb d_F_isNoNumber_104 (tgt := 108) (by decide) ?_
        exact w_F_isNoNumber_108 hfl K x3 (1 : Int32) M _ _ _ h (lv_sub hl [3] rfl) hw
      · have h := h.2 hc
        refine lv_iconst (v := (0 : Int32)) hx hb d_F_isNoNumber_107 (by decide) ?_
        exact w_F_isNoNumber_108 hfl K x3 (0 : Int32) M _ _ _ h (lv_sub hl [3] rfl) hw
  have h := h.2 hc
  have q2 := nf_ne hc (k := 1) (by decide)
  clear hc
  by_cases hc : x0 = (2 : Int32)
  · have h := h.1 hc
    refine lv_tableIn hx hb d_F_isNoNumber_22 (by rw [hc]; decide) (by rw [hc]; decide) (off := 106) (by rw [hc]; rfl) (tgt := 128) (by decide) ?_
    refine lv_dload_n hx hb d_F_isNoNumber_128 rfl (lv_at hl 2 rfl) ?_
    refine lv_dconst0 hx hb d_F_isNoNumber_129 ?_
    refine nf_dl_ne hx hb d_F_isNoNumber_130 d_F_isNoNumber_131 (tgt := 141) (by decide) (fun hc => ?_) (fun hc => ?_)
    · have h := h.1 hc
      refine lv_dload_n hx hb d_F_isNoNumber_134 rfl (lv_at hl 3 rfl) ?_
      refine nf_callW (ex := (fun _ _ => False)) (As := [.double x3]) (st0 := [.double x3]) (rest := []) K hw (nf_invS hx hb K.2.2.2.1 (nf_Kg K nw_490) (nf_Kg K nw_491) (nf_Kg K nw_1) (nf_Kg K nw_492) ⟨by decide, by decide⟩ rfl nl_F_isInfinite rfl d_F_isNoNumber_135) (c_F_isInfinite l hfl x3) nw_492 nw_1 rfl ⟨by decide, by decide⟩ (Nat.le_of_ble_eq_true rfl) hl.1 ⟨Nat.le_of_ble_eq_true rfl, Nat.le_of_ble_eq_true rfl⟩ h (fun _ _ h => h.elim) (fun r3 M4 H locs h hw => ?_)
      refine W.eq (g2 := F0 m 138 ls [.int r3]) rfl ?_
      refine nf_if_ne hx hb d_F_isNoNumber_138 (tgt := 154) (by decide) (fun hc => ?_) (fun hc => ?_)
      · have h := h.1 hc
        exact w_F_isNoNumber_141 hfl K x1 x3 M4 _ _ _ h (lv_sub hl [2, 3] rfl) hw
      · have h := h.2 hc
        exact w_F_isNoNumber_154 hfl K  M4 _ _ _ h (lv_sub hl [] rfl) hw
    · have h := h.2 hc
      exact w_F_isNoNumber_141 hfl K x1 x3 M _ _ _ h (lv_sub hl [2, 3] rfl) hw
  have h := h.2 hc
  have q5 := nf_ne hc (k := 2) (by decide)
  clear hc
  by_cases hc : x0 = (3 : Int32)
  · have h := h.1 hc
    refine lv_tableIn hx hb d_F_isNoNumber_22 (by rw [hc]; decide) (by rw [hc]; decide) (off := 138) (by rw [hc]; rfl) (tgt := 160) (by decide) ?_
    refine lv_iload hx hb d_F_isNoNumber_160 (lv_at hl 0 rfl) ?_
    refine nf_if_ne hx hb d_F_isNoNumber_162 (tgt := 177) (by decide) (fun hc => ?_) (fun hc => ?_)
    · have h := h.1 hc
      refine lv_dload_n hx hb d_F_isNoNumber_165 rfl (lv_at hl 2 rfl) ?_
      refine lv_dconst0 hx hb d_F_isNoNumber_166 ?_
      refine nf_dl_ne hx hb d_F_isNoNumber_167 d_F_isNoNumber_168 (tgt := 181) (by decide) (fun hc => ?_) (fun hc => ?_)
      · have h := h.1 hc
        refine lv_dload_n hx hb d_F_isNoNumber_171 rfl (lv_at hl 3 rfl) ?_
        refine lv_dconst0 hx hb d_F_isNoNumber_172 ?_
        refine nf_dl_ne hx hb d_F_isNoNumber_173 d_F_isNoNumber_174 (tgt := 181) (by decide) (fun hc => ?_) (fun hc => ?_)
        · have h := h.1 hc
          exact w_F_isNoNumber_177 hfl K  M _ _ _ h (lv_sub hl [] rfl) hw
        · have h := h.2 hc
          exact w_F_isNoNumber_181 hfl K  M _ _ _ h (lv_sub hl [] rfl) hw
      · have h := h.2 hc
        exact w_F_isNoNumber_181 hfl K  M _ _ _ h (lv_sub hl [] rfl) hw
    · have h := h.2 hc
      exact w_F_isNoNumber_177 hfl K  M _ _ _ h (lv_sub hl [] rfl) hw
  have h := h.2 hc
  have q6 := nf_ne hc (k := 3) (by decide)
  clear hc
  by_cases hc : x0 = (4 : Int32)
  · have h := h.1 hc
    refine lv_tableIn hx hb d_F_isNoNumber_22 (by rw [hc]; decide) (by rw [hc]; decide) (off := 161) (by rw [hc]; rfl) (tgt := 183) (by decide) ?_
    refine lv_iload hx hb d_F_isNoNumber_183 (lv_at hl 0 rfl) ?_
    refine nf_if_ne hx hb d_F_isNoNumber_185 (tgt := 194) (by decide) (fun hc => ?_) (fun hc => ?_)
    · have h := h.1 hc
      refine lv_dload_n hx hb d_F_isNoNumber_188 rfl (lv_at hl 3 rfl) ?_
      refine lv_dconst0 hx hb d_F_isNoNumber_189 ?_
      refine nf_dl_ne hx hb d_F_isNoNumber_190 d_F_isNoNumber_191 (tgt := 198) (by decide) (fun hc => ?_) (fun hc => ?_)
      · have h := h.1 hc
        exact w_F_isNoNumber_194 hfl K  M _ _ _ h (lv_sub hl [] rfl) hw
      · have h := h.2 hc
        refine lv_iconst (v := (0 : Int32)) hx hb d_F_isNoNumber_198 (by decide) ?_
        exact w_F_isNoNumber_199 hfl K (0 : Int32) M _ _ _ h (lv_sub hl [] rfl) hw
    · have h := h.2 hc
      exact w_F_isNoNumber_194 hfl K  M _ _ _ h (lv_sub hl [] rfl) hw
  have h := h.2 hc
  have q7 := nf_ne hc (k := 4) (by decide)
  clear hc
  refine lv_tableOut hx hb d_F_isNoNumber_22 (by omega) (tgt := 200) (by decide) ?_
  refine lv_dload_n hx hb d_F_isNoNumber_200 rfl (lv_at hl 2 rfl) ?_
  refine nf_callW (ex := (fun _ _ => False)) (As := [.double x1]) (st0 := [.double x1]) (rest := []) K hw (nf_invS hx hb K.2.2.2.1 (nf_Kg K nw_490) (nf_Kg K nw_491) (nf_Kg K nw_1) (nf_Kg K nw_492) ⟨by decide, by decide⟩ rfl nl_F_isInfinite rfl d_F_isNoNumber_201) (c_F_isInfinite l hfl x1) nw_492 nw_1 rfl ⟨by decide, by decide⟩ (Nat.le_of_ble_eq_true rfl) hl.1 ⟨Nat.le_of_ble_eq_true rfl, Nat.le_of_ble_eq_true rfl⟩ h (fun _ _ h => h.elim) (fun r8 M9 H locs h hw => ?_)
  refine W.eq (g2 := F0 m 204 ls [.int r8]) rfl ?_
  refine nf_if_ne hx hb d_F_isNoNumber_204 (tgt := 213) (by decide) (fun hc => ?_) (fun hc => ?_)
  · have h := h.1 hc
    refine lv_dload_n hx hb d_F_isNoNumber_207 rfl (lv_at hl 3 rfl) ?_
    refine lv_dconst0 hx hb d_F_isNoNumber_208 ?_
    refine nf_dl_ne hx hb d_F_isNoNumber_209 d_F_isNoNumber_210 (tgt := 217) (by decide) (fun hc => ?_) (fun hc => ?_)
    · have h := h.1 hc
      exact w_F_isNoNumber_213 hfl K  M9 _ _ _ h (lv_sub hl [] rfl) hw
    · have h := h.2 hc
      refine lv_iconst (v := (0 : Int32)) hx hb d_F_isNoNumber_217 (by decide) ?_
      exact w_F_isNoNumber_218 hfl K (0 : Int32) M9 _ _ _ h (lv_sub hl [] rfl) hw
  · have h := h.2 hc
    exact w_F_isNoNumber_213 hfl K  M9 _ _ _ h (lv_sub hl [] rfl) hw
theorem w_F_isNoNumber_18 {post : Int32 → nf_M → Prop} (hfl : l.flags = flags0) (K : nf_K p s m args meth c "NumberForge" nb_F_isNoNumber 6 (some FieldType.boolean) D a sz) : ∀ (x0 : Int32) (x1 : UInt64) (x3 : UInt64) (M : nf_M) (H : Heap) (locs : List Loc) (ls : Array Slot), B_F_isNoNumber_18 post x0 x1 x3 M → lv_has ls 6 [(0, .int x0), (1, .double x1), (3, .double x3)] → nf_W D a s sz H locs M → W p l e rm_F_isNoNumber s m args below meth c H locs 0 0 (nf_MQ below (nf_Q nf_jI D a post ex (nf_A a sz)) args s rm_F_isNoNumber.cells rm_F_isNoNumber.slots (nf_A a sz)) (F0 m 18 ls []) := by
  have hx := K.1
  have hb := K.2.1
  intro x0 x1 x3 M H locs ls h hl hw
  refine lv_iconst (v := (0 : Int32)) hx hb d_F_isNoNumber_18 (by decide) ?_
  exact w_F_isNoNumber_19 hfl K x0 x1 x3 (0 : Int32) M _ _ _ h (lv_sub hl [0, 1, 2] rfl) hw
theorem c_F_isNoNumber (l : Launch) (hfl : l.flags = flags0) (x0 : Int32) (x1 : UInt64) (x3 : UInt64) : nf_C nf_jI l nm_F_isNoNumber nb_F_isNoNumber 6 (some FieldType.boolean) rm_F_isNoNumber (fun a => [.int x0, .double x1, .double x3]) (fun M post ex => P_F_isNoNumber x0 x1 x3 M post) := by
  refine nf_start (plainFor_of_name (by decide +kernel)) (fun a => Nat.le_of_ble_eq_true rfl) ?_
  intro D a sz M post ex p e s m below meth c ls h K hl hw
  have hx := K.1
  have hb := K.2.1
  have hl : lv_has ls 6 [(0, .int x0), (1, .double x1), (3, .double x3)] := hl
  refine lv_dload_n hx hb d_F_isNoNumber_0 rfl (lv_at hl 1 rfl) ?_
  refine nf_callW (ex := (fun _ _ => False)) (As := [.double x1]) (st0 := [.double x1]) (rest := []) K hw (nf_invS hx hb K.2.2.2.1 (nf_Kg K nw_490) (nf_Kg K nw_491) (nf_Kg K nw_1) (nf_Kg K nw_492) ⟨by decide, by decide⟩ rfl nl_F_isInfinite rfl d_F_isNoNumber_1) (c_F_isInfinite l hfl x1) nw_492 nw_1 rfl ⟨by decide, by decide⟩ (Nat.le_of_ble_eq_true rfl) hl.1 ⟨Nat.le_of_ble_eq_true rfl, Nat.le_of_ble_eq_true rfl⟩ h (fun _ _ h => h.elim) (fun r1 M2 H locs h hw => ?_)
  refine W.eq (g2 := F0 m 4 ls [.int r1]) rfl ?_
  refine nf_if_eq hx hb d_F_isNoNumber_4 (tgt := 18) (by decide) (fun hc => ?_) (fun hc => ?_)
  · have h := h.1 hc
    exact w_F_isNoNumber_18 hfl K x0 x1 x3 M2 _ _ _ h (lv_sub hl [0, 1, 2] rfl) hw
  · have h := h.2 hc
    refine lv_dload_n hx hb d_F_isNoNumber_7 rfl (lv_at hl 2 rfl) ?_
    refine nf_callW (ex := (fun _ _ => False)) (As := [.double x3]) (st0 := [.double x3]) (rest := []) K hw (nf_invS hx hb K.2.2.2.1 (nf_Kg K nw_490) (nf_Kg K nw_491) (nf_Kg K nw_1) (nf_Kg K nw_492) ⟨by decide, by decide⟩ rfl nl_F_isInfinite rfl d_F_isNoNumber_8) (c_F_isInfinite l hfl x3) nw_492 nw_1 rfl ⟨by decide, by decide⟩ (Nat.le_of_ble_eq_true rfl) hl.1 ⟨Nat.le_of_ble_eq_true rfl, Nat.le_of_ble_eq_true rfl⟩ h (fun _ _ h => h.elim) (fun r3 M4 H locs h hw => ?_)
    refine W.eq (g2 := F0 m 11 ls [.int r3]) rfl ?_
    refine nf_if_eq hx hb d_F_isNoNumber_11 (tgt := 18) (by decide) (fun hc => ?_) (fun hc => ?_)
    · have h := h.1 hc
      exact w_F_isNoNumber_18 hfl K x0 x1 x3 M4 _ _ _ h (lv_sub hl [0, 1, 2] rfl) hw
    · have h := h.2 hc
      refine lv_iconst (v := (1 : Int32)) hx hb d_F_isNoNumber_14 (by decide) ?_
      refine lv_goto hx hb d_F_isNoNumber_15 (tgt := 19) (by decide) ?_
      exact w_F_isNoNumber_19 hfl K x0 x1 x3 (1 : Int32) M4 _ _ _ h (lv_sub hl [0, 1, 2] rfl) hw
theorem d_F_wholeBelowLimit_0 : decode nb_F_wholeBelowLimit 0 = .ok (.dload_n 0, 1) := by decide +kernel
theorem d_F_wholeBelowLimit_1 : decode nb_F_wholeBelowLimit 1 = .ok (.invokestatic 287, 3) := by decide +kernel
theorem d_F_wholeBelowLimit_4 : decode nb_F_wholeBelowLimit 4 = .ok (.ldc2_w 336, 3) := by decide +kernel
theorem d_F_wholeBelowLimit_7 : decode nb_F_wholeBelowLimit 7 = .ok (.dcmp .l, 1) := by decide +kernel
theorem d_F_wholeBelowLimit_8 : decode nb_F_wholeBelowLimit 8 = .ok (.ifCond .lt 14, 3) := by decide +kernel
theorem d_F_wholeBelowLimit_11 : decode nb_F_wholeBelowLimit 11 = .ok (.new 338, 3) := by decide +kernel
theorem d_F_wholeBelowLimit_14 : decode nb_F_wholeBelowLimit 14 = .ok (.dup, 1) := by decide +kernel
theorem d_F_wholeBelowLimit_15 : decode nb_F_wholeBelowLimit 15 = .ok (.ldc_w 340, 3) := by decide +kernel
theorem d_F_wholeBelowLimit_18 : decode nb_F_wholeBelowLimit 18 = .ok (.invokespecial 342, 3) := by decide +kernel
theorem d_F_wholeBelowLimit_21 : decode nb_F_wholeBelowLimit 21 = .ok (.athrow, 1) := by decide +kernel
theorem d_F_wholeBelowLimit_22 : decode nb_F_wholeBelowLimit 22 = .ok (.dload_n 0, 1) := by decide +kernel
theorem d_F_wholeBelowLimit_23 : decode nb_F_wholeBelowLimit 23 = .ok (.d2l, 1) := by decide +kernel
theorem d_F_wholeBelowLimit_24 : decode nb_F_wholeBelowLimit 24 = .ok (.lreturn, 1) := by decide +kernel
abbrev rm_F_wholeBelowLimit : Room := ({ frames := 6, cells := 1, slots := 6, locals := 100 })
theorem c_F_wholeBelowLimit (l : Launch) (hfl : l.flags = flags0) (x0 : UInt64) : nf_C nf_jJ l nm_F_wholeBelowLimit nb_F_wholeBelowLimit 2 (some FieldType.long) rm_F_wholeBelowLimit (fun a => [.double x0]) (fun M post ex => P_F_wholeBelowLimit x0 M post ex) := by
  refine nf_start (plainFor_of_name (by decide +kernel)) (fun a => Nat.le_of_ble_eq_true rfl) ?_
  intro D a sz M post ex p e s m below meth c ls h K hl hw
  have hx := K.1
  have hb := K.2.1
  have hl : lv_has ls 2 [(0, .double x0)] := hl
  refine lv_dload_n hx hb d_F_wholeBelowLimit_0 rfl (lv_at hl 0 rfl) ?_
  refine nf_callW (ex := (fun _ _ => False)) (As := [.double x0]) (st0 := [.double x0]) (rest := []) K hw (nf_invS hx hb K.2.2.2.1 (nf_Kg K nw_493) (nf_Kg K nw_494) (nf_Kg K nw_1) (nf_Kg K nw_495) ⟨by decide, by decide⟩ rfl nl_F_amount rfl d_F_wholeBelowLimit_1) (c_F_amount l hfl x0) nw_495 nw_1 rfl ⟨by decide, by decide⟩ (Nat.le_of_ble_eq_true rfl) hl.1 ⟨Nat.le_of_ble_eq_true rfl, Nat.le_of_ble_eq_true rfl⟩ h (fun _ _ h => h.elim) (fun r1 M2 H locs h hw => ?_)
  refine W.eq (g2 := F0 m 4 ls [.double r1]) rfl ?_
  refine lv_ldc2d (v := (4831355200913801216 : UInt64)) hx hb K.2.2.2.1 (nf_Kg K nw_521) d_F_wholeBelowLimit_4 ?_
  refine nf_dl_lt hx hb d_F_wholeBelowLimit_7 d_F_wholeBelowLimit_8 (tgt := 22) (by decide) (fun hc => ?_) (fun hc => ?_)
  · have h := h.1 hc
    exact nf_throwW (i := 13) 4 hfl K hw rfl (by decide) na_F_342 nw_522 nw_382 nw_15 rfl d_F_wholeBelowLimit_11 d_F_wholeBelowLimit_14 d_F_wholeBelowLimit_15 d_F_wholeBelowLimit_18 d_F_wholeBelowLimit_21 hl.1 ⟨by decide, by decide⟩ ⟨Nat.le_of_ble_eq_true rfl, Nat.le_of_ble_eq_true rfl⟩ h
  · have h := h.2 hc
    refine lv_dload_n hx hb d_F_wholeBelowLimit_22 rfl (lv_at hl 0 rfl) ?_
    refine lv_d2l hx hb d_F_wholeBelowLimit_23 ?_
    exact nf_lret K hw d_F_wholeBelowLimit_24 (Nat.le_of_ble_eq_true rfl) (Nat.le_of_ble_eq_true rfl) (r := FP.d2l x0) rfl h
theorem d_F_wholePartOf_0 : decode nb_F_wholePartOf 0 = .ok (.dload_n 1, 1) := by decide +kernel
theorem d_F_wholePartOf_1 : decode nb_F_wholePartOf 1 = .ok (.invokestatic 326, 3) := by decide +kernel
theorem d_F_wholePartOf_4 : decode nb_F_wholePartOf 4 = .ok (.ifCond .eq 14, 3) := by decide +kernel
theorem d_F_wholePartOf_7 : decode nb_F_wholePartOf 7 = .ok (.new 305, 3) := by decide +kernel
theorem d_F_wholePartOf_10 : decode nb_F_wholePartOf 10 = .ok (.dup, 1) := by decide +kernel
theorem d_F_wholePartOf_11 : decode nb_F_wholePartOf 11 = .ok (.ldc_w 330, 3) := by decide +kernel
theorem d_F_wholePartOf_14 : decode nb_F_wholePartOf 14 = .ok (.invokespecial 309, 3) := by decide +kernel
theorem d_F_wholePartOf_17 : decode nb_F_wholePartOf 17 = .ok (.athrow, 1) := by decide +kernel
theorem d_F_wholePartOf_18 : decode nb_F_wholePartOf 18 = .ok (.aload_n 0, 1) := by decide +kernel
theorem d_F_wholePartOf_19 : decode nb_F_wholePartOf 19 = .ok (.getfield 16, 3) := by decide +kernel
theorem d_F_wholePartOf_22 : decode nb_F_wholePartOf 22 = .ok (.iconst 1, 1) := by decide +kernel
theorem d_F_wholePartOf_23 : decode nb_F_wholePartOf 23 = .ok (.dload_n 1, 1) := by decide +kernel
theorem d_F_wholePartOf_24 : decode nb_F_wholePartOf 24 = .ok (.invokestatic 332, 3) := by decide +kernel
theorem d_F_wholePartOf_27 : decode nb_F_wholePartOf 27 = .ok (.iconst 0, 1) := by decide +kernel
theorem d_F_wholePartOf_28 : decode nb_F_wholePartOf 28 = .ok (.invokevirtual 106, 3) := by decide +kernel
theorem d_F_wholePartOf_31 : decode nb_F_wholePartOf 31 = .ok (.return_, 1) := by decide +kernel
abbrev rm_F_wholePartOf : Room := ({ frames := 7, cells := 1, slots := 6, locals := 121 })
theorem c_F_wholePartOf (l : Launch) (hfl : l.flags = flags0) (x1 : UInt64) : nf_C nf_jN l nm_F_wholePartOf nb_F_wholePartOf 3 none rm_F_wholePartOf (fun a => [.ref (a 0), .double x1]) (fun M post ex => P_F_wholePartOf x1 M post ex) := by
  refine nf_start (plainFor_of_name (by decide +kernel)) (fun a => Nat.le_of_ble_eq_true rfl) ?_
  intro D a sz M post ex p e s m below meth c ls h K hl hw
  have hx := K.1
  have hb := K.2.1
  have hl : lv_has ls 3 [(0, .ref (a 0)), (1, .double x1)] := hl
  refine lv_dload_n hx hb d_F_wholePartOf_0 rfl (lv_at hl 1 rfl) ?_
  refine nf_callW (ex := (fun _ _ => False)) (As := [.double x1]) (st0 := [.double x1]) (rest := []) K hw (nf_invS hx hb K.2.2.2.1 (nf_Kg K nw_490) (nf_Kg K nw_491) (nf_Kg K nw_1) (nf_Kg K nw_492) ⟨by decide, by decide⟩ rfl nl_F_isInfinite rfl d_F_wholePartOf_1) (c_F_isInfinite l hfl x1) nw_492 nw_1 rfl ⟨by decide, by decide⟩ (Nat.le_of_ble_eq_true rfl) hl.1 ⟨Nat.le_of_ble_eq_true rfl, Nat.le_of_ble_eq_true rfl⟩ h (fun _ _ h => h.elim) (fun r1 M2 H locs h hw => ?_)
  refine W.eq (g2 := F0 m 4 ls [.int r1]) rfl ?_
  refine nf_if_eq hx hb d_F_wholePartOf_4 (tgt := 18) (by decide) (fun hc => ?_) (fun hc => ?_)
  · have h := h.1 hc
    refine lv_aload_n hx hb d_F_wholePartOf_18 rfl (lv_at hl 0 rfl) ?_
    refine nf_get (v := .ref (a (10 + ((0 : Fin 9) : Fin 9).val))) K hw 0 6 1 nw_169 rfl rfl ni_F (by decide) rfl rfl d_F_wholePartOf_19 ?_
    refine lv_iconst (v := (1 : Int32)) hx hb d_F_wholePartOf_22 (by decide) ?_
    refine lv_dload_n hx hb d_F_wholePartOf_23 rfl (lv_at hl 1 rfl) ?_
    refine nf_callW (ex := ex) (As := [.double x1]) (st0 := [.double x1, .int (1 : Int32), .ref (a (10 + ((0 : Fin 9) : Fin 9).val))]) (rest := [.int (1 : Int32), .ref (a (10 + ((0 : Fin 9) : Fin 9).val))]) K hw (nf_invS hx hb K.2.2.2.1 (nf_Kg K nw_518) (nf_Kg K nw_519) (nf_Kg K nw_1) (nf_Kg K nw_520) ⟨by decide, by decide⟩ rfl nl_F_wholeBelowLimit rfl d_F_wholePartOf_24) (c_F_wholeBelowLimit l hfl x1) nw_520 nw_1 rfl ⟨by decide, by decide⟩ (Nat.le_of_ble_eq_true rfl) hl.1 ⟨Nat.le_of_ble_eq_true rfl, Nat.le_of_ble_eq_true rfl⟩ h (fun _ _ h => h) (fun r3 M4 H locs h hw => ?_)
    refine W.eq (g2 := F0 m 27 ls [.long r3, .int (1 : Int32), .ref (a (10 + ((0 : Fin 9) : Fin 9).val))]) rfl ?_
    refine W.widen (k := 1) (n := 6) (by decide) (by decide) ?_
    refine lv_iconst (v := (0 : Int32)) hx hb d_F_wholePartOf_27 (by decide) ?_
    refine nf_callW (ex := (fun _ _ => False)) (As := [.ref (a (10 + ((0 : Fin 9) : Fin 9).val)), .int (1 : Int32), .long r3, .int (0 : Int32)]) (st0 := [.int (0 : Int32), .long r3, .int (1 : Int32), .ref (a (10 + ((0 : Fin 9) : Fin 9).val))]) (rest := []) K hw (nf_invVN hx hb K.2.2.2.1 ((nf_Kr K nv_417).use rfl) (nf_Kg K nw_419) (nf_Kg K nx_V_becomeUnits) (nf_Kg K nw_420) ⟨by decide, by decide⟩ (nf_rcv K hw (10 + ((0 : Fin 9) : Fin 9).val) 4 (nf_heV _ _ _) rfl) rfl nl_V_becomeUnits rfl d_F_wholePartOf_28) (c_V_becomeUnits l hfl (0 : Fin 9) (1 : Int32) r3 (0 : Int32)) nw_420 nw_2 rfl ⟨by decide, by decide⟩ (Nat.le_of_ble_eq_true rfl) hl.1 ⟨Nat.le_of_ble_eq_true rfl, Nat.le_of_ble_eq_true rfl⟩ h (fun _ _ h => h.elim) (fun r5 M6 H locs h hw => ?_)
    refine W.eq (g2 := F0 m 31 ls []) rfl ?_
    exact nf_vret K hw d_F_wholePartOf_31 (Nat.le_of_ble_eq_true rfl) (Nat.le_of_ble_eq_true rfl) (r := ()) rfl h
  · have h := h.2 hc
    exact nf_throwW (i := 12) 3 hfl K hw rfl (by decide) na_F_309 nw_497 nw_498 nw_17 rfl d_F_wholePartOf_7 d_F_wholePartOf_10 d_F_wholePartOf_11 d_F_wholePartOf_14 d_F_wholePartOf_17 hl.1 ⟨by decide, by decide⟩ ⟨Nat.le_of_ble_eq_true rfl, Nat.le_of_ble_eq_true rfl⟩ h
theorem d_F_floatingRest_0 : decode nb_F_floatingRest 0 = .ok (.dload_n 0, 1) := by decide +kernel
theorem d_F_floatingRest_1 : decode nb_F_floatingRest 1 = .ok (.dconst 0, 1) := by decide +kernel
theorem d_F_floatingRest_2 : decode nb_F_floatingRest 2 = .ok (.dcmp .l, 1) := by decide +kernel
theorem d_F_floatingRest_3 : decode nb_F_floatingRest 3 = .ok (.ifCond .ne 5, 3) := by decide +kernel
theorem d_F_floatingRest_6 : decode nb_F_floatingRest 6 = .ok (.dload_n 0, 1) := by decide +kernel
theorem d_F_floatingRest_7 : decode nb_F_floatingRest 7 = .ok (.dreturn, 1) := by decide +kernel
theorem d_F_floatingRest_8 : decode nb_F_floatingRest 8 = .ok (.dload_n 0, 1) := by decide +kernel
theorem d_F_floatingRest_9 : decode nb_F_floatingRest 9 = .ok (.invokestatic 287, 3) := by decide +kernel
theorem d_F_floatingRest_12 : decode nb_F_floatingRest 12 = .ok (.dstore 4, 2) := by decide +kernel
theorem d_F_floatingRest_14 : decode nb_F_floatingRest 14 = .ok (.dload_n 2, 1) := by decide +kernel
theorem d_F_floatingRest_15 : decode nb_F_floatingRest 15 = .ok (.dstore 6, 2) := by decide +kernel
theorem d_F_floatingRest_17 : decode nb_F_floatingRest 17 = .ok (.iconst 0, 1) := by decide +kernel
theorem d_F_floatingRest_18 : decode nb_F_floatingRest 18 = .ok (.istore 8, 2) := by decide +kernel
theorem d_F_floatingRest_20 : decode nb_F_floatingRest 20 = .ok (.iload 8, 2) := by decide +kernel
theorem d_F_floatingRest_22 : decode nb_F_floatingRest 22 = .ok (.sipush 2100, 3) := by decide +kernel
theorem d_F_floatingRest_25 : decode nb_F_floatingRest 25 = .ok (.if_icmp .ge 27, 3) := by decide +kernel
theorem d_F_floatingRest_28 : decode nb_F_floatingRest 28 = .ok (.dload 4, 2) := by decide +kernel
theorem d_F_floatingRest_30 : decode nb_F_floatingRest 30 = .ok (.dload 6, 2) := by decide +kernel
theorem d_F_floatingRest_32 : decode nb_F_floatingRest 32 = .ok (.dsub, 1) := by decide +kernel
theorem d_F_floatingRest_33 : decode nb_F_floatingRest 33 = .ok (.dload 6, 2) := by decide +kernel
theorem d_F_floatingRest_35 : decode nb_F_floatingRest 35 = .ok (.dcmp .l, 1) := by decide +kernel
theorem d_F_floatingRest_36 : decode nb_F_floatingRest 36 = .ok (.ifCond .lt 16, 3) := by decide +kernel
theorem d_F_floatingRest_39 : decode nb_F_floatingRest 39 = .ok (.dload 6, 2) := by decide +kernel
theorem d_F_floatingRest_41 : decode nb_F_floatingRest 41 = .ok (.dload 6, 2) := by decide +kernel
theorem d_F_floatingRest_43 : decode nb_F_floatingRest 43 = .ok (.dadd, 1) := by decide +kernel
theorem d_F_floatingRest_44 : decode nb_F_floatingRest 44 = .ok (.dstore 6, 2) := by decide +kernel
theorem d_F_floatingRest_46 : decode nb_F_floatingRest 46 = .ok (.iinc 8 1, 3) := by decide +kernel
theorem d_F_floatingRest_49 : decode nb_F_floatingRest 49 = .ok (.goto (-29), 3) := by decide +kernel
theorem d_F_floatingRest_52 : decode nb_F_floatingRest 52 = .ok (.iload 8, 2) := by decide +kernel
theorem d_F_floatingRest_54 : decode nb_F_floatingRest 54 = .ok (.istore 9, 2) := by decide +kernel
theorem d_F_floatingRest_56 : decode nb_F_floatingRest 56 = .ok (.iload 9, 2) := by decide +kernel
theorem d_F_floatingRest_58 : decode nb_F_floatingRest 58 = .ok (.ifCond .lt 32, 3) := by decide +kernel
theorem d_F_floatingRest_61 : decode nb_F_floatingRest 61 = .ok (.dload 4, 2) := by decide +kernel
theorem d_F_floatingRest_63 : decode nb_F_floatingRest 63 = .ok (.dload 6, 2) := by decide +kernel
theorem d_F_floatingRest_65 : decode nb_F_floatingRest 65 = .ok (.dcmp .l, 1) := by decide +kernel
theorem d_F_floatingRest_66 : decode nb_F_floatingRest 66 = .ok (.ifCond .lt 10, 3) := by decide +kernel
theorem d_F_floatingRest_69 : decode nb_F_floatingRest 69 = .ok (.dload 4, 2) := by decide +kernel
theorem d_F_floatingRest_71 : decode nb_F_floatingRest 71 = .ok (.dload 6, 2) := by decide +kernel
theorem d_F_floatingRest_73 : decode nb_F_floatingRest 73 = .ok (.dsub, 1) := by decide +kernel
theorem d_F_floatingRest_74 : decode nb_F_floatingRest 74 = .ok (.dstore 4, 2) := by decide +kernel
theorem d_F_floatingRest_76 : decode nb_F_floatingRest 76 = .ok (.dload 6, 2) := by decide +kernel
theorem d_F_floatingRest_78 : decode nb_F_floatingRest 78 = .ok (.ldc2_w 299, 3) := by decide +kernel
theorem d_F_floatingRest_81 : decode nb_F_floatingRest 81 = .ok (.ddiv, 1) := by decide +kernel
theorem d_F_floatingRest_82 : decode nb_F_floatingRest 82 = .ok (.dstore 6, 2) := by decide +kernel
theorem d_F_floatingRest_84 : decode nb_F_floatingRest 84 = .ok (.iinc 9 (-1), 3) := by decide +kernel
theorem d_F_floatingRest_87 : decode nb_F_floatingRest 87 = .ok (.goto (-31), 3) := by decide +kernel
theorem d_F_floatingRest_90 : decode nb_F_floatingRest 90 = .ok (.dload_n 0, 1) := by decide +kernel
theorem d_F_floatingRest_91 : decode nb_F_floatingRest 91 = .ok (.dconst 0, 1) := by decide +kernel
theorem d_F_floatingRest_92 : decode nb_F_floatingRest 92 = .ok (.dcmp .g, 1) := by decide +kernel
theorem d_F_floatingRest_93 : decode nb_F_floatingRest 93 = .ok (.ifCond .ge 9, 3) := by decide +kernel
theorem d_F_floatingRest_96 : decode nb_F_floatingRest 96 = .ok (.dload 4, 2) := by decide +kernel
theorem d_F_floatingRest_98 : decode nb_F_floatingRest 98 = .ok (.dneg, 1) := by decide +kernel
theorem d_F_floatingRest_99 : decode nb_F_floatingRest 99 = .ok (.goto 5, 3) := by decide +kernel
theorem d_F_floatingRest_102 : decode nb_F_floatingRest 102 = .ok (.dload 4, 2) := by decide +kernel
theorem d_F_floatingRest_104 : decode nb_F_floatingRest 104 = .ok (.dreturn, 1) := by decide +kernel
abbrev rm_F_floatingRest : Room := ({ frames := 1, cells := 0, slots := 0, locals := 21 })
theorem w_F_floatingRest_76 {post : UInt64 → nf_M → Prop} (hfl : l.flags = flags0) (K : nf_K p s m args meth c "NumberForge" nb_F_floatingRest 10 (some FieldType.double) D a sz) (k56 : UInt64 → UInt64 → UInt64 → Int32 → nf_M → Prop) (hk56 : ∀ (x0 : UInt64) (x4 : UInt64) (x6 : UInt64) (x9 : Int32) (M : nf_M) (H : Heap) (locs : List Loc) (ls : Array Slot), k56 x0 x4 x6 x9 M → lv_has ls 10 [(0, .double x0), (4, .double x4), (6, .double x6), (9, .int x9)] → nf_W D a s sz H locs M → W p l e rm_F_floatingRest s m args below meth c H locs 0 0 (nf_MQ below (nf_Q nf_jD D a post ex (nf_A a sz)) args s rm_F_floatingRest.cells rm_F_floatingRest.slots (nf_A a sz)) (F0 m 56 ls [])) : ∀ (x0 : UInt64) (x4 : UInt64) (x6 : UInt64) (x9 : Int32) (M : nf_M) (H : Heap) (locs : List Loc) (ls : Array Slot), B_F_floatingRest_76 k56 post x0 x4 x6 x9 M → lv_has ls 10 [(0, .double x0), (4, .double x4), (6, .double x6), (9, .int x9)] → nf_W D a s sz H locs M → W p l e rm_F_floatingRest s m args below meth c H locs 0 0 (nf_MQ below (nf_Q nf_jD D a post ex (nf_A a sz)) args s rm_F_floatingRest.cells rm_F_floatingRest.slots (nf_A a sz)) (F0 m 76 ls []) := by
  have hx := K.1
  have hb := K.2.1
  intro x0 x4 x6 x9 M H locs ls h hl hw
  refine lv_dload hx hb d_F_floatingRest_76 (lv_at hl 2 rfl) ?_
  refine lv_ldc2d (v := (4611686018427387904 : UInt64)) hx hb K.2.2.2.1 (nf_Kg K nw_528) d_F_floatingRest_78 ?_
  obtain ⟨g1, h⟩ := h
  refine lv_ddiv hx hb d_F_floatingRest_81 g1 ?_
  refine lv_topd (fun t2 et2 => ?_)
  have h := h t2 et2
  refine lv_dstore (lv' := [(6, .double t2), (0, .double x0), (4, .double x4), (9, .int x9)]) hx hb d_F_floatingRest_82 hl (by decide) rfl (fun ls hl => ?_)
  refine lv_iinc (k := 3) (v := x9 + (-1 : Int32)) (lv' := [(9, .int (x9 + (-1 : Int32))), (6, .double t2), (0, .double x0), (4, .double x4)]) hx hb d_F_floatingRest_84 hl rfl (nf_inc (by decide)) (by decide) rfl (fun ls hl => ?_)
  refine lv_goto hx hb d_F_floatingRest_87 (tgt := 56) (by decide) ?_
  exact hk56 x0 x4 t2 (x9 + (-1 : Int32)) M _ _ _ h (lv_sub hl [2, 3, 1, 0] rfl) hw
theorem w_F_floatingRest_104 {post : UInt64 → nf_M → Prop} (hfl : l.flags = flags0) (K : nf_K p s m args meth c "NumberForge" nb_F_floatingRest 10 (some FieldType.double) D a sz) : ∀ (xy0 : UInt64) (M : nf_M) (H : Heap) (locs : List Loc) (ls : Array Slot), B_F_floatingRest_104 post xy0 M → lv_has ls 10 [] → nf_W D a s sz H locs M → W p l e rm_F_floatingRest s m args below meth c H locs 0 0 (nf_MQ below (nf_Q nf_jD D a post ex (nf_A a sz)) args s rm_F_floatingRest.cells rm_F_floatingRest.slots (nf_A a sz)) (F0 m 104 ls [.double xy0]) := by
  have hx := K.1
  have hb := K.2.1
  intro xy0 M H locs ls h hl hw
  exact nf_dret K hw d_F_floatingRest_104 (Nat.le_of_ble_eq_true rfl) (Nat.le_of_ble_eq_true rfl) (r := xy0) rfl h
theorem w_F_floatingRest_56 {post : UInt64 → nf_M → Prop} (hfl : l.flags = flags0) (K : nf_K p s m args meth c "NumberForge" nb_F_floatingRest 10 (some FieldType.double) D a sz) : ∀ (n : Nat) (x0 : UInt64) (x4 : UInt64) (x6 : UInt64) (x9 : Int32) (M : nf_M) (H : Heap) (locs : List Loc) (ls : Array Slot), B_F_floatingRest_56 post n x0 x4 x6 x9 M → lv_has ls 10 [(0, .double x0), (4, .double x4), (6, .double x6), (9, .int x9)] → nf_W D a s sz H locs M → W p l e rm_F_floatingRest s m args below meth c H locs 0 0 (nf_MQ below (nf_Q nf_jD D a post ex (nf_A a sz)) args s rm_F_floatingRest.cells rm_F_floatingRest.slots (nf_A a sz)) (F0 m 56 ls []) := by
  have hx := K.1
  have hb := K.2.1
  intro n
  induction n with
  | zero => intro x0 x4 x6 x9 M H locs ls h hl hw; exact h.elim
  | succ n ih =>
    intro x0 x4 x6 x9 M H locs ls h hl hw
    refine lv_iload hx hb d_F_floatingRest_56 (lv_at hl 3 rfl) ?_
    refine nf_if_lt hx hb d_F_floatingRest_58 (tgt := 90) (by decide) (fun hc => ?_) (fun hc => ?_)
    · have h := h.1 hc
      refine lv_dload_n hx hb d_F_floatingRest_90 rfl (lv_at hl 0 rfl) ?_
      refine lv_dconst0 hx hb d_F_floatingRest_91 ?_
      refine nf_dg_ge hx hb d_F_floatingRest_92 d_F_floatingRest_93 (tgt := 102) (by decide) (fun hc => ?_) (fun hc => ?_)
      · have h := h.1 hc
        refine lv_dload hx hb d_F_floatingRest_96 (lv_at hl 1 rfl) ?_
        refine lv_dneg hx hb d_F_floatingRest_98 ?_
        refine lv_goto hx hb d_F_floatingRest_99 (tgt := 104) (by decide) ?_
        exact w_F_floatingRest_104 hfl K (FP.dneg x4) M _ _ _ h (lv_sub hl [] rfl) hw
      · have h := h.2 hc
        refine lv_dload hx hb d_F_floatingRest_102 (lv_at hl 1 rfl) ?_
        exact w_F_floatingRest_104 hfl K x4 M _ _ _ h (lv_sub hl [] rfl) hw
    · have h := h.2 hc
      refine lv_dload hx hb d_F_floatingRest_61 (lv_at hl 1 rfl) ?_
      refine lv_dload hx hb d_F_floatingRest_63 (lv_at hl 2 rfl) ?_
      refine nf_dl_lt hx hb d_F_floatingRest_65 d_F_floatingRest_66 (tgt := 76) (by decide) (fun hc => ?_) (fun hc => ?_)
      · have h := h.1 hc
        refine lv_dload hx hb d_F_floatingRest_69 (lv_at hl 1 rfl) ?_
        refine lv_dload hx hb d_F_floatingRest_71 (lv_at hl 2 rfl) ?_
        obtain ⟨g1, h⟩ := h
        refine lv_dsub hx hb d_F_floatingRest_73 g1 ?_
        refine lv_topd (fun t2 et2 => ?_)
        have h := h t2 et2
        refine lv_dstore (lv' := [(4, .double t2), (0, .double x0), (6, .double x6), (9, .int x9)]) hx hb d_F_floatingRest_74 hl (by decide) rfl (fun ls hl => ?_)
        exact w_F_floatingRest_76 hfl K (fun x0 x4 x6 x9 z => B_F_floatingRest_56 post n x0 x4 x6 x9 z) (fun x0 x4 x6 x9 z H locs ls hh hll hww => ih x0 x4 x6 x9 z H locs ls hh hll hww) x0 t2 x6 x9 M _ _ _ h (lv_sub hl [1, 0, 2, 3] rfl) hw
      · have h := h.2 hc
        exact w_F_floatingRest_76 hfl K (fun x0 x4 x6 x9 z => B_F_floatingRest_56 post n x0 x4 x6 x9 z) (fun x0 x4 x6 x9 z H locs ls hh hll hww => ih x0 x4 x6 x9 z H locs ls hh hll hww) x0 x4 x6 x9 M _ _ _ h (lv_sub hl [0, 1, 2, 3] rfl) hw
theorem w_F_floatingRest_52 {post : UInt64 → nf_M → Prop} (hfl : l.flags = flags0) (K : nf_K p s m args meth c "NumberForge" nb_F_floatingRest 10 (some FieldType.double) D a sz) : ∀ (x0 : UInt64) (x4 : UInt64) (x6 : UInt64) (x8 : Int32) (M : nf_M) (H : Heap) (locs : List Loc) (ls : Array Slot), B_F_floatingRest_52 post x0 x4 x6 x8 M → lv_has ls 10 [(0, .double x0), (4, .double x4), (6, .double x6), (8, .int x8)] → nf_W D a s sz H locs M → W p l e rm_F_floatingRest s m args below meth c H locs 0 0 (nf_MQ below (nf_Q nf_jD D a post ex (nf_A a sz)) args s rm_F_floatingRest.cells rm_F_floatingRest.slots (nf_A a sz)) (F0 m 52 ls []) := by
  have hx := K.1
  have hb := K.2.1
  intro x0 x4 x6 x8 M H locs ls h hl hw
  refine lv_iload hx hb d_F_floatingRest_52 (lv_at hl 3 rfl) ?_
  refine lv_istore (lv' := [(9, .int x8), (0, .double x0), (4, .double x4), (6, .double x6), (8, .int x8)]) hx hb d_F_floatingRest_54 hl (by decide) rfl (fun ls hl => ?_)
  obtain ⟨n, h⟩ := h
  exact w_F_floatingRest_56 hfl K n x0 x4 x6 x8 M _ _ _ h (lv_sub hl [1, 2, 3, 0] rfl) hw
theorem w_F_floatingRest_20 {post : UInt64 → nf_M → Prop} (hfl : l.flags = flags0) (K : nf_K p s m args meth c "NumberForge" nb_F_floatingRest 10 (some FieldType.double) D a sz) : ∀ (n : Nat) (x0 : UInt64) (x4 : UInt64) (x6 : UInt64) (x8 : Int32) (M : nf_M) (H : Heap) (locs : List Loc) (ls : Array Slot), B_F_floatingRest_20 post n x0 x4 x6 x8 M → lv_has ls 10 [(0, .double x0), (4, .double x4), (6, .double x6), (8, .int x8)] → nf_W D a s sz H locs M → W p l e rm_F_floatingRest s m args below meth c H locs 0 0 (nf_MQ below (nf_Q nf_jD D a post ex (nf_A a sz)) args s rm_F_floatingRest.cells rm_F_floatingRest.slots (nf_A a sz)) (F0 m 20 ls []) := by
  have hx := K.1
  have hb := K.2.1
  intro n
  induction n with
  | zero => intro x0 x4 x6 x8 M H locs ls h hl hw; exact h.elim
  | succ n ih =>
    intro x0 x4 x6 x8 M H locs ls h hl hw
    refine lv_iload hx hb d_F_floatingRest_20 (lv_at hl 3 rfl) ?_
    refine lv_sipush (v := (2100 : Int32)) hx hb d_F_floatingRest_22 (by decide) ?_
    refine nf_ic_ge hx hb d_F_floatingRest_25 (tgt := 52) (by decide) (fun hc => ?_) (fun hc => ?_)
    · have h := h.1 hc
      refine lv_dload hx hb d_F_floatingRest_28 (lv_at hl 1 rfl) ?_
      refine lv_dload hx hb d_F_floatingRest_30 (lv_at hl 2 rfl) ?_
      obtain ⟨g1, h⟩ := h
      refine lv_dsub hx hb d_F_floatingRest_32 g1 ?_
      refine lv_dload hx hb d_F_floatingRest_33 (lv_at hl 2 rfl) ?_
      refine nf_dl_lt hx hb d_F_floatingRest_35 d_F_floatingRest_36 (tgt := 52) (by decide) (fun hc => ?_) (fun hc => ?_)
      · have h := h.1 hc
        refine lv_dload hx hb d_F_floatingRest_39 (lv_at hl 2 rfl) ?_
        refine lv_dload hx hb d_F_floatingRest_41 (lv_at hl 2 rfl) ?_
        obtain ⟨g2, h⟩ := h
        refine lv_dadd hx hb d_F_floatingRest_43 g2 ?_
        refine lv_topd (fun t3 et3 => ?_)
        have h := h t3 et3
        refine lv_dstore (lv' := [(6, .double t3), (0, .double x0), (4, .double x4), (8, .int x8)]) hx hb d_F_floatingRest_44 hl (by decide) rfl (fun ls hl => ?_)
        refine lv_iinc (k := 3) (v := x8 + (1 : Int32)) (lv' := [(8, .int (x8 + (1 : Int32))), (6, .double t3), (0, .double x0), (4, .double x4)]) hx hb d_F_floatingRest_46 hl rfl (nf_inc (by decide)) (by decide) rfl (fun ls hl => ?_)
        refine lv_goto hx hb d_F_floatingRest_49 (tgt := 20) (by decide) ?_
        exact ih x0 x4 t3 (x8 + (1 : Int32)) M _ _ _ h (lv_sub hl [2, 3, 1, 0] rfl) hw
      · have h := h.2 hc
        exact w_F_floatingRest_52 hfl K x0 x4 x6 x8 M _ _ _ h (lv_sub hl [0, 1, 2, 3] rfl) hw
    · have h := h.2 hc
      exact w_F_floatingRest_52 hfl K x0 x4 x6 x8 M _ _ _ h (lv_sub hl [0, 1, 2, 3] rfl) hw
theorem c_F_floatingRest (l : Launch) (hfl : l.flags = flags0) (x0 : UInt64) (x2 : UInt64) : nf_C nf_jD l nm_F_floatingRest nb_F_floatingRest 10 (some FieldType.double) rm_F_floatingRest (fun a => [.double x0, .double x2]) (fun M post ex => P_F_floatingRest x0 x2 M post) := by
  refine nf_start (plainFor_of_name (by decide +kernel)) (fun a => Nat.le_of_ble_eq_true rfl) ?_
  intro D a sz M post ex p e s m below meth c ls h K hl hw
  have hx := K.1
  have hb := K.2.1
  have hl : lv_has ls 10 [(0, .double x0), (2, .double x2)] := hl
  refine lv_dload_n hx hb d_F_floatingRest_0 rfl (lv_at hl 0 rfl) ?_
  refine lv_dconst0 hx hb d_F_floatingRest_1 ?_
  refine nf_dl_ne hx hb d_F_floatingRest_2 d_F_floatingRest_3 (tgt := 8) (by decide) (fun hc => ?_) (fun hc => ?_)
  · have h := h.1 hc
    refine lv_dload_n hx hb d_F_floatingRest_6 rfl (lv_at hl 0 rfl) ?_
    exact nf_dret K hw d_F_floatingRest_7 (Nat.le_of_ble_eq_true rfl) (Nat.le_of_ble_eq_true rfl) (r := x0) rfl h
  · have h := h.2 hc
    refine lv_dload_n hx hb d_F_floatingRest_8 rfl (lv_at hl 0 rfl) ?_
    refine nf_callW (ex := (fun _ _ => False)) (As := [.double x0]) (st0 := [.double x0]) (rest := []) K hw (nf_invS hx hb K.2.2.2.1 (nf_Kg K nw_493) (nf_Kg K nw_494) (nf_Kg K nw_1) (nf_Kg K nw_495) ⟨by decide, by decide⟩ rfl nl_F_amount rfl d_F_floatingRest_9) (c_F_amount l hfl x0) nw_495 nw_1 rfl ⟨by decide, by decide⟩ (Nat.le_of_ble_eq_true rfl) hl.1 ⟨Nat.le_of_ble_eq_true rfl, Nat.le_of_ble_eq_true rfl⟩ h (fun _ _ h => h.elim) (fun r1 M2 H locs h hw => ?_)
    refine W.eq (g2 := F0 m 12 ls [.double r1]) rfl ?_
    refine lv_dstore (lv' := [(4, .double r1), (0, .double x0), (2, .double x2)]) hx hb d_F_floatingRest_12 hl (by decide) rfl (fun ls hl => ?_)
    refine lv_dload_n hx hb d_F_floatingRest_14 rfl (lv_at hl 2 rfl) ?_
    refine lv_dstore (lv' := [(6, .double x2), (4, .double r1), (0, .double x0), (2, .double x2)]) hx hb d_F_floatingRest_15 hl (by decide) rfl (fun ls hl => ?_)
    refine lv_iconst (v := (0 : Int32)) hx hb d_F_floatingRest_17 (by decide) ?_
    refine lv_istore (lv' := [(8, .int (0 : Int32)), (6, .double x2), (4, .double r1), (0, .double x0), (2, .double x2)]) hx hb d_F_floatingRest_18 hl (by decide) rfl (fun ls hl => ?_)
    obtain ⟨n, h⟩ := h
    exact w_F_floatingRest_20 hfl K n x0 r1 x2 (0 : Int32) M2 _ _ _ h (lv_sub hl [3, 2, 1, 0] rfl) hw
theorem d_F_doubleAnswer_0 : decode nb_F_doubleAnswer 0 = .ok (.iload_n 0, 1) := by decide +kernel
theorem d_F_doubleAnswer_1 : decode nb_F_doubleAnswer 1 = .ok (.tableswitch 39 0 2 #[27, 31, 35], 27) := by decide +kernel
theorem d_F_doubleAnswer_28 : decode nb_F_doubleAnswer 28 = .ok (.dload_n 1, 1) := by decide +kernel
theorem d_F_doubleAnswer_29 : decode nb_F_doubleAnswer 29 = .ok (.dload_n 3, 1) := by decide +kernel
theorem d_F_doubleAnswer_30 : decode nb_F_doubleAnswer 30 = .ok (.dadd, 1) := by decide +kernel
theorem d_F_doubleAnswer_31 : decode nb_F_doubleAnswer 31 = .ok (.dreturn, 1) := by decide +kernel
theorem d_F_doubleAnswer_32 : decode nb_F_doubleAnswer 32 = .ok (.dload_n 1, 1) := by decide +kernel
theorem d_F_doubleAnswer_33 : decode nb_F_doubleAnswer 33 = .ok (.dload_n 3, 1) := by decide +kernel
theorem d_F_doubleAnswer_34 : decode nb_F_doubleAnswer 34 = .ok (.dsub, 1) := by decide +kernel
theorem d_F_doubleAnswer_35 : decode nb_F_doubleAnswer 35 = .ok (.dreturn, 1) := by decide +kernel
theorem d_F_doubleAnswer_36 : decode nb_F_doubleAnswer 36 = .ok (.dload_n 1, 1) := by decide +kernel
theorem d_F_doubleAnswer_37 : decode nb_F_doubleAnswer 37 = .ok (.dload_n 3, 1) := by decide +kernel
theorem d_F_doubleAnswer_38 : decode nb_F_doubleAnswer 38 = .ok (.dmul, 1) := by decide +kernel
theorem d_F_doubleAnswer_39 : decode nb_F_doubleAnswer 39 = .ok (.dreturn, 1) := by decide +kernel
theorem d_F_doubleAnswer_40 : decode nb_F_doubleAnswer 40 = .ok (.dload_n 1, 1) := by decide +kernel
theorem d_F_doubleAnswer_41 : decode nb_F_doubleAnswer 41 = .ok (.dload_n 3, 1) := by decide +kernel
theorem d_F_doubleAnswer_42 : decode nb_F_doubleAnswer 42 = .ok (.ddiv, 1) := by decide +kernel
theorem d_F_doubleAnswer_43 : decode nb_F_doubleAnswer 43 = .ok (.dreturn, 1) := by decide +kernel
abbrev rm_F_doubleAnswer : Room := ({ frames := 0, cells := 0, slots := 0, locals := 0 })
theorem c_F_doubleAnswer (l : Launch) (hfl : l.flags = flags0) (x0 : Int32) (x1 : UInt64) (x3 : UInt64) : nf_C nf_jD l nm_F_doubleAnswer nb_F_doubleAnswer 5 (some FieldType.double) rm_F_doubleAnswer (fun a => [.int x0, .double x1, .double x3]) (fun M post ex => P_F_doubleAnswer x0 x1 x3 M post) := by
  refine nf_start (plainFor_of_name (by decide +kernel)) (fun a => Nat.le_of_ble_eq_true rfl) ?_
  intro D a sz M post ex p e s m below meth c ls h K hl hw
  have hx := K.1
  have hb := K.2.1
  have hl : lv_has ls 5 [(0, .int x0), (1, .double x1), (3, .double x3)] := hl
  refine lv_iload_n hx hb d_F_doubleAnswer_0 rfl (lv_at hl 0 rfl) ?_
  by_cases hc : x0 = (0 : Int32)
  · have h := h.1 hc
    refine lv_tableIn hx hb d_F_doubleAnswer_1 (by rw [hc]; decide) (by rw [hc]; decide) (off := 27) (by rw [hc]; rfl) (tgt := 28) (by decide) ?_
    refine lv_dload_n hx hb d_F_doubleAnswer_28 rfl (lv_at hl 1 rfl) ?_
    refine lv_dload_n hx hb d_F_doubleAnswer_29 rfl (lv_at hl 2 rfl) ?_
    obtain ⟨g1, h⟩ := h
    refine lv_dadd hx hb d_F_doubleAnswer_30 g1 ?_
    exact nf_dret K hw d_F_doubleAnswer_31 (Nat.le_of_ble_eq_true rfl) (Nat.le_of_ble_eq_true rfl) (r := FP.dadd x1 x3) rfl h
  have h := h.2 hc
  have q2 := nf_ne hc (k := 0) (by decide)
  clear hc
  by_cases hc : x0 = (1 : Int32)
  · have h := h.1 hc
    refine lv_tableIn hx hb d_F_doubleAnswer_1 (by rw [hc]; decide) (by rw [hc]; decide) (off := 31) (by rw [hc]; rfl) (tgt := 32) (by decide) ?_
    refine lv_dload_n hx hb d_F_doubleAnswer_32 rfl (lv_at hl 1 rfl) ?_
    refine lv_dload_n hx hb d_F_doubleAnswer_33 rfl (lv_at hl 2 rfl) ?_
    obtain ⟨g3, h⟩ := h
    refine lv_dsub hx hb d_F_doubleAnswer_34 g3 ?_
    exact nf_dret K hw d_F_doubleAnswer_35 (Nat.le_of_ble_eq_true rfl) (Nat.le_of_ble_eq_true rfl) (r := FP.dsub x1 x3) rfl h
  have h := h.2 hc
  have q4 := nf_ne hc (k := 1) (by decide)
  clear hc
  by_cases hc : x0 = (2 : Int32)
  · have h := h.1 hc
    refine lv_tableIn hx hb d_F_doubleAnswer_1 (by rw [hc]; decide) (by rw [hc]; decide) (off := 35) (by rw [hc]; rfl) (tgt := 36) (by decide) ?_
    refine lv_dload_n hx hb d_F_doubleAnswer_36 rfl (lv_at hl 1 rfl) ?_
    refine lv_dload_n hx hb d_F_doubleAnswer_37 rfl (lv_at hl 2 rfl) ?_
    obtain ⟨g5, h⟩ := h
    refine lv_dmul hx hb d_F_doubleAnswer_38 g5 ?_
    exact nf_dret K hw d_F_doubleAnswer_39 (Nat.le_of_ble_eq_true rfl) (Nat.le_of_ble_eq_true rfl) (r := FP.dmul x1 x3) rfl h
  have h := h.2 hc
  have q6 := nf_ne hc (k := 2) (by decide)
  clear hc
  refine lv_tableOut hx hb d_F_doubleAnswer_1 (by omega) (tgt := 40) (by decide) ?_
  refine lv_dload_n hx hb d_F_doubleAnswer_40 rfl (lv_at hl 1 rfl) ?_
  refine lv_dload_n hx hb d_F_doubleAnswer_41 rfl (lv_at hl 2 rfl) ?_
  obtain ⟨g7, h⟩ := h
  refine lv_ddiv hx hb d_F_doubleAnswer_42 g7 ?_
  exact nf_dret K hw d_F_doubleAnswer_43 (Nat.le_of_ble_eq_true rfl) (Nat.le_of_ble_eq_true rfl) (r := FP.ddiv x1 x3) rfl h
theorem d_F_floatAnswer_0 : decode nb_F_floatAnswer 0 = .ok (.iload_n 0, 1) := by decide +kernel
theorem d_F_floatAnswer_1 : decode nb_F_floatAnswer 1 = .ok (.tableswitch 39 0 2 #[27, 31, 35], 27) := by decide +kernel
theorem d_F_floatAnswer_28 : decode nb_F_floatAnswer 28 = .ok (.fload_n 1, 1) := by decide +kernel
theorem d_F_floatAnswer_29 : decode nb_F_floatAnswer 29 = .ok (.fload_n 2, 1) := by decide +kernel
theorem d_F_floatAnswer_30 : decode nb_F_floatAnswer 30 = .ok (.fadd, 1) := by decide +kernel
theorem d_F_floatAnswer_31 : decode nb_F_floatAnswer 31 = .ok (.freturn, 1) := by decide +kernel
theorem d_F_floatAnswer_32 : decode nb_F_floatAnswer 32 = .ok (.fload_n 1, 1) := by decide +kernel
theorem d_F_floatAnswer_33 : decode nb_F_floatAnswer 33 = .ok (.fload_n 2, 1) := by decide +kernel
theorem d_F_floatAnswer_34 : decode nb_F_floatAnswer 34 = .ok (.fsub, 1) := by decide +kernel
theorem d_F_floatAnswer_35 : decode nb_F_floatAnswer 35 = .ok (.freturn, 1) := by decide +kernel
theorem d_F_floatAnswer_36 : decode nb_F_floatAnswer 36 = .ok (.fload_n 1, 1) := by decide +kernel
theorem d_F_floatAnswer_37 : decode nb_F_floatAnswer 37 = .ok (.fload_n 2, 1) := by decide +kernel
theorem d_F_floatAnswer_38 : decode nb_F_floatAnswer 38 = .ok (.fmul, 1) := by decide +kernel
theorem d_F_floatAnswer_39 : decode nb_F_floatAnswer 39 = .ok (.freturn, 1) := by decide +kernel
theorem d_F_floatAnswer_40 : decode nb_F_floatAnswer 40 = .ok (.fload_n 1, 1) := by decide +kernel
theorem d_F_floatAnswer_41 : decode nb_F_floatAnswer 41 = .ok (.fload_n 2, 1) := by decide +kernel
theorem d_F_floatAnswer_42 : decode nb_F_floatAnswer 42 = .ok (.fdiv, 1) := by decide +kernel
theorem d_F_floatAnswer_43 : decode nb_F_floatAnswer 43 = .ok (.freturn, 1) := by decide +kernel
abbrev rm_F_floatAnswer : Room := ({ frames := 0, cells := 0, slots := 0, locals := 0 })
theorem c_F_floatAnswer (l : Launch) (hfl : l.flags = flags0) (x0 : Int32) (x1 : UInt32) (x2 : UInt32) : nf_C nf_jF l nm_F_floatAnswer nb_F_floatAnswer 3 (some FieldType.float) rm_F_floatAnswer (fun a => [.int x0, .float x1, .float x2]) (fun M post ex => P_F_floatAnswer x0 x1 x2 M post) := by
  refine nf_start (plainFor_of_name (by decide +kernel)) (fun a => Nat.le_of_ble_eq_true rfl) ?_
  intro D a sz M post ex p e s m below meth c ls h K hl hw
  have hx := K.1
  have hb := K.2.1
  have hl : lv_has ls 3 [(0, .int x0), (1, .float x1), (2, .float x2)] := hl
  refine lv_iload_n hx hb d_F_floatAnswer_0 rfl (lv_at hl 0 rfl) ?_
  by_cases hc : x0 = (0 : Int32)
  · have h := h.1 hc
    refine lv_tableIn hx hb d_F_floatAnswer_1 (by rw [hc]; decide) (by rw [hc]; decide) (off := 27) (by rw [hc]; rfl) (tgt := 28) (by decide) ?_
    refine lv_fload_n hx hb d_F_floatAnswer_28 rfl (lv_at hl 1 rfl) ?_
    refine lv_fload_n hx hb d_F_floatAnswer_29 rfl (lv_at hl 2 rfl) ?_
    obtain ⟨g1, h⟩ := h
    refine lv_fadd hx hb d_F_floatAnswer_30 g1 ?_
    exact nf_fret K hw d_F_floatAnswer_31 (Nat.le_of_ble_eq_true rfl) (Nat.le_of_ble_eq_true rfl) (r := FP.fadd x1 x2) rfl h
  have h := h.2 hc
  have q2 := nf_ne hc (k := 0) (by decide)
  clear hc
  by_cases hc : x0 = (1 : Int32)
  · have h := h.1 hc
    refine lv_tableIn hx hb d_F_floatAnswer_1 (by rw [hc]; decide) (by rw [hc]; decide) (off := 31) (by rw [hc]; rfl) (tgt := 32) (by decide) ?_
    refine lv_fload_n hx hb d_F_floatAnswer_32 rfl (lv_at hl 1 rfl) ?_
    refine lv_fload_n hx hb d_F_floatAnswer_33 rfl (lv_at hl 2 rfl) ?_
    obtain ⟨g3, h⟩ := h
    refine lv_fsub hx hb d_F_floatAnswer_34 g3 ?_
    exact nf_fret K hw d_F_floatAnswer_35 (Nat.le_of_ble_eq_true rfl) (Nat.le_of_ble_eq_true rfl) (r := FP.fsub x1 x2) rfl h
  have h := h.2 hc
  have q4 := nf_ne hc (k := 1) (by decide)
  clear hc
  by_cases hc : x0 = (2 : Int32)
  · have h := h.1 hc
    refine lv_tableIn hx hb d_F_floatAnswer_1 (by rw [hc]; decide) (by rw [hc]; decide) (off := 35) (by rw [hc]; rfl) (tgt := 36) (by decide) ?_
    refine lv_fload_n hx hb d_F_floatAnswer_36 rfl (lv_at hl 1 rfl) ?_
    refine lv_fload_n hx hb d_F_floatAnswer_37 rfl (lv_at hl 2 rfl) ?_
    obtain ⟨g5, h⟩ := h
    refine lv_fmul hx hb d_F_floatAnswer_38 g5 ?_
    exact nf_fret K hw d_F_floatAnswer_39 (Nat.le_of_ble_eq_true rfl) (Nat.le_of_ble_eq_true rfl) (r := FP.fmul x1 x2) rfl h
  have h := h.2 hc
  have q6 := nf_ne hc (k := 2) (by decide)
  clear hc
  refine lv_tableOut hx hb d_F_floatAnswer_1 (by omega) (tgt := 40) (by decide) ?_
  refine lv_fload_n hx hb d_F_floatAnswer_40 rfl (lv_at hl 1 rfl) ?_
  refine lv_fload_n hx hb d_F_floatAnswer_41 rfl (lv_at hl 2 rfl) ?_
  obtain ⟨g7, h⟩ := h
  refine lv_fdiv hx hb d_F_floatAnswer_42 g7 ?_
  exact nf_fret K hw d_F_floatAnswer_43 (Nat.le_of_ble_eq_true rfl) (Nat.le_of_ble_eq_true rfl) (r := FP.fdiv x1 x2) rfl h
theorem d_F_reckonFloating_0 : decode nb_F_reckonFloating 0 = .ok (.aload_n 2, 1) := by decide +kernel
theorem d_F_reckonFloating_1 : decode nb_F_reckonFloating 1 = .ok (.getfield 135, 3) := by decide +kernel
theorem d_F_reckonFloating_4 : decode nb_F_reckonFloating 4 = .ok (.bipush 9, 2) := by decide +kernel
theorem d_F_reckonFloating_6 : decode nb_F_reckonFloating 6 = .ok (.if_icmp .eq 12, 3) := by decide +kernel
theorem d_F_reckonFloating_9 : decode nb_F_reckonFloating 9 = .ok (.aload_n 3, 1) := by decide +kernel
theorem d_F_reckonFloating_10 : decode nb_F_reckonFloating 10 = .ok (.getfield 135, 3) := by decide +kernel
theorem d_F_reckonFloating_13 : decode nb_F_reckonFloating 13 = .ok (.bipush 9, 2) := by decide +kernel
theorem d_F_reckonFloating_15 : decode nb_F_reckonFloating 15 = .ok (.if_icmp .ne 8, 3) := by decide +kernel
theorem d_F_reckonFloating_18 : decode nb_F_reckonFloating 18 = .ok (.bipush 9, 2) := by decide +kernel
theorem d_F_reckonFloating_20 : decode nb_F_reckonFloating 20 = .ok (.goto 5, 3) := by decide +kernel
theorem d_F_reckonFloating_23 : decode nb_F_reckonFloating 23 = .ok (.bipush 8, 2) := by decide +kernel
theorem d_F_reckonFloating_25 : decode nb_F_reckonFloating 25 = .ok (.istore 4, 2) := by decide +kernel
theorem d_F_reckonFloating_27 : decode nb_F_reckonFloating 27 = .ok (.iload 4, 2) := by decide +kernel
theorem d_F_reckonFloating_29 : decode nb_F_reckonFloating 29 = .ok (.bipush 9, 2) := by decide +kernel
theorem d_F_reckonFloating_31 : decode nb_F_reckonFloating 31 = .ok (.if_icmp .ne 10, 3) := by decide +kernel
theorem d_F_reckonFloating_34 : decode nb_F_reckonFloating 34 = .ok (.aload_n 2, 1) := by decide +kernel
theorem d_F_reckonFloating_35 : decode nb_F_reckonFloating 35 = .ok (.invokevirtual 154, 3) := by decide +kernel
theorem d_F_reckonFloating_38 : decode nb_F_reckonFloating 38 = .ok (.goto 8, 3) := by decide +kernel
theorem d_F_reckonFloating_41 : decode nb_F_reckonFloating 41 = .ok (.aload_n 2, 1) := by decide +kernel
theorem d_F_reckonFloating_42 : decode nb_F_reckonFloating 42 = .ok (.invokevirtual 161, 3) := by decide +kernel
theorem d_F_reckonFloating_45 : decode nb_F_reckonFloating 45 = .ok (.f2d, 1) := by decide +kernel
theorem d_F_reckonFloating_46 : decode nb_F_reckonFloating 46 = .ok (.dstore 5, 2) := by decide +kernel
theorem d_F_reckonFloating_48 : decode nb_F_reckonFloating 48 = .ok (.iload 4, 2) := by decide +kernel
theorem d_F_reckonFloating_50 : decode nb_F_reckonFloating 50 = .ok (.bipush 9, 2) := by decide +kernel
theorem d_F_reckonFloating_52 : decode nb_F_reckonFloating 52 = .ok (.if_icmp .ne 10, 3) := by decide +kernel
theorem d_F_reckonFloating_55 : decode nb_F_reckonFloating 55 = .ok (.aload_n 3, 1) := by decide +kernel
theorem d_F_reckonFloating_56 : decode nb_F_reckonFloating 56 = .ok (.invokevirtual 154, 3) := by decide +kernel
theorem d_F_reckonFloating_59 : decode nb_F_reckonFloating 59 = .ok (.goto 8, 3) := by decide +kernel
theorem d_F_reckonFloating_62 : decode nb_F_reckonFloating 62 = .ok (.aload_n 3, 1) := by decide +kernel
theorem d_F_reckonFloating_63 : decode nb_F_reckonFloating 63 = .ok (.invokevirtual 161, 3) := by decide +kernel
theorem d_F_reckonFloating_66 : decode nb_F_reckonFloating 66 = .ok (.f2d, 1) := by decide +kernel
theorem d_F_reckonFloating_67 : decode nb_F_reckonFloating 67 = .ok (.dstore 7, 2) := by decide +kernel
theorem d_F_reckonFloating_69 : decode nb_F_reckonFloating 69 = .ok (.iload_n 1, 1) := by decide +kernel
theorem d_F_reckonFloating_70 : decode nb_F_reckonFloating 70 = .ok (.dload 5, 2) := by decide +kernel
theorem d_F_reckonFloating_72 : decode nb_F_reckonFloating 72 = .ok (.dload 7, 2) := by decide +kernel
theorem d_F_reckonFloating_74 : decode nb_F_reckonFloating 74 = .ok (.invokestatic 301, 3) := by decide +kernel
theorem d_F_reckonFloating_77 : decode nb_F_reckonFloating 77 = .ok (.ifCond .eq 14, 3) := by decide +kernel
theorem d_F_reckonFloating_80 : decode nb_F_reckonFloating 80 = .ok (.new 305, 3) := by decide +kernel
theorem d_F_reckonFloating_83 : decode nb_F_reckonFloating 83 = .ok (.dup, 1) := by decide +kernel
theorem d_F_reckonFloating_84 : decode nb_F_reckonFloating 84 = .ok (.ldc_w 307, 3) := by decide +kernel
theorem d_F_reckonFloating_87 : decode nb_F_reckonFloating 87 = .ok (.invokespecial 309, 3) := by decide +kernel
theorem d_F_reckonFloating_90 : decode nb_F_reckonFloating 90 = .ok (.athrow, 1) := by decide +kernel
theorem d_F_reckonFloating_91 : decode nb_F_reckonFloating 91 = .ok (.iload_n 1, 1) := by decide +kernel
theorem d_F_reckonFloating_92 : decode nb_F_reckonFloating 92 = .ok (.iconst 4, 1) := by decide +kernel
theorem d_F_reckonFloating_93 : decode nb_F_reckonFloating 93 = .ok (.if_icmp .ne 33, 3) := by decide +kernel
theorem d_F_reckonFloating_96 : decode nb_F_reckonFloating 96 = .ok (.aload_n 0, 1) := by decide +kernel
theorem d_F_reckonFloating_97 : decode nb_F_reckonFloating 97 = .ok (.iload 4, 2) := by decide +kernel
theorem d_F_reckonFloating_99 : decode nb_F_reckonFloating 99 = .ok (.bipush 9, 2) := by decide +kernel
theorem d_F_reckonFloating_101 : decode nb_F_reckonFloating 101 = .ok (.if_icmp .ne 11, 3) := by decide +kernel
theorem d_F_reckonFloating_104 : decode nb_F_reckonFloating 104 = .ok (.dload 5, 2) := by decide +kernel
theorem d_F_reckonFloating_106 : decode nb_F_reckonFloating 106 = .ok (.dload 7, 2) := by decide +kernel
theorem d_F_reckonFloating_108 : decode nb_F_reckonFloating 108 = .ok (.ddiv, 1) := by decide +kernel
theorem d_F_reckonFloating_109 : decode nb_F_reckonFloating 109 = .ok (.goto 11, 3) := by decide +kernel
theorem d_F_reckonFloating_112 : decode nb_F_reckonFloating 112 = .ok (.dload 5, 2) := by decide +kernel
theorem d_F_reckonFloating_114 : decode nb_F_reckonFloating 114 = .ok (.d2f, 1) := by decide +kernel
theorem d_F_reckonFloating_115 : decode nb_F_reckonFloating 115 = .ok (.dload 7, 2) := by decide +kernel
theorem d_F_reckonFloating_117 : decode nb_F_reckonFloating 117 = .ok (.d2f, 1) := by decide +kernel
theorem d_F_reckonFloating_118 : decode nb_F_reckonFloating 118 = .ok (.fdiv, 1) := by decide +kernel
theorem d_F_reckonFloating_119 : decode nb_F_reckonFloating 119 = .ok (.f2d, 1) := by decide +kernel
theorem d_F_reckonFloating_120 : decode nb_F_reckonFloating 120 = .ok (.invokevirtual 310, 3) := by decide +kernel
theorem d_F_reckonFloating_123 : decode nb_F_reckonFloating 123 = .ok (.goto 77, 3) := by decide +kernel
theorem d_F_reckonFloating_126 : decode nb_F_reckonFloating 126 = .ok (.iload_n 1, 1) := by decide +kernel
theorem d_F_reckonFloating_127 : decode nb_F_reckonFloating 127 = .ok (.iconst 5, 1) := by decide +kernel
theorem d_F_reckonFloating_128 : decode nb_F_reckonFloating 128 = .ok (.if_icmp .ne 25, 3) := by decide +kernel
theorem d_F_reckonFloating_131 : decode nb_F_reckonFloating 131 = .ok (.aload_n 0, 1) := by decide +kernel
theorem d_F_reckonFloating_132 : decode nb_F_reckonFloating 132 = .ok (.getfield 16, 3) := by decide +kernel
theorem d_F_reckonFloating_135 : decode nb_F_reckonFloating 135 = .ok (.iload 4, 2) := by decide +kernel
theorem d_F_reckonFloating_137 : decode nb_F_reckonFloating 137 = .ok (.dload 5, 2) := by decide +kernel
theorem d_F_reckonFloating_139 : decode nb_F_reckonFloating 139 = .ok (.dload 7, 2) := by decide +kernel
theorem d_F_reckonFloating_141 : decode nb_F_reckonFloating 141 = .ok (.invokestatic 287, 3) := by decide +kernel
theorem d_F_reckonFloating_144 : decode nb_F_reckonFloating 144 = .ok (.invokestatic 314, 3) := by decide +kernel
theorem d_F_reckonFloating_147 : decode nb_F_reckonFloating 147 = .ok (.invokevirtual 94, 3) := by decide +kernel
theorem d_F_reckonFloating_150 : decode nb_F_reckonFloating 150 = .ok (.goto 50, 3) := by decide +kernel
theorem d_F_reckonFloating_153 : decode nb_F_reckonFloating 153 = .ok (.iload 4, 2) := by decide +kernel
theorem d_F_reckonFloating_155 : decode nb_F_reckonFloating 155 = .ok (.bipush 9, 2) := by decide +kernel
theorem d_F_reckonFloating_157 : decode nb_F_reckonFloating 157 = .ok (.if_icmp .ne 23, 3) := by decide +kernel
theorem d_F_reckonFloating_160 : decode nb_F_reckonFloating 160 = .ok (.aload_n 0, 1) := by decide +kernel
theorem d_F_reckonFloating_161 : decode nb_F_reckonFloating 161 = .ok (.getfield 16, 3) := by decide +kernel
theorem d_F_reckonFloating_164 : decode nb_F_reckonFloating 164 = .ok (.iload 4, 2) := by decide +kernel
theorem d_F_reckonFloating_166 : decode nb_F_reckonFloating 166 = .ok (.iload_n 1, 1) := by decide +kernel
theorem d_F_reckonFloating_167 : decode nb_F_reckonFloating 167 = .ok (.dload 5, 2) := by decide +kernel
theorem d_F_reckonFloating_169 : decode nb_F_reckonFloating 169 = .ok (.dload 7, 2) := by decide +kernel
theorem d_F_reckonFloating_171 : decode nb_F_reckonFloating 171 = .ok (.invokestatic 318, 3) := by decide +kernel
theorem d_F_reckonFloating_174 : decode nb_F_reckonFloating 174 = .ok (.invokevirtual 94, 3) := by decide +kernel
theorem d_F_reckonFloating_177 : decode nb_F_reckonFloating 177 = .ok (.goto 23, 3) := by decide +kernel
theorem d_F_reckonFloating_180 : decode nb_F_reckonFloating 180 = .ok (.aload_n 0, 1) := by decide +kernel
theorem d_F_reckonFloating_181 : decode nb_F_reckonFloating 181 = .ok (.getfield 16, 3) := by decide +kernel
theorem d_F_reckonFloating_184 : decode nb_F_reckonFloating 184 = .ok (.iload 4, 2) := by decide +kernel
theorem d_F_reckonFloating_186 : decode nb_F_reckonFloating 186 = .ok (.iload_n 1, 1) := by decide +kernel
theorem d_F_reckonFloating_187 : decode nb_F_reckonFloating 187 = .ok (.dload 5, 2) := by decide +kernel
theorem d_F_reckonFloating_189 : decode nb_F_reckonFloating 189 = .ok (.d2f, 1) := by decide +kernel
theorem d_F_reckonFloating_190 : decode nb_F_reckonFloating 190 = .ok (.dload 7, 2) := by decide +kernel
theorem d_F_reckonFloating_192 : decode nb_F_reckonFloating 192 = .ok (.d2f, 1) := by decide +kernel
theorem d_F_reckonFloating_193 : decode nb_F_reckonFloating 193 = .ok (.invokestatic 322, 3) := by decide +kernel
theorem d_F_reckonFloating_196 : decode nb_F_reckonFloating 196 = .ok (.f2d, 1) := by decide +kernel
theorem d_F_reckonFloating_197 : decode nb_F_reckonFloating 197 = .ok (.invokevirtual 94, 3) := by decide +kernel
theorem d_F_reckonFloating_200 : decode nb_F_reckonFloating 200 = .ok (.return_, 1) := by decide +kernel
abbrev rm_F_reckonFloating : Room := ({ frames := 8, cells := 1, slots := 6, locals := 143 })
theorem w_F_reckonFloating_200 {post : Unit → nf_M → Prop} (hfl : l.flags = flags0) (K : nf_K p s m args meth c "NumberForge" nb_F_reckonFloating 9 none D a sz) : ∀ (M : nf_M) (H : Heap) (locs : List Loc) (ls : Array Slot), B_F_reckonFloating_200 post ex  M → lv_has ls 9 [] → nf_W D a s sz H locs M → W p l e rm_F_reckonFloating s m args below meth c H locs 1 6 (nf_MQ below (nf_Q nf_jN D a post ex (nf_A a sz)) args s rm_F_reckonFloating.cells rm_F_reckonFloating.slots (nf_A a sz)) (F0 m 200 ls []) := by
  have hx := K.1
  have hb := K.2.1
  intro  M H locs ls h hl hw
  exact nf_vret K hw d_F_reckonFloating_200 (Nat.le_of_ble_eq_true rfl) (Nat.le_of_ble_eq_true rfl) (r := ()) rfl h
theorem w_F_reckonFloating_120 {post : Unit → nf_M → Prop} (hfl : l.flags = flags0) (K : nf_K p s m args meth c "NumberForge" nb_F_reckonFloating 9 none D a sz) : ∀ (xy0 : UInt64) (M : nf_M) (H : Heap) (locs : List Loc) (ls : Array Slot), B_F_reckonFloating_120 post ex xy0 M → lv_has ls 9 [] → nf_W D a s sz H locs M → W p l e rm_F_reckonFloating s m args below meth c H locs 0 0 (nf_MQ below (nf_Q nf_jN D a post ex (nf_A a sz)) args s rm_F_reckonFloating.cells rm_F_reckonFloating.slots (nf_A a sz)) (F0 m 120 ls [.double xy0, .ref (a 0)]) := by
  have hx := K.1
  have hb := K.2.1
  intro xy0 M H locs ls h hl hw
  refine nf_callW (ex := ex) (As := [.ref (a 0), .double xy0]) (st0 := [.double xy0, .ref (a 0)]) (rest := []) K hw (nf_invV hx hb K.2.2.2.1 (nf_Kg K nw_513) (nf_Kg K nw_515) (nf_Kg K nx_F_wholePartOf) (nf_Kg K nw_516) ⟨by decide, by decide⟩ (nf_rcv K hw 0 6 rfl rfl) rfl nl_F_wholePartOf rfl d_F_reckonFloating_120) (c_F_wholePartOf l hfl xy0) nw_516 nw_1 rfl ⟨by decide, by decide⟩ (Nat.le_of_ble_eq_true rfl) hl.1 ⟨Nat.le_of_ble_eq_true rfl, Nat.le_of_ble_eq_true rfl⟩ h (fun _ _ h => h) (fun r1 M2 H locs h hw => ?_)
  refine W.eq (g2 := F0 m 123 ls []) rfl ?_
  refine W.widen (k := 1) (n := 6) (by decide) (by decide) ?_
  refine lv_goto hx hb d_F_reckonFloating_123 (tgt := 200) (by decide) ?_
  exact w_F_reckonFloating_200 hfl K  M2 _ _ _ h (lv_sub hl [] rfl) hw
theorem w_F_reckonFloating_67 {post : Unit → nf_M → Prop} (hfl : l.flags = flags0) (K : nf_K p s m args meth c "NumberForge" nb_F_reckonFloating 9 none D a sz) : ∀ (x1 : Int32) (x4 : Int32) (x5 : UInt64) (xy0 : UInt64) (M : nf_M) (H : Heap) (locs : List Loc) (ls : Array Slot), B_F_reckonFloating_67 post ex x1 x4 x5 xy0 M → lv_has ls 9 [(0, .ref (a 0)), (1, .int x1), (4, .int x4), (5, .double x5)] → nf_W D a s sz H locs M → W p l e rm_F_reckonFloating s m args below meth c H locs 0 0 (nf_MQ below (nf_Q nf_jN D a post ex (nf_A a sz)) args s rm_F_reckonFloating.cells rm_F_reckonFloating.slots (nf_A a sz)) (F0 m 67 ls [.double xy0]) := by
  have hx := K.1
  have hb := K.2.1
  intro x1 x4 x5 xy0 M H locs ls h hl hw
  refine lv_dstore (lv' := [(7, .double xy0), (0, .ref (a 0)), (1, .int x1), (4, .int x4), (5, .double x5)]) hx hb d_F_reckonFloating_67 hl (by decide) rfl (fun ls hl => ?_)
  refine lv_iload_n hx hb d_F_reckonFloating_69 rfl (lv_at hl 2 rfl) ?_
  refine lv_dload hx hb d_F_reckonFloating_70 (lv_at hl 4 rfl) ?_
  refine lv_dload hx hb d_F_reckonFloating_72 (lv_at hl 0 rfl) ?_
  refine nf_callW (ex := (fun _ _ => False)) (As := [.int x1, .double x5, .double xy0]) (st0 := [.double xy0, .double x5, .int x1]) (rest := []) K hw (nf_invS hx hb K.2.2.2.1 (nf_Kg K nw_487) (nf_Kg K nw_488) (nf_Kg K nw_1) (nf_Kg K nw_489) ⟨by decide, by decide⟩ rfl nl_F_isNoNumber rfl d_F_reckonFloating_74) (c_F_isNoNumber l hfl x1 x5 xy0) nw_489 nw_1 rfl ⟨by decide, by decide⟩ (Nat.le_of_ble_eq_true rfl) hl.1 ⟨Nat.le_of_ble_eq_true rfl, Nat.le_of_ble_eq_true rfl⟩ h (fun _ _ h => h.elim) (fun r1 M2 H locs h hw => ?_)
  refine W.eq (g2 := F0 m 77 ls [.int r1]) rfl ?_
  refine nf_if_eq hx hb d_F_reckonFloating_77 (tgt := 91) (by decide) (fun hc => ?_) (fun hc => ?_)
  · have h := h.1 hc
    refine lv_iload_n hx hb d_F_reckonFloating_91 rfl (lv_at hl 2 rfl) ?_
    refine lv_iconst (v := (4 : Int32)) hx hb d_F_reckonFloating_92 (by decide) ?_
    refine nf_ic_ne hx hb d_F_reckonFloating_93 (tgt := 126) (by decide) (fun hc => ?_) (fun hc => ?_)
    · have h := h.1 hc
      refine lv_aload_n hx hb d_F_reckonFloating_96 rfl (lv_at hl 1 rfl) ?_
      refine lv_iload hx hb d_F_reckonFloating_97 (lv_at hl 3 rfl) ?_
      refine lv_bipush (v := (9 : Int32)) hx hb d_F_reckonFloating_99 (by decide) ?_
      refine nf_ic_ne hx hb d_F_reckonFloating_101 (tgt := 112) (by decide) (fun hc => ?_) (fun hc => ?_)
      · have h := h.1 hc
        refine lv_dload hx hb d_F_reckonFloating_104 (lv_at hl 4 rfl) ?_
        refine lv_dload hx hb d_F_reckonFloating_106 (lv_at hl 0 rfl) ?_
        obtain ⟨g3, h⟩ := h
        refine lv_ddiv hx hb d_F_reckonFloating_108 g3 ?_
        refine lv_goto hx hb d_F_reckonFloating_109 (tgt := 120) (by decide) ?_
        exact w_F_reckonFloating_120 hfl K (FP.ddiv x5 xy0) M2 _ _ _ h (lv_sub hl [] rfl) hw
      · have h := h.2 hc
        refine lv_dload hx hb d_F_reckonFloating_112 (lv_at hl 4 rfl) ?_
        obtain ⟨g4, h⟩ := h
        refine lv_d2f hx hb d_F_reckonFloating_114 g4 ?_
        refine lv_dload hx hb d_F_reckonFloating_115 (lv_at hl 0 rfl) ?_
        obtain ⟨g5, h⟩ := h
        refine lv_d2f hx hb d_F_reckonFloating_117 g5 ?_
        obtain ⟨g6, h⟩ := h
        refine lv_fdiv hx hb d_F_reckonFloating_118 g6 ?_
        obtain ⟨g7, h⟩ := h
        refine lv_f2d hx hb d_F_reckonFloating_119 g7 ?_
        exact w_F_reckonFloating_120 hfl K (FP.f2d (FP.fdiv (FP.d2f x5) (FP.d2f xy0))) M2 _ _ _ h (lv_sub hl [] rfl) hw
    · have h := h.2 hc
      refine lv_iload_n hx hb d_F_reckonFloating_126 rfl (lv_at hl 2 rfl) ?_
      refine lv_iconst (v := (5 : Int32)) hx hb d_F_reckonFloating_127 (by decide) ?_
      refine nf_ic_ne hx hb d_F_reckonFloating_128 (tgt := 153) (by decide) (fun hc => ?_) (fun hc => ?_)
      · have h := h.1 hc
        refine lv_aload_n hx hb d_F_reckonFloating_131 rfl (lv_at hl 1 rfl) ?_
        refine nf_get (v := .ref (a (10 + ((0 : Fin 9) : Fin 9).val))) K hw 0 6 1 nw_169 rfl rfl ni_F (by decide) rfl rfl d_F_reckonFloating_132 ?_
        refine lv_iload hx hb d_F_reckonFloating_135 (lv_at hl 3 rfl) ?_
        refine lv_dload hx hb d_F_reckonFloating_137 (lv_at hl 4 rfl) ?_
        refine lv_dload hx hb d_F_reckonFloating_139 (lv_at hl 0 rfl) ?_
        refine nf_callW (ex := (fun _ _ => False)) (As := [.double xy0]) (st0 := [.double xy0, .double x5, .int x4, .ref (a (10 + ((0 : Fin 9) : Fin 9).val))]) (rest := [.double x5, .int x4, .ref (a (10 + ((0 : Fin 9) : Fin 9).val))]) K hw (nf_invS hx hb K.2.2.2.1 (nf_Kg K nw_493) (nf_Kg K nw_494) (nf_Kg K nw_1) (nf_Kg K nw_495) ⟨by decide, by decide⟩ rfl nl_F_amount rfl d_F_reckonFloating_141) (c_F_amount l hfl xy0) nw_495 nw_1 rfl ⟨by decide, by decide⟩ (Nat.le_of_ble_eq_true rfl) hl.1 ⟨Nat.le_of_ble_eq_true rfl, Nat.le_of_ble_eq_true rfl⟩ h (fun _ _ h => h.elim) (fun r8 M9 H locs h hw => ?_)
        refine W.eq (g2 := F0 m 144 ls [.double r8, .double x5, .int x4, .ref (a (10 + ((0 : Fin 9) : Fin 9).val))]) rfl ?_
        refine nf_callW (ex := (fun _ _ => False)) (As := [.double x5, .double r8]) (st0 := [.double r8, .double x5, .int x4, .ref (a (10 + ((0 : Fin 9) : Fin 9).val))]) (rest := [.int x4, .ref (a (10 + ((0 : Fin 9) : Fin 9).val))]) K hw (nf_invS hx hb K.2.2.2.1 (nf_Kg K nw_525) (nf_Kg K nw_526) (nf_Kg K nw_1) (nf_Kg K nw_527) ⟨by decide, by decide⟩ rfl nl_F_floatingRest rfl d_F_reckonFloating_144) (c_F_floatingRest l hfl x5 r8) nw_527 nw_1 rfl ⟨by decide, by decide⟩ (Nat.le_of_ble_eq_true rfl) hl.1 ⟨Nat.le_of_ble_eq_true rfl, Nat.le_of_ble_eq_true rfl⟩ h (fun _ _ h => h.elim) (fun r10 M11 H locs h hw => ?_)
        refine W.eq (g2 := F0 m 147 ls [.double r10, .int x4, .ref (a (10 + ((0 : Fin 9) : Fin 9).val))]) rfl ?_
        refine nf_callW (ex := (fun _ _ => False)) (As := [.ref (a (10 + ((0 : Fin 9) : Fin 9).val)), .int x4, .double r10]) (st0 := [.double r10, .int x4, .ref (a (10 + ((0 : Fin 9) : Fin 9).val))]) (rest := []) K hw (nf_invVN hx hb K.2.2.2.1 ((nf_Kr K nv_404).use rfl) (nf_Kg K nw_406) (nf_Kg K nx_V_becomeFloating) (nf_Kg K nw_407) ⟨by decide, by decide⟩ (nf_rcv K hw (10 + ((0 : Fin 9) : Fin 9).val) 4 (nf_heV _ _ _) rfl) rfl nl_V_becomeFloating rfl d_F_reckonFloating_147) (c_V_becomeFloating l hfl (0 : Fin 9) x4 r10) nw_407 nw_2 rfl ⟨by decide, by decide⟩ (Nat.le_of_ble_eq_true rfl) hl.1 ⟨Nat.le_of_ble_eq_true rfl, Nat.le_of_ble_eq_true rfl⟩ h (fun _ _ h => h.elim) (fun r12 M13 H locs h hw => ?_)
        refine W.eq (g2 := F0 m 150 ls []) rfl ?_
        refine lv_goto hx hb d_F_reckonFloating_150 (tgt := 200) (by decide) ?_
        refine W.widen (k := 1) (n := 6) (by decide) (by decide) ?_
        exact w_F_reckonFloating_200 hfl K  M13 _ _ _ h (lv_sub hl [] rfl) hw
      · have h := h.2 hc
        refine lv_iload hx hb d_F_reckonFloating_153 (lv_at hl 3 rfl) ?_
        refine lv_bipush (v := (9 : Int32)) hx hb d_F_reckonFloating_155 (by decide) ?_
        refine nf_ic_ne hx hb d_F_reckonFloating_157 (tgt := 180) (by decide) (fun hc => ?_) (fun hc => ?_)
        · have h := h.1 hc
          refine lv_aload_n hx hb d_F_reckonFloating_160 rfl (lv_at hl 1 rfl) ?_
          refine nf_get (v := .ref (a (10 + ((0 : Fin 9) : Fin 9).val))) K hw 0 6 1 nw_169 rfl rfl ni_F (by decide) rfl rfl d_F_reckonFloating_161 ?_
          refine lv_iload hx hb d_F_reckonFloating_164 (lv_at hl 3 rfl) ?_
          refine lv_iload_n hx hb d_F_reckonFloating_166 rfl (lv_at hl 2 rfl) ?_
          refine lv_dload hx hb d_F_reckonFloating_167 (lv_at hl 4 rfl) ?_
          refine lv_dload hx hb d_F_reckonFloating_169 (lv_at hl 0 rfl) ?_
          refine nf_callW (ex := (fun _ _ => False)) (As := [.int x1, .double x5, .double xy0]) (st0 := [.double xy0, .double x5, .int x1, .int x4, .ref (a (10 + ((0 : Fin 9) : Fin 9).val))]) (rest := [.int x4, .ref (a (10 + ((0 : Fin 9) : Fin 9).val))]) K hw (nf_invS hx hb K.2.2.2.1 (nf_Kg K nw_529) (nf_Kg K nw_530) (nf_Kg K nw_1) (nf_Kg K nw_531) ⟨by decide, by decide⟩ rfl nl_F_doubleAnswer rfl d_F_reckonFloating_171) (c_F_doubleAnswer l hfl x1 x5 xy0) nw_531 nw_1 rfl ⟨by decide, by decide⟩ (Nat.le_of_ble_eq_true rfl) hl.1 ⟨Nat.le_of_ble_eq_true rfl, Nat.le_of_ble_eq_true rfl⟩ h (fun _ _ h => h.elim) (fun r14 M15 H locs h hw => ?_)
          refine W.eq (g2 := F0 m 174 ls [.double r14, .int x4, .ref (a (10 + ((0 : Fin 9) : Fin 9).val))]) rfl ?_
          refine nf_callW (ex := (fun _ _ => False)) (As := [.ref (a (10 + ((0 : Fin 9) : Fin 9).val)), .int x4, .double r14]) (st0 := [.double r14, .int x4, .ref (a (10 + ((0 : Fin 9) : Fin 9).val))]) (rest := []) K hw (nf_invVN hx hb K.2.2.2.1 ((nf_Kr K nv_404).use rfl) (nf_Kg K nw_406) (nf_Kg K nx_V_becomeFloating) (nf_Kg K nw_407) ⟨by decide, by decide⟩ (nf_rcv K hw (10 + ((0 : Fin 9) : Fin 9).val) 4 (nf_heV _ _ _) rfl) rfl nl_V_becomeFloating rfl d_F_reckonFloating_174) (c_V_becomeFloating l hfl (0 : Fin 9) x4 r14) nw_407 nw_2 rfl ⟨by decide, by decide⟩ (Nat.le_of_ble_eq_true rfl) hl.1 ⟨Nat.le_of_ble_eq_true rfl, Nat.le_of_ble_eq_true rfl⟩ h (fun _ _ h => h.elim) (fun r16 M17 H locs h hw => ?_)
          refine W.eq (g2 := F0 m 177 ls []) rfl ?_
          refine lv_goto hx hb d_F_reckonFloating_177 (tgt := 200) (by decide) ?_
          refine W.widen (k := 1) (n := 6) (by decide) (by decide) ?_
          exact w_F_reckonFloating_200 hfl K  M17 _ _ _ h (lv_sub hl [] rfl) hw
        · have h := h.2 hc
          refine lv_aload_n hx hb d_F_reckonFloating_180 rfl (lv_at hl 1 rfl) ?_
          refine nf_get (v := .ref (a (10 + ((0 : Fin 9) : Fin 9).val))) K hw 0 6 1 nw_169 rfl rfl ni_F (by decide) rfl rfl d_F_reckonFloating_181 ?_
          refine lv_iload hx hb d_F_reckonFloating_184 (lv_at hl 3 rfl) ?_
          refine lv_iload_n hx hb d_F_reckonFloating_186 rfl (lv_at hl 2 rfl) ?_
          refine lv_dload hx hb d_F_reckonFloating_187 (lv_at hl 4 rfl) ?_
          obtain ⟨g18, h⟩ := h
          refine lv_d2f hx hb d_F_reckonFloating_189 g18 ?_
          refine lv_dload hx hb d_F_reckonFloating_190 (lv_at hl 0 rfl) ?_
          obtain ⟨g19, h⟩ := h
          refine lv_d2f hx hb d_F_reckonFloating_192 g19 ?_
          refine nf_callW (ex := (fun _ _ => False)) (As := [.int x1, .float (FP.d2f x5), .float (FP.d2f xy0)]) (st0 := [.float (FP.d2f xy0), .float (FP.d2f x5), .int x1, .int x4, .ref (a (10 + ((0 : Fin 9) : Fin 9).val))]) (rest := [.int x4, .ref (a (10 + ((0 : Fin 9) : Fin 9).val))]) K hw (nf_invS hx hb K.2.2.2.1 (nf_Kg K nw_532) (nf_Kg K nw_533) (nf_Kg K nw_1) (nf_Kg K nw_534) ⟨by decide, by decide⟩ rfl nl_F_floatAnswer rfl d_F_reckonFloating_193) (c_F_floatAnswer l hfl x1 (FP.d2f x5) (FP.d2f xy0)) nw_534 nw_1 rfl ⟨by decide, by decide⟩ (Nat.le_of_ble_eq_true rfl) hl.1 ⟨Nat.le_of_ble_eq_true rfl, Nat.le_of_ble_eq_true rfl⟩ h (fun _ _ h => h.elim) (fun r20 M21 H locs h hw => ?_)
          refine W.eq (g2 := F0 m 196 ls [.float r20, .int x4, .ref (a (10 + ((0 : Fin 9) : Fin 9).val))]) rfl ?_
          obtain ⟨g22, h⟩ := h
          refine lv_f2d hx hb d_F_reckonFloating_196 g22 ?_
          refine nf_callW (ex := (fun _ _ => False)) (As := [.ref (a (10 + ((0 : Fin 9) : Fin 9).val)), .int x4, .double (FP.f2d r20)]) (st0 := [.double (FP.f2d r20), .int x4, .ref (a (10 + ((0 : Fin 9) : Fin 9).val))]) (rest := []) K hw (nf_invVN hx hb K.2.2.2.1 ((nf_Kr K nv_404).use rfl) (nf_Kg K nw_406) (nf_Kg K nx_V_becomeFloating) (nf_Kg K nw_407) ⟨by decide, by decide⟩ (nf_rcv K hw (10 + ((0 : Fin 9) : Fin 9).val) 4 (nf_heV _ _ _) rfl) rfl nl_V_becomeFloating rfl d_F_reckonFloating_197) (c_V_becomeFloating l hfl (0 : Fin 9) x4 (FP.f2d r20)) nw_407 nw_2 rfl ⟨by decide, by decide⟩ (Nat.le_of_ble_eq_true rfl) hl.1 ⟨Nat.le_of_ble_eq_true rfl, Nat.le_of_ble_eq_true rfl⟩ h (fun _ _ h => h.elim) (fun r23 M24 H locs h hw => ?_)
          refine W.eq (g2 := F0 m 200 ls []) rfl ?_
          refine W.widen (k := 1) (n := 6) (by decide) (by decide) ?_
          exact w_F_reckonFloating_200 hfl K  M24 _ _ _ h (lv_sub hl [] rfl) hw
  · have h := h.2 hc
    exact nf_throwW (i := 11) 3 hfl K hw rfl (by decide) na_F_309 nw_497 nw_498 nw_17 rfl d_F_reckonFloating_80 d_F_reckonFloating_83 d_F_reckonFloating_84 d_F_reckonFloating_87 d_F_reckonFloating_90 hl.1 ⟨by decide, by decide⟩ ⟨Nat.le_of_ble_eq_true rfl, Nat.le_of_ble_eq_true rfl⟩ h
theorem w_F_reckonFloating_46 {post : Unit → nf_M → Prop} (hfl : l.flags = flags0) (K : nf_K p s m args meth c "NumberForge" nb_F_reckonFloating 9 none D a sz) : ∀ (x1 : Int32) (v3 : Fin 9) (x4 : Int32) (xy0 : UInt64) (M : nf_M) (H : Heap) (locs : List Loc) (ls : Array Slot), B_F_reckonFloating_46 post ex x1 v3 x4 xy0 M → lv_has ls 9 [(0, .ref (a 0)), (1, .int x1), (3, .ref (a (10 + (v3 : Fin 9).val))), (4, .int x4)] → nf_W D a s sz H locs M → W p l e rm_F_reckonFloating s m args below meth c H locs 0 0 (nf_MQ below (nf_Q nf_jN D a post ex (nf_A a sz)) args s rm_F_reckonFloating.cells rm_F_reckonFloating.slots (nf_A a sz)) (F0 m 46 ls [.double xy0]) := by
  have hx := K.1
  have hb := K.2.1
  intro x1 v3 x4 xy0 M H locs ls h hl hw
  refine lv_dstore (lv' := [(5, .double xy0), (0, .ref (a 0)), (1, .int x1), (3, .ref (a (10 + (v3 : Fin 9).val))), (4, .int x4)]) hx hb d_F_reckonFloating_46 hl (by decide) rfl (fun ls hl => ?_)
  refine lv_iload hx hb d_F_reckonFloating_48 (lv_at hl 4 rfl) ?_
  refine lv_bipush (v := (9 : Int32)) hx hb d_F_reckonFloating_50 (by decide) ?_
  refine nf_ic_ne hx hb d_F_reckonFloating_52 (tgt := 62) (by decide) (fun hc => ?_) (fun hc => ?_)
  · have h := h.1 hc
    refine lv_aload_n hx hb d_F_reckonFloating_55 rfl (lv_at hl 3 rfl) ?_
    refine nf_callW (ex := (fun _ _ => False)) (As := [.ref (a (10 + (v3 : Fin 9).val))]) (st0 := [.ref (a (10 + (v3 : Fin 9).val))]) (rest := []) K hw (nf_invVN hx hb K.2.2.2.1 ((nf_Kr K nv_476).use rfl) (nf_Kg K nw_478) (nf_Kg K nx_V_asDouble) (nf_Kg K nw_479) ⟨by decide, by decide⟩ (nf_rcv K hw (10 + (v3 : Fin 9).val) 4 (nf_heV _ _ _) rfl) rfl nl_V_asDouble rfl d_F_reckonFloating_56) (c_V_asDouble l hfl v3) nw_479 nw_2 rfl ⟨by decide, by decide⟩ (Nat.le_of_ble_eq_true rfl) hl.1 ⟨Nat.le_of_ble_eq_true rfl, Nat.le_of_ble_eq_true rfl⟩ h (fun _ _ h => h.elim) (fun r1 M2 H locs h hw => ?_)
    refine W.eq (g2 := F0 m 59 ls [.double r1]) rfl ?_
    refine lv_goto hx hb d_F_reckonFloating_59 (tgt := 67) (by decide) ?_
    exact w_F_reckonFloating_67 hfl K x1 x4 xy0 r1 M2 _ _ _ h (lv_sub hl [1, 2, 4, 0] rfl) hw
  · have h := h.2 hc
    refine lv_aload_n hx hb d_F_reckonFloating_62 rfl (lv_at hl 3 rfl) ?_
    refine nf_callW (ex := (fun _ _ => False)) (As := [.ref (a (10 + (v3 : Fin 9).val))]) (st0 := [.ref (a (10 + (v3 : Fin 9).val))]) (rest := []) K hw (nf_invVN hx hb K.2.2.2.1 ((nf_Kr K nv_482).use rfl) (nf_Kg K nw_484) (nf_Kg K nx_V_asFloat) (nf_Kg K nw_485) ⟨by decide, by decide⟩ (nf_rcv K hw (10 + (v3 : Fin 9).val) 4 (nf_heV _ _ _) rfl) rfl nl_V_asFloat rfl d_F_reckonFloating_63) (c_V_asFloat l hfl v3) nw_485 nw_2 rfl ⟨by decide, by decide⟩ (Nat.le_of_ble_eq_true rfl) hl.1 ⟨Nat.le_of_ble_eq_true rfl, Nat.le_of_ble_eq_true rfl⟩ h (fun _ _ h => h.elim) (fun r3 M4 H locs h hw => ?_)
    refine W.eq (g2 := F0 m 66 ls [.float r3]) rfl ?_
    obtain ⟨g5, h⟩ := h
    refine lv_f2d hx hb d_F_reckonFloating_66 g5 ?_
    exact w_F_reckonFloating_67 hfl K x1 x4 xy0 (FP.f2d r3) M4 _ _ _ h (lv_sub hl [1, 2, 4, 0] rfl) hw
theorem w_F_reckonFloating_25 {post : Unit → nf_M → Prop} (hfl : l.flags = flags0) (K : nf_K p s m args meth c "NumberForge" nb_F_reckonFloating 9 none D a sz) : ∀ (x1 : Int32) (v2 : Fin 9) (v3 : Fin 9) (xy0 : Int32) (M : nf_M) (H : Heap) (locs : List Loc) (ls : Array Slot), B_F_reckonFloating_25 post ex x1 v2 v3 xy0 M → lv_has ls 9 [(0, .ref (a 0)), (1, .int x1), (2, .ref (a (10 + (v2 : Fin 9).val))), (3, .ref (a (10 + (v3 : Fin 9).val)))] → nf_W D a s sz H locs M → W p l e rm_F_reckonFloating s m args below meth c H locs 0 0 (nf_MQ below (nf_Q nf_jN D a post ex (nf_A a sz)) args s rm_F_reckonFloating.cells rm_F_reckonFloating.slots (nf_A a sz)) (F0 m 25 ls [.int xy0]) := by
  have hx := K.1
  have hb := K.2.1
  intro x1 v2 v3 xy0 M H locs ls h hl hw
  refine lv_istore (lv' := [(4, .int xy0), (0, .ref (a 0)), (1, .int x1), (2, .ref (a (10 + (v2 : Fin 9).val))), (3, .ref (a (10 + (v3 : Fin 9).val)))]) hx hb d_F_reckonFloating_25 hl (by decide) rfl (fun ls hl => ?_)
  refine lv_iload hx hb d_F_reckonFloating_27 (lv_at hl 0 rfl) ?_
  refine lv_bipush (v := (9 : Int32)) hx hb d_F_reckonFloating_29 (by decide) ?_
  refine nf_ic_ne hx hb d_F_reckonFloating_31 (tgt := 41) (by decide) (fun hc => ?_) (fun hc => ?_)
  · have h := h.1 hc
    refine lv_aload_n hx hb d_F_reckonFloating_34 rfl (lv_at hl 3 rfl) ?_
    refine nf_callW (ex := (fun _ _ => False)) (As := [.ref (a (10 + (v2 : Fin 9).val))]) (st0 := [.ref (a (10 + (v2 : Fin 9).val))]) (rest := []) K hw (nf_invVN hx hb K.2.2.2.1 ((nf_Kr K nv_476).use rfl) (nf_Kg K nw_478) (nf_Kg K nx_V_asDouble) (nf_Kg K nw_479) ⟨by decide, by decide⟩ (nf_rcv K hw (10 + (v2 : Fin 9).val) 4 (nf_heV _ _ _) rfl) rfl nl_V_asDouble rfl d_F_reckonFloating_35) (c_V_asDouble l hfl v2) nw_479 nw_2 rfl ⟨by decide, by decide⟩ (Nat.le_of_ble_eq_true rfl) hl.1 ⟨Nat.le_of_ble_eq_true rfl, Nat.le_of_ble_eq_true rfl⟩ h (fun _ _ h => h.elim) (fun r1 M2 H locs h hw => ?_)
    refine W.eq (g2 := F0 m 38 ls [.double r1]) rfl ?_
    refine lv_goto hx hb d_F_reckonFloating_38 (tgt := 46) (by decide) ?_
    exact w_F_reckonFloating_46 hfl K x1 v3 xy0 r1 M2 _ _ _ h (lv_sub hl [1, 2, 4, 0] rfl) hw
  · have h := h.2 hc
    refine lv_aload_n hx hb d_F_reckonFloating_41 rfl (lv_at hl 3 rfl) ?_
    refine nf_callW (ex := (fun _ _ => False)) (As := [.ref (a (10 + (v2 : Fin 9).val))]) (st0 := [.ref (a (10 + (v2 : Fin 9).val))]) (rest := []) K hw (nf_invVN hx hb K.2.2.2.1 ((nf_Kr K nv_482).use rfl) (nf_Kg K nw_484) (nf_Kg K nx_V_asFloat) (nf_Kg K nw_485) ⟨by decide, by decide⟩ (nf_rcv K hw (10 + (v2 : Fin 9).val) 4 (nf_heV _ _ _) rfl) rfl nl_V_asFloat rfl d_F_reckonFloating_42) (c_V_asFloat l hfl v2) nw_485 nw_2 rfl ⟨by decide, by decide⟩ (Nat.le_of_ble_eq_true rfl) hl.1 ⟨Nat.le_of_ble_eq_true rfl, Nat.le_of_ble_eq_true rfl⟩ h (fun _ _ h => h.elim) (fun r3 M4 H locs h hw => ?_)
    refine W.eq (g2 := F0 m 45 ls [.float r3]) rfl ?_
    obtain ⟨g5, h⟩ := h
    refine lv_f2d hx hb d_F_reckonFloating_45 g5 ?_
    exact w_F_reckonFloating_46 hfl K x1 v3 xy0 (FP.f2d r3) M4 _ _ _ h (lv_sub hl [1, 2, 4, 0] rfl) hw
theorem w_F_reckonFloating_18 {post : Unit → nf_M → Prop} (hfl : l.flags = flags0) (K : nf_K p s m args meth c "NumberForge" nb_F_reckonFloating 9 none D a sz) : ∀ (x1 : Int32) (v2 : Fin 9) (v3 : Fin 9) (M : nf_M) (H : Heap) (locs : List Loc) (ls : Array Slot), B_F_reckonFloating_18 post ex x1 v2 v3 M → lv_has ls 9 [(0, .ref (a 0)), (1, .int x1), (2, .ref (a (10 + (v2 : Fin 9).val))), (3, .ref (a (10 + (v3 : Fin 9).val)))] → nf_W D a s sz H locs M → W p l e rm_F_reckonFloating s m args below meth c H locs 0 0 (nf_MQ below (nf_Q nf_jN D a post ex (nf_A a sz)) args s rm_F_reckonFloating.cells rm_F_reckonFloating.slots (nf_A a sz)) (F0 m 18 ls []) := by
  have hx := K.1
  have hb := K.2.1
  intro x1 v2 v3 M H locs ls h hl hw
  refine lv_bipush (v := (9 : Int32)) hx hb d_F_reckonFloating_18 (by decide) ?_
  refine lv_goto hx hb d_F_reckonFloating_20 (tgt := 25) (by decide) ?_
  exact w_F_reckonFloating_25 hfl K x1 v2 v3 (9 : Int32) M _ _ _ h (lv_sub hl [0, 1, 2, 3] rfl) hw
theorem c_F_reckonFloating (l : Launch) (hfl : l.flags = flags0) (x1 : Int32) (v2 : Fin 9) (v3 : Fin 9) : nf_C nf_jN l nm_F_reckonFloating nb_F_reckonFloating 9 none rm_F_reckonFloating (fun a => [.ref (a 0), .int x1, .ref (a (10 + (v2 : Fin 9).val)), .ref (a (10 + (v3 : Fin 9).val))]) (fun M post ex => P_F_reckonFloating x1 v2 v3 M post ex) := by
  refine nf_start (plainFor_of_name (by decide +kernel)) (fun a => Nat.le_of_ble_eq_true rfl) ?_
  intro D a sz M post ex p e s m below meth c ls h K hl hw
  have hx := K.1
  have hb := K.2.1
  have hl : lv_has ls 9 [(0, .ref (a 0)), (1, .int x1), (2, .ref (a (10 + (v2 : Fin 9).val))), (3, .ref (a (10 + (v3 : Fin 9).val)))] := hl
  refine lv_aload_n hx hb d_F_reckonFloating_0 rfl (lv_at hl 2 rfl) ?_
  refine nf_getN (v := .int (mg_T M v2)) K hw (10 + (v2 : Fin 9).val) 4 0 nv_39 (nf_heV _ _ _) rfl ni_V (by decide) rfl rfl d_F_reckonFloating_1 ?_
  refine lv_bipush (v := (9 : Int32)) hx hb d_F_reckonFloating_4 (by decide) ?_
  refine nf_ic_eq hx hb d_F_reckonFloating_6 (tgt := 18) (by decide) (fun hc => ?_) (fun hc => ?_)
  · have h := h.1 hc
    exact w_F_reckonFloating_18 hfl K x1 v2 v3 M _ _ _ h (lv_sub hl [0, 1, 2, 3] rfl) hw
  · have h := h.2 hc
    refine lv_aload_n hx hb d_F_reckonFloating_9 rfl (lv_at hl 3 rfl) ?_
    refine nf_getN (v := .int (mg_T M v3)) K hw (10 + (v3 : Fin 9).val) 4 0 nv_39 (nf_heV _ _ _) rfl ni_V (by decide) rfl rfl d_F_reckonFloating_10 ?_
    refine lv_bipush (v := (9 : Int32)) hx hb d_F_reckonFloating_13 (by decide) ?_
    refine nf_ic_ne hx hb d_F_reckonFloating_15 (tgt := 23) (by decide) (fun hc => ?_) (fun hc => ?_)
    · have h := h.1 hc
      exact w_F_reckonFloating_18 hfl K x1 v2 v3 M _ _ _ h (lv_sub hl [0, 1, 2, 3] rfl) hw
    · have h := h.2 hc
      refine lv_bipush (v := (8 : Int32)) hx hb d_F_reckonFloating_23 (by decide) ?_
      exact w_F_reckonFloating_25 hfl K x1 v2 v3 (8 : Int32) M _ _ _ h (lv_sub hl [0, 1, 2, 3] rfl) hw
theorem d_JM_abs_JJ_0 : decode nb_JM_abs_JJ 0 = .ok (.lload_n 0, 1) := by decide +kernel
theorem d_JM_abs_JJ_1 : decode nb_JM_abs_JJ 1 = .ok (.lconst 0, 1) := by decide +kernel
theorem d_JM_abs_JJ_2 : decode nb_JM_abs_JJ 2 = .ok (.lcmp, 1) := by decide +kernel
theorem d_JM_abs_JJ_3 : decode nb_JM_abs_JJ 3 = .ok (.ifCond .ge 8, 3) := by decide +kernel
theorem d_JM_abs_JJ_6 : decode nb_JM_abs_JJ 6 = .ok (.lload_n 0, 1) := by decide +kernel
theorem d_JM_abs_JJ_7 : decode nb_JM_abs_JJ 7 = .ok (.lneg, 1) := by decide +kernel
theorem d_JM_abs_JJ_8 : decode nb_JM_abs_JJ 8 = .ok (.goto 4, 3) := by decide +kernel
theorem d_JM_abs_JJ_11 : decode nb_JM_abs_JJ 11 = .ok (.lload_n 0, 1) := by decide +kernel
theorem d_JM_abs_JJ_12 : decode nb_JM_abs_JJ 12 = .ok (.lreturn, 1) := by decide +kernel
abbrev rm_JM_abs_JJ : Room := ({ frames := 0, cells := 0, slots := 0, locals := 0 })
theorem w_JM_abs_JJ_12 {post : Int64 → nf_M → Prop} (hfl : l.flags = flags0) (K : nf_K p s m args meth c "java/lang/Math" nb_JM_abs_JJ 2 (some FieldType.long) D a sz) : ∀ (xy0 : Int64) (M : nf_M) (H : Heap) (locs : List Loc) (ls : Array Slot), B_JM_abs_JJ_12 post xy0 M → lv_has ls 2 [] → nf_W D a s sz H locs M → W p l e rm_JM_abs_JJ s m args below meth c H locs 0 0 (nf_MQ below (nf_Q nf_jJ D a post ex (nf_A a sz)) args s rm_JM_abs_JJ.cells rm_JM_abs_JJ.slots (nf_A a sz)) (F0 m 12 ls [.long xy0]) := by
  have hx := K.1
  have hb := K.2.1
  intro xy0 M H locs ls h hl hw
  exact nf_lret K hw d_JM_abs_JJ_12 (Nat.le_of_ble_eq_true rfl) (Nat.le_of_ble_eq_true rfl) (r := xy0) rfl h
theorem c_JM_abs_JJ (l : Launch) (hfl : l.flags = flags0) (x0 : Int64) : nf_C nf_jJ l nm_JM_abs_JJ nb_JM_abs_JJ 2 (some FieldType.long) rm_JM_abs_JJ (fun a => [.long x0]) (fun M post ex => P_JM_abs_JJ x0 M post) := by
  refine nf_start (by decide +kernel) (fun a => Nat.le_of_ble_eq_true rfl) ?_
  intro D a sz M post ex p e s m below meth c ls h K hl hw
  have hx := K.1
  have hb := K.2.1
  have hl : lv_has ls 2 [(0, .long x0)] := hl
  refine lv_lload_n hx hb d_JM_abs_JJ_0 rfl (lv_at hl 0 rfl) ?_
  refine lv_lconst (v := (0 : Int64)) hx hb d_JM_abs_JJ_1 (by decide) ?_
  refine nf_lc_ge hx hb d_JM_abs_JJ_2 d_JM_abs_JJ_3 (tgt := 11) (by decide) (fun hc => ?_) (fun hc => ?_)
  · have h := h.1 hc
    refine lv_lload_n hx hb d_JM_abs_JJ_6 rfl (lv_at hl 0 rfl) ?_
    refine lv_lneg hx hb d_JM_abs_JJ_7 ?_
    refine lv_goto hx hb d_JM_abs_JJ_8 (tgt := 12) (by decide) ?_
    exact w_JM_abs_JJ_12 hfl K (-x0) M _ _ _ h (lv_sub hl [] rfl) hw
  · have h := h.2 hc
    refine lv_lload_n hx hb d_JM_abs_JJ_11 rfl (lv_at hl 0 rfl) ?_
    exact w_JM_abs_JJ_12 hfl K x0 M _ _ _ h (lv_sub hl [] rfl) hw
theorem d_F_over_0 : decode nb_F_over 0 = .ok (.lload_n 2, 1) := by decide +kernel
theorem d_F_over_1 : decode nb_F_over 1 = .ok (.lconst 0, 1) := by decide +kernel
theorem d_F_over_2 : decode nb_F_over 2 = .ok (.lcmp, 1) := by decide +kernel
theorem d_F_over_3 : decode nb_F_over 3 = .ok (.ifCond .ne 7, 3) := by decide +kernel
theorem d_F_over_6 : decode nb_F_over 6 = .ok (.lconst 0, 1) := by decide +kernel
theorem d_F_over_7 : decode nb_F_over 7 = .ok (.goto 6, 3) := by decide +kernel
theorem d_F_over_10 : decode nb_F_over 10 = .ok (.lload_n 0, 1) := by decide +kernel
theorem d_F_over_11 : decode nb_F_over 11 = .ok (.lload_n 2, 1) := by decide +kernel
theorem d_F_over_12 : decode nb_F_over 12 = .ok (.ldiv, 1) := by decide +kernel
theorem d_F_over_13 : decode nb_F_over 13 = .ok (.lreturn, 1) := by decide +kernel
abbrev rm_F_over : Room := ({ frames := 0, cells := 0, slots := 0, locals := 0 })
theorem w_F_over_13 {post : Int64 → nf_M → Prop} (hfl : l.flags = flags0) (K : nf_K p s m args meth c "NumberForge" nb_F_over 4 (some FieldType.long) D a sz) : ∀ (xy0 : Int64) (M : nf_M) (H : Heap) (locs : List Loc) (ls : Array Slot), B_F_over_13 post xy0 M → lv_has ls 4 [] → nf_W D a s sz H locs M → W p l e rm_F_over s m args below meth c H locs 0 0 (nf_MQ below (nf_Q nf_jJ D a post ex (nf_A a sz)) args s rm_F_over.cells rm_F_over.slots (nf_A a sz)) (F0 m 13 ls [.long xy0]) := by
  have hx := K.1
  have hb := K.2.1
  intro xy0 M H locs ls h hl hw
  exact nf_lret K hw d_F_over_13 (Nat.le_of_ble_eq_true rfl) (Nat.le_of_ble_eq_true rfl) (r := xy0) rfl h
theorem c_F_over (l : Launch) (hfl : l.flags = flags0) (x0 : Int64) (x2 : Int64) : nf_C nf_jJ l nm_F_over nb_F_over 4 (some FieldType.long) rm_F_over (fun a => [.long x0, .long x2]) (fun M post ex => P_F_over x0 x2 M post) := by
  refine nf_start (plainFor_of_name (by decide +kernel)) (fun a => Nat.le_of_ble_eq_true rfl) ?_
  intro D a sz M post ex p e s m below meth c ls h K hl hw
  have hx := K.1
  have hb := K.2.1
  have hl : lv_has ls 4 [(0, .long x0), (2, .long x2)] := hl
  refine lv_lload_n hx hb d_F_over_0 rfl (lv_at hl 1 rfl) ?_
  refine lv_lconst (v := (0 : Int64)) hx hb d_F_over_1 (by decide) ?_
  refine nf_lc_ne hx hb d_F_over_2 d_F_over_3 (tgt := 10) (by decide) (fun hc => ?_) (fun hc => ?_)
  · have h := h.1 hc
    refine lv_lconst (v := (0 : Int64)) hx hb d_F_over_6 (by decide) ?_
    refine lv_goto hx hb d_F_over_7 (tgt := 13) (by decide) ?_
    exact w_F_over_13 hfl K (0 : Int64) M _ _ _ h (lv_sub hl [] rfl) hw
  · have h := h.2 hc
    refine lv_lload_n hx hb d_F_over_10 rfl (lv_at hl 0 rfl) ?_
    refine lv_lload_n hx hb d_F_over_11 rfl (lv_at hl 1 rfl) ?_
    obtain ⟨g1, h⟩ := h
    refine lv_ldiv hx hb d_F_over_12 g1 ?_
    exact w_F_over_13 hfl K (x0 / x2) M _ _ _ h (lv_sub hl [] rfl) hw
theorem d_F_atScale_0 : decode nb_F_atScale 0 = .ok (.iload_n 3, 1) := by decide +kernel
theorem d_F_atScale_1 : decode nb_F_atScale 1 = .ok (.iload_n 2, 1) := by decide +kernel
theorem d_F_atScale_2 : decode nb_F_atScale 2 = .ok (.isub, 1) := by decide +kernel
theorem d_F_atScale_3 : decode nb_F_atScale 3 = .ok (.invokestatic 275, 3) := by decide +kernel
theorem d_F_atScale_6 : decode nb_F_atScale 6 = .ok (.lstore 4, 2) := by decide +kernel
theorem d_F_atScale_8 : decode nb_F_atScale 8 = .ok (.lload_n 0, 1) := by decide +kernel
theorem d_F_atScale_9 : decode nb_F_atScale 9 = .ok (.invokestatic 193, 3) := by decide +kernel
theorem d_F_atScale_12 : decode nb_F_atScale 12 = .ok (.ldc2_w 376, 3) := by decide +kernel
theorem d_F_atScale_15 : decode nb_F_atScale 15 = .ok (.lload 4, 2) := by decide +kernel
theorem d_F_atScale_17 : decode nb_F_atScale 17 = .ok (.invokestatic 260, 3) := by decide +kernel
theorem d_F_atScale_20 : decode nb_F_atScale 20 = .ok (.lcmp, 1) := by decide +kernel
theorem d_F_atScale_21 : decode nb_F_atScale 21 = .ok (.ifCond .le 14, 3) := by decide +kernel
theorem d_F_atScale_24 : decode nb_F_atScale 24 = .ok (.new 338, 3) := by decide +kernel
theorem d_F_atScale_27 : decode nb_F_atScale 27 = .ok (.dup, 1) := by decide +kernel
theorem d_F_atScale_28 : decode nb_F_atScale 28 = .ok (.ldc_w 340, 3) := by decide +kernel
theorem d_F_atScale_31 : decode nb_F_atScale 31 = .ok (.invokespecial 342, 3) := by decide +kernel
theorem d_F_atScale_34 : decode nb_F_atScale 34 = .ok (.athrow, 1) := by decide +kernel
theorem d_F_atScale_35 : decode nb_F_atScale 35 = .ok (.lload_n 0, 1) := by decide +kernel
theorem d_F_atScale_36 : decode nb_F_atScale 36 = .ok (.lload 4, 2) := by decide +kernel
theorem d_F_atScale_38 : decode nb_F_atScale 38 = .ok (.lmul, 1) := by decide +kernel
theorem d_F_atScale_39 : decode nb_F_atScale 39 = .ok (.lreturn, 1) := by decide +kernel
abbrev rm_F_atScale : Room := ({ frames := 6, cells := 1, slots := 6, locals := 100 })
theorem c_F_atScale (l : Launch) (hfl : l.flags = flags0) (x0 : Int64) (x2 : Int32) (x3 : Int32) : nf_C nf_jJ l nm_F_atScale nb_F_atScale 6 (some FieldType.long) rm_F_atScale (fun a => [.long x0, .int x2, .int x3]) (fun M post ex => P_F_atScale x0 x2 x3 M post ex) := by
  refine nf_start (plainFor_of_name (by decide +kernel)) (fun a => Nat.le_of_ble_eq_true rfl) ?_
  intro D a sz M post ex p e s m below meth c ls h K hl hw
  have hx := K.1
  have hb := K.2.1
  have hl : lv_has ls 6 [(0, .long x0), (2, .int x2), (3, .int x3)] := hl
  refine lv_iload_n hx hb d_F_atScale_0 rfl (lv_at hl 2 rfl) ?_
  refine lv_iload_n hx hb d_F_atScale_1 rfl (lv_at hl 1 rfl) ?_
  refine lv_isub hx hb d_F_atScale_2 ?_
  refine nf_callW (ex := (fun _ _ => False)) (As := [.int (x3 - x2)]) (st0 := [.int (x3 - x2)]) (rest := []) K hw (nf_invS hx hb K.2.2.2.1 (nf_Kg K nw_548) (nf_Kg K nw_352) (nf_Kg K nw_1) (nf_Kg K nw_353) ⟨by decide, by decide⟩ rfl nl_F_power rfl d_F_atScale_3) (c_F_power l hfl (x3 - x2)) nw_353 nw_1 rfl ⟨by decide, by decide⟩ (Nat.le_of_ble_eq_true rfl) hl.1 ⟨Nat.le_of_ble_eq_true rfl, Nat.le_of_ble_eq_true rfl⟩ h (fun _ _ h => h.elim) (fun r1 M2 H locs h hw => ?_)
  refine W.eq (g2 := F0 m 6 ls [.long r1]) rfl ?_
  refine lv_lstore (lv' := [(4, .long r1), (0, .long x0), (2, .int x2), (3, .int x3)]) hx hb d_F_atScale_6 hl (by decide) rfl (fun ls hl => ?_)
  refine lv_lload_n hx hb d_F_atScale_8 rfl (lv_at hl 1 rfl) ?_
  refine nf_callW (ex := (fun _ _ => False)) (As := [.long x0]) (st0 := [.long x0]) (rest := []) K hw (nf_invS hx hb K.2.2.2.1 (nf_Kg K nw_549) (nf_Kg K nw_550) (nf_Kg K nw_4) (nf_Kg K nw_551) ⟨by decide, by decide⟩ rfl nl_JM_abs_JJ rfl d_F_atScale_9) (c_JM_abs_JJ l hfl x0) nw_551 nw_4 rfl ⟨by decide, by decide⟩ (Nat.le_of_ble_eq_true rfl) hl.1 ⟨Nat.le_of_ble_eq_true rfl, Nat.le_of_ble_eq_true rfl⟩ h (fun _ _ h => h.elim) (fun r3 M4 H locs h hw => ?_)
  refine W.eq (g2 := F0 m 12 ls [.long r3]) rfl ?_
  refine lv_ldc2 (v := (2000000000000000 : Int64)) hx hb K.2.2.2.1 (nf_Kg K nw_552) d_F_atScale_12 ?_
  refine lv_lload hx hb d_F_atScale_15 (lv_at hl 0 rfl) ?_
  refine nf_callW (ex := (fun _ _ => False)) (As := [.long (2000000000000000 : Int64), .long r1]) (st0 := [.long r1, .long (2000000000000000 : Int64), .long r3]) (rest := [.long r3]) K hw (nf_invS hx hb K.2.2.2.1 (nf_Kg K nw_553) (nf_Kg K nw_554) (nf_Kg K nw_1) (nf_Kg K nw_555) ⟨by decide, by decide⟩ rfl nl_F_over rfl d_F_atScale_17) (c_F_over l hfl (2000000000000000 : Int64) r1) nw_555 nw_1 rfl ⟨by decide, by decide⟩ (Nat.le_of_ble_eq_true rfl) hl.1 ⟨Nat.le_of_ble_eq_true rfl, Nat.le_of_ble_eq_true rfl⟩ h (fun _ _ h => h.elim) (fun r5 M6 H locs h hw => ?_)
  refine W.eq (g2 := F0 m 20 ls [.long r5, .long r3]) rfl ?_
  refine nf_lc_le hx hb d_F_atScale_20 d_F_atScale_21 (tgt := 35) (by decide) (fun hc => ?_) (fun hc => ?_)
  · have h := h.1 hc
    exact nf_throwW (i := 13) 4 hfl K hw rfl (by decide) na_F_342 nw_522 nw_382 nw_15 rfl d_F_atScale_24 d_F_atScale_27 d_F_atScale_28 d_F_atScale_31 d_F_atScale_34 hl.1 ⟨by decide, by decide⟩ ⟨Nat.le_of_ble_eq_true rfl, Nat.le_of_ble_eq_true rfl⟩ h
  · have h := h.2 hc
    refine lv_lload_n hx hb d_F_atScale_35 rfl (lv_at hl 1 rfl) ?_
    refine lv_lload hx hb d_F_atScale_36 (lv_at hl 0 rfl) ?_
    refine lv_lmul hx hb d_F_atScale_38 ?_
    exact nf_lret K hw d_F_atScale_39 (Nat.le_of_ble_eq_true rfl) (Nat.le_of_ble_eq_true rfl) (r := x0 * r1) rfl h
theorem d_W_become_0 : decode nb_W_become 0 = .ok (.aload_n 0, 1) := by decide +kernel
theorem d_W_become_1 : decode nb_W_become 1 = .ok (.lload_n 1, 1) := by decide +kernel
theorem d_W_become_2 : decode nb_W_become 2 = .ok (.ldc2_w 9, 3) := by decide +kernel
theorem d_W_become_5 : decode nb_W_become 5 = .ok (.ldiv, 1) := by decide +kernel
theorem d_W_become_6 : decode nb_W_become 6 = .ok (.putfield 11, 3) := by decide +kernel
theorem d_W_become_9 : decode nb_W_become 9 = .ok (.aload_n 0, 1) := by decide +kernel
theorem d_W_become_10 : decode nb_W_become 10 = .ok (.lload_n 1, 1) := by decide +kernel
theorem d_W_become_11 : decode nb_W_become 11 = .ok (.ldc2_w 9, 3) := by decide +kernel
theorem d_W_become_14 : decode nb_W_become 14 = .ok (.lrem, 1) := by decide +kernel
theorem d_W_become_15 : decode nb_W_become 15 = .ok (.putfield 17, 3) := by decide +kernel
theorem d_W_become_18 : decode nb_W_become 18 = .ok (.return_, 1) := by decide +kernel
abbrev rm_W_become : Room := ({ frames := 0, cells := 0, slots := 0, locals := 0 })
theorem c_W_become (l : Launch) (hfl : l.flags = flags0) (x1 : Int64) : nf_C nf_jN l nm_W_become nb_W_become 3 none rm_W_become (fun a => [.ref (a 9), .long x1]) (fun M post ex => P_W_become x1 M post) := by
  refine nf_start (plainFor_of_name (by decide +kernel)) (fun a => Nat.le_of_ble_eq_true rfl) ?_
  intro D a sz M post ex p e s m below meth c ls h K hl hw
  have hx := K.1
  have hb := K.2.1
  have hl : lv_has ls 3 [(0, .ref (a 9)), (1, .long x1)] := hl
  refine lv_aload_n hx hb d_W_become_0 rfl (lv_at hl 0 rfl) ?_
  refine lv_lload_n hx hb d_W_become_1 rfl (lv_at hl 1 rfl) ?_
  refine lv_ldc2 (v := (1000000000000000 : Int64)) hx hb K.2.2.2.1 (nf_Kg K nw_560) d_W_become_2 ?_
  refine lv_ldiv hx hb d_W_become_5 (by decide) ?_
  refine lv_topl (fun t1 et1 => ?_)
  have h := h t1 et1
  refine nf_put (M' := ms_L M 9 0 t1) K hw 9 5 0 nw_160 rfl rfl rfl ni_W ny_W nq_W nn_W (by decide) rfl rfl rfl rfl (Nat.le_of_ble_eq_true rfl) d_W_become_6 (fun H locs hw => ?_)
  obtain ⟨M2, eM2⟩ : ∃ z, z = ms_L M 9 0 t1 := ⟨_, rfl⟩
  rw [← eM2] at hw
  have h := h M2 eM2
  refine lv_aload_n hx hb d_W_become_9 rfl (lv_at hl 0 rfl) ?_
  refine lv_lload_n hx hb d_W_become_10 rfl (lv_at hl 1 rfl) ?_
  refine lv_ldc2 (v := (1000000000000000 : Int64)) hx hb K.2.2.2.1 (nf_Kg K nw_560) d_W_become_11 ?_
  refine lv_lrem hx hb d_W_become_14 (by decide) ?_
  refine lv_topl (fun t3 et3 => ?_)
  have h := h t3 et3
  refine nf_put (M' := ms_L M2 9 1 t3) K hw 9 5 1 nw_161 rfl rfl rfl ni_W ny_W nq_W nn_W (by decide) rfl rfl rfl rfl (Nat.le_of_ble_eq_true rfl) d_W_become_15 (fun H locs hw => ?_)
  obtain ⟨M4, eM4⟩ : ∃ z, z = ms_L M2 9 1 t3 := ⟨_, rfl⟩
  rw [← eM4] at hw
  have h := h M4 eM4
  exact nf_vret K hw d_W_become_18 (Nat.le_of_ble_eq_true rfl) (Nat.le_of_ble_eq_true rfl) (r := ()) rfl h
theorem d_W_dropDigit_0 : decode nb_W_dropDigit 0 = .ok (.aload_n 0, 1) := by decide +kernel
theorem d_W_dropDigit_1 : decode nb_W_dropDigit 1 = .ok (.aload_n 0, 1) := by decide +kernel
theorem d_W_dropDigit_2 : decode nb_W_dropDigit 2 = .ok (.getfield 17, 3) := by decide +kernel
theorem d_W_dropDigit_5 : decode nb_W_dropDigit 5 = .ok (.ldc2_w 24, 3) := by decide +kernel
theorem d_W_dropDigit_8 : decode nb_W_dropDigit 8 = .ok (.ldiv, 1) := by decide +kernel
theorem d_W_dropDigit_9 : decode nb_W_dropDigit 9 = .ok (.aload_n 0, 1) := by decide +kernel
theorem d_W_dropDigit_10 : decode nb_W_dropDigit 10 = .ok (.getfield 11, 3) := by decide +kernel
theorem d_W_dropDigit_13 : decode nb_W_dropDigit 13 = .ok (.ldc2_w 24, 3) := by decide +kernel
theorem d_W_dropDigit_16 : decode nb_W_dropDigit 16 = .ok (.lrem, 1) := by decide +kernel
theorem d_W_dropDigit_17 : decode nb_W_dropDigit 17 = .ok (.ldc2_w 40, 3) := by decide +kernel
theorem d_W_dropDigit_20 : decode nb_W_dropDigit 20 = .ok (.lmul, 1) := by decide +kernel
theorem d_W_dropDigit_21 : decode nb_W_dropDigit 21 = .ok (.ladd, 1) := by decide +kernel
theorem d_W_dropDigit_22 : decode nb_W_dropDigit 22 = .ok (.putfield 17, 3) := by decide +kernel
theorem d_W_dropDigit_25 : decode nb_W_dropDigit 25 = .ok (.aload_n 0, 1) := by decide +kernel
theorem d_W_dropDigit_26 : decode nb_W_dropDigit 26 = .ok (.aload_n 0, 1) := by decide +kernel
theorem d_W_dropDigit_27 : decode nb_W_dropDigit 27 = .ok (.getfield 11, 3) := by decide +kernel
theorem d_W_dropDigit_30 : decode nb_W_dropDigit 30 = .ok (.ldc2_w 24, 3) := by decide +kernel
theorem d_W_dropDigit_33 : decode nb_W_dropDigit 33 = .ok (.ldiv, 1) := by decide +kernel
theorem d_W_dropDigit_34 : decode nb_W_dropDigit 34 = .ok (.putfield 11, 3) := by decide +kernel
theorem d_W_dropDigit_37 : decode nb_W_dropDigit 37 = .ok (.return_, 1) := by decide +kernel
abbrev rm_W_dropDigit : Room := ({ frames := 0, cells := 0, slots := 0, locals := 0 })
theorem c_W_dropDigit (l : Launch) (hfl : l.flags = flags0) : nf_C nf_jN l nm_W_dropDigit nb_W_dropDigit 1 none rm_W_dropDigit (fun a => [.ref (a 9)]) (fun M post ex => P_W_dropDigit  M post) := by
  refine nf_start (plainFor_of_name (by decide +kernel)) (fun a => Nat.le_of_ble_eq_true rfl) ?_
  intro D a sz M post ex p e s m below meth c ls h K hl hw
  have hx := K.1
  have hb := K.2.1
  have hl : lv_has ls 1 [(0, .ref (a 9))] := hl
  refine lv_aload_n hx hb d_W_dropDigit_0 rfl (lv_at hl 0 rfl) ?_
  refine lv_aload_n hx hb d_W_dropDigit_1 rfl (lv_at hl 0 rfl) ?_
  refine nf_get (v := .long (mg_L M 9 1)) K hw 9 5 1 nw_161 rfl rfl ni_W (by decide) rfl rfl d_W_dropDigit_2 ?_
  refine lv_ldc2 (v := (10 : Int64)) hx hb K.2.2.2.1 (nf_Kg K nw_569) d_W_dropDigit_5 ?_
  refine lv_ldiv hx hb d_W_dropDigit_8 (by decide) ?_
  refine lv_aload_n hx hb d_W_dropDigit_9 rfl (lv_at hl 0 rfl) ?_
  refine nf_get (v := .long (mg_L M 9 0)) K hw 9 5 0 nw_160 rfl rfl ni_W (by decide) rfl rfl d_W_dropDigit_10 ?_
  refine lv_ldc2 (v := (10 : Int64)) hx hb K.2.2.2.1 (nf_Kg K nw_569) d_W_dropDigit_13 ?_
  refine lv_lrem hx hb d_W_dropDigit_16 (by decide) ?_
  refine lv_ldc2 (v := (100000000000000 : Int64)) hx hb K.2.2.2.1 (nf_Kg K nw_574) d_W_dropDigit_17 ?_
  refine lv_lmul hx hb d_W_dropDigit_20 ?_
  refine lv_ladd hx hb d_W_dropDigit_21 ?_
  refine lv_topl (fun t1 et1 => ?_)
  have h := h t1 et1
  refine nf_put (M' := ms_L M 9 1 t1) K hw 9 5 1 nw_161 rfl rfl rfl ni_W ny_W nq_W nn_W (by decide) rfl rfl rfl rfl (Nat.le_of_ble_eq_true rfl) d_W_dropDigit_22 (fun H locs hw => ?_)
  obtain ⟨M2, eM2⟩ : ∃ z, z = ms_L M 9 1 t1 := ⟨_, rfl⟩
  rw [← eM2] at hw
  have h := h M2 eM2
  refine lv_aload_n hx hb d_W_dropDigit_25 rfl (lv_at hl 0 rfl) ?_
  refine lv_aload_n hx hb d_W_dropDigit_26 rfl (lv_at hl 0 rfl) ?_
  refine nf_get (v := .long (mg_L M2 9 0)) K hw 9 5 0 nw_160 rfl rfl ni_W (by decide) rfl rfl d_W_dropDigit_27 ?_
  refine lv_ldc2 (v := (10 : Int64)) hx hb K.2.2.2.1 (nf_Kg K nw_569) d_W_dropDigit_30 ?_
  refine lv_ldiv hx hb d_W_dropDigit_33 (by decide) ?_
  refine lv_topl (fun t3 et3 => ?_)
  have h := h t3 et3
  refine nf_put (M' := ms_L M2 9 0 t3) K hw 9 5 0 nw_160 rfl rfl rfl ni_W ny_W nq_W nn_W (by decide) rfl rfl rfl rfl (Nat.le_of_ble_eq_true rfl) d_W_dropDigit_34 (fun H locs hw => ?_)
  obtain ⟨M4, eM4⟩ : ∃ z, z = ms_L M2 9 0 t3 := ⟨_, rfl⟩
  rw [← eM4] at hw
  have h := h M4 eM4
  exact nf_vret K hw d_W_dropDigit_37 (Nat.le_of_ble_eq_true rfl) (Nat.le_of_ble_eq_true rfl) (r := ()) rfl h
theorem d_W_dropZeros_0 : decode nb_W_dropZeros 0 = .ok (.iload_n 1, 1) := by decide +kernel
theorem d_W_dropZeros_1 : decode nb_W_dropZeros 1 = .ok (.istore_n 2, 1) := by decide +kernel
theorem d_W_dropZeros_2 : decode nb_W_dropZeros 2 = .ok (.iload_n 2, 1) := by decide +kernel
theorem d_W_dropZeros_3 : decode nb_W_dropZeros 3 = .ok (.ifCond .le 26, 3) := by decide +kernel
theorem d_W_dropZeros_6 : decode nb_W_dropZeros 6 = .ok (.aload_n 0, 1) := by decide +kernel
theorem d_W_dropZeros_7 : decode nb_W_dropZeros 7 = .ok (.getfield 17, 3) := by decide +kernel
theorem d_W_dropZeros_10 : decode nb_W_dropZeros 10 = .ok (.ldc2_w 24, 3) := by decide +kernel
theorem d_W_dropZeros_13 : decode nb_W_dropZeros 13 = .ok (.lrem, 1) := by decide +kernel
theorem d_W_dropZeros_14 : decode nb_W_dropZeros 14 = .ok (.lconst 0, 1) := by decide +kernel
theorem d_W_dropZeros_15 : decode nb_W_dropZeros 15 = .ok (.lcmp, 1) := by decide +kernel
theorem d_W_dropZeros_16 : decode nb_W_dropZeros 16 = .ok (.ifCond .ne 13, 3) := by decide +kernel
theorem d_W_dropZeros_19 : decode nb_W_dropZeros 19 = .ok (.aload_n 0, 1) := by decide +kernel
theorem d_W_dropZeros_20 : decode nb_W_dropZeros 20 = .ok (.invokevirtual 46, 3) := by decide +kernel
theorem d_W_dropZeros_23 : decode nb_W_dropZeros 23 = .ok (.iinc 2 (-1), 3) := by decide +kernel
theorem d_W_dropZeros_26 : decode nb_W_dropZeros 26 = .ok (.goto (-24), 3) := by decide +kernel
theorem d_W_dropZeros_29 : decode nb_W_dropZeros 29 = .ok (.iload_n 2, 1) := by decide +kernel
theorem d_W_dropZeros_30 : decode nb_W_dropZeros 30 = .ok (.ireturn, 1) := by decide +kernel
abbrev rm_W_dropZeros : Room := ({ frames := 1, cells := 0, slots := 0, locals := 20 })
theorem w_W_dropZeros_29 {post : Int32 → nf_M → Prop} (hfl : l.flags = flags0) (K : nf_K p s m args meth c "NumberForge$Wide" nb_W_dropZeros 3 (some FieldType.int) D a sz) : ∀ (x2 : Int32) (M : nf_M) (H : Heap) (locs : List Loc) (ls : Array Slot), B_W_dropZeros_29 post x2 M → lv_has ls 3 [(2, .int x2)] → nf_W D a s sz H locs M → W p l e rm_W_dropZeros s m args below meth c H locs 0 0 (nf_MQ below (nf_Q nf_jI D a post ex (nf_A a sz)) args s rm_W_dropZeros.cells rm_W_dropZeros.slots (nf_A a sz)) (F0 m 29 ls []) := by
  have hx := K.1
  have hb := K.2.1
  intro x2 M H locs ls h hl hw
  refine lv_iload_n hx hb d_W_dropZeros_29 rfl (lv_at hl 0 rfl) ?_
  exact nf_iret K hw d_W_dropZeros_30 rfl (Nat.le_of_ble_eq_true rfl) (Nat.le_of_ble_eq_true rfl) (r := x2) rfl h
theorem w_W_dropZeros_2 {post : Int32 → nf_M → Prop} (hfl : l.flags = flags0) (K : nf_K p s m args meth c "NumberForge$Wide" nb_W_dropZeros 3 (some FieldType.int) D a sz) : ∀ (n : Nat) (x2 : Int32) (M : nf_M) (H : Heap) (locs : List Loc) (ls : Array Slot), B_W_dropZeros_2 post n x2 M → lv_has ls 3 [(0, .ref (a 9)), (2, .int x2)] → nf_W D a s sz H locs M → W p l e rm_W_dropZeros s m args below meth c H locs 0 0 (nf_MQ below (nf_Q nf_jI D a post ex (nf_A a sz)) args s rm_W_dropZeros.cells rm_W_dropZeros.slots (nf_A a sz)) (F0 m 2 ls []) := by
  have hx := K.1
  have hb := K.2.1
  intro n
  induction n with
  | zero => intro x2 M H locs ls h hl hw; exact h.elim
  | succ n ih =>
    intro x2 M H locs ls h hl hw
    refine lv_iload_n hx hb d_W_dropZeros_2 rfl (lv_at hl 1 rfl) ?_
    refine nf_if_le hx hb d_W_dropZeros_3 (tgt := 29) (by decide) (fun hc => ?_) (fun hc => ?_)
    · have h := h.1 hc
      refine lv_aload_n hx hb d_W_dropZeros_6 rfl (lv_at hl 0 rfl) ?_
      refine nf_get (v := .long (mg_L M 9 1)) K hw 9 5 1 nw_161 rfl rfl ni_W (by decide) rfl rfl d_W_dropZeros_7 ?_
      refine lv_ldc2 (v := (10 : Int64)) hx hb K.2.2.2.1 (nf_Kg K nw_569) d_W_dropZeros_10 ?_
      refine lv_lrem hx hb d_W_dropZeros_13 (by decide) ?_
      refine lv_lconst (v := (0 : Int64)) hx hb d_W_dropZeros_14 (by decide) ?_
      refine nf_lc_ne hx hb d_W_dropZeros_15 d_W_dropZeros_16 (tgt := 29) (by decide) (fun hc => ?_) (fun hc => ?_)
      · have h := h.1 hc
        refine lv_aload_n hx hb d_W_dropZeros_19 rfl (lv_at hl 0 rfl) ?_
        refine nf_callW (ex := (fun _ _ => False)) (As := [.ref (a 9)]) (st0 := [.ref (a 9)]) (rest := []) K hw (nf_invV hx hb K.2.2.2.1 (nf_Kg K nw_570) (nf_Kg K nw_572) (nf_Kg K nx_W_dropDigit) (nf_Kg K nw_573) ⟨by decide, by decide⟩ (nf_rcv K hw 9 5 rfl rfl) rfl nl_W_dropDigit rfl d_W_dropZeros_20) (c_W_dropDigit l hfl ) nw_573 nw_8 rfl ⟨by decide, by decide⟩ (Nat.le_of_ble_eq_true rfl) hl.1 ⟨Nat.le_of_ble_eq_true rfl, Nat.le_of_ble_eq_true rfl⟩ h (fun _ _ h => h.elim) (fun r1 M2 H locs h hw => ?_)
        refine W.eq (g2 := F0 m 23 ls []) rfl ?_
        refine lv_iinc (k := 1) (v := x2 + (-1 : Int32)) (lv' := [(2, .int (x2 + (-1 : Int32))), (0, .ref (a 9))]) hx hb d_W_dropZeros_23 hl rfl (nf_inc (by decide)) (by decide) rfl (fun ls hl => ?_)
        refine lv_goto hx hb d_W_dropZeros_26 (tgt := 2) (by decide) ?_
        exact ih (x2 + (-1 : Int32)) M2 _ _ _ h (lv_sub hl [1, 0] rfl) hw
      · have h := h.2 hc
        exact w_W_dropZeros_29 hfl K x2 M _ _ _ h (lv_sub hl [1] rfl) hw
    · have h := h.2 hc
      exact w_W_dropZeros_29 hfl K x2 M _ _ _ h (lv_sub hl [1] rfl) hw
theorem c_W_dropZeros (l : Launch) (hfl : l.flags = flags0) (x1 : Int32) : nf_C nf_jI l nm_W_dropZeros nb_W_dropZeros 3 (some FieldType.int) rm_W_dropZeros (fun a => [.ref (a 9), .int x1]) (fun M post ex => P_W_dropZeros x1 M post) := by
  refine nf_start (plainFor_of_name (by decide +kernel)) (fun a => Nat.le_of_ble_eq_true rfl) ?_
  intro D a sz M post ex p e s m below meth c ls h K hl hw
  have hx := K.1
  have hb := K.2.1
  have hl : lv_has ls 3 [(0, .ref (a 9)), (1, .int x1)] := hl
  refine lv_iload_n hx hb d_W_dropZeros_0 rfl (lv_at hl 1 rfl) ?_
  refine lv_istore_n (lv' := [(2, .int x1), (0, .ref (a 9)), (1, .int x1)]) hx hb d_W_dropZeros_1 rfl hl (by decide) rfl (fun ls hl => ?_)
  obtain ⟨n, h⟩ := h
  exact w_W_dropZeros_2 hfl K n x1 M _ _ _ h (lv_sub hl [1, 0] rfl) hw
theorem d_F_left_0 : decode nb_F_left 0 = .ok (.lload_n 2, 1) := by decide +kernel
theorem d_F_left_1 : decode nb_F_left 1 = .ok (.lconst 0, 1) := by decide +kernel
theorem d_F_left_2 : decode nb_F_left 2 = .ok (.lcmp, 1) := by decide +kernel
theorem d_F_left_3 : decode nb_F_left 3 = .ok (.ifCond .ne 7, 3) := by decide +kernel
theorem d_F_left_6 : decode nb_F_left 6 = .ok (.lconst 0, 1) := by decide +kernel
theorem d_F_left_7 : decode nb_F_left 7 = .ok (.goto 6, 3) := by decide +kernel
theorem d_F_left_10 : decode nb_F_left 10 = .ok (.lload_n 0, 1) := by decide +kernel
theorem d_F_left_11 : decode nb_F_left 11 = .ok (.lload_n 2, 1) := by decide +kernel
theorem d_F_left_12 : decode nb_F_left 12 = .ok (.lrem, 1) := by decide +kernel
theorem d_F_left_13 : decode nb_F_left 13 = .ok (.lreturn, 1) := by decide +kernel
abbrev rm_F_left : Room := ({ frames := 0, cells := 0, slots := 0, locals := 0 })
theorem w_F_left_13 {post : Int64 → nf_M → Prop} (hfl : l.flags = flags0) (K : nf_K p s m args meth c "NumberForge" nb_F_left 4 (some FieldType.long) D a sz) : ∀ (xy0 : Int64) (M : nf_M) (H : Heap) (locs : List Loc) (ls : Array Slot), B_F_left_13 post xy0 M → lv_has ls 4 [] → nf_W D a s sz H locs M → W p l e rm_F_left s m args below meth c H locs 0 0 (nf_MQ below (nf_Q nf_jJ D a post ex (nf_A a sz)) args s rm_F_left.cells rm_F_left.slots (nf_A a sz)) (F0 m 13 ls [.long xy0]) := by
  have hx := K.1
  have hb := K.2.1
  intro xy0 M H locs ls h hl hw
  exact nf_lret K hw d_F_left_13 (Nat.le_of_ble_eq_true rfl) (Nat.le_of_ble_eq_true rfl) (r := xy0) rfl h
theorem c_F_left (l : Launch) (hfl : l.flags = flags0) (x0 : Int64) (x2 : Int64) : nf_C nf_jJ l nm_F_left nb_F_left 4 (some FieldType.long) rm_F_left (fun a => [.long x0, .long x2]) (fun M post ex => P_F_left x0 x2 M post) := by
  refine nf_start (plainFor_of_name (by decide +kernel)) (fun a => Nat.le_of_ble_eq_true rfl) ?_
  intro D a sz M post ex p e s m below meth c ls h K hl hw
  have hx := K.1
  have hb := K.2.1
  have hl : lv_has ls 4 [(0, .long x0), (2, .long x2)] := hl
  refine lv_lload_n hx hb d_F_left_0 rfl (lv_at hl 1 rfl) ?_
  refine lv_lconst (v := (0 : Int64)) hx hb d_F_left_1 (by decide) ?_
  refine nf_lc_ne hx hb d_F_left_2 d_F_left_3 (tgt := 10) (by decide) (fun hc => ?_) (fun hc => ?_)
  · have h := h.1 hc
    refine lv_lconst (v := (0 : Int64)) hx hb d_F_left_6 (by decide) ?_
    refine lv_goto hx hb d_F_left_7 (tgt := 13) (by decide) ?_
    exact w_F_left_13 hfl K (0 : Int64) M _ _ _ h (lv_sub hl [] rfl) hw
  · have h := h.2 hc
    refine lv_lload_n hx hb d_F_left_10 rfl (lv_at hl 0 rfl) ?_
    refine lv_lload_n hx hb d_F_left_11 rfl (lv_at hl 1 rfl) ?_
    obtain ⟨g1, h⟩ := h
    refine lv_lrem hx hb d_F_left_12 g1 ?_
    exact w_F_left_13 hfl K (x0 - x0 / x2 * x2) M _ _ _ h (lv_sub hl [] rfl) hw
theorem d_F_isRoundedUp_0 : decode nb_F_isRoundedUp 0 = .ok (.ldc2_w 271, 3) := by decide +kernel
theorem d_F_isRoundedUp_3 : decode nb_F_isRoundedUp 3 = .ok (.lload_n 2, 1) := by decide +kernel
theorem d_F_isRoundedUp_4 : decode nb_F_isRoundedUp 4 = .ok (.lmul, 1) := by decide +kernel
theorem d_F_isRoundedUp_5 : decode nb_F_isRoundedUp 5 = .ok (.lload 4, 2) := by decide +kernel
theorem d_F_isRoundedUp_7 : decode nb_F_isRoundedUp 7 = .ok (.lcmp, 1) := by decide +kernel
theorem d_F_isRoundedUp_8 : decode nb_F_isRoundedUp 8 = .ok (.ifCond .gt 24, 3) := by decide +kernel
theorem d_F_isRoundedUp_11 : decode nb_F_isRoundedUp 11 = .ok (.ldc2_w 271, 3) := by decide +kernel
theorem d_F_isRoundedUp_14 : decode nb_F_isRoundedUp 14 = .ok (.lload_n 2, 1) := by decide +kernel
theorem d_F_isRoundedUp_15 : decode nb_F_isRoundedUp 15 = .ok (.lmul, 1) := by decide +kernel
theorem d_F_isRoundedUp_16 : decode nb_F_isRoundedUp 16 = .ok (.lload 4, 2) := by decide +kernel
theorem d_F_isRoundedUp_18 : decode nb_F_isRoundedUp 18 = .ok (.lcmp, 1) := by decide +kernel
theorem d_F_isRoundedUp_19 : decode nb_F_isRoundedUp 19 = .ok (.ifCond .ne 17, 3) := by decide +kernel
theorem d_F_isRoundedUp_22 : decode nb_F_isRoundedUp 22 = .ok (.lload_n 0, 1) := by decide +kernel
theorem d_F_isRoundedUp_23 : decode nb_F_isRoundedUp 23 = .ok (.ldc2_w 271, 3) := by decide +kernel
theorem d_F_isRoundedUp_26 : decode nb_F_isRoundedUp 26 = .ok (.lrem, 1) := by decide +kernel
theorem d_F_isRoundedUp_27 : decode nb_F_isRoundedUp 27 = .ok (.lconst 0, 1) := by decide +kernel
theorem d_F_isRoundedUp_28 : decode nb_F_isRoundedUp 28 = .ok (.lcmp, 1) := by decide +kernel
theorem d_F_isRoundedUp_29 : decode nb_F_isRoundedUp 29 = .ok (.ifCond .eq 7, 3) := by decide +kernel
theorem d_F_isRoundedUp_32 : decode nb_F_isRoundedUp 32 = .ok (.iconst 1, 1) := by decide +kernel
theorem d_F_isRoundedUp_33 : decode nb_F_isRoundedUp 33 = .ok (.goto 4, 3) := by decide +kernel
theorem d_F_isRoundedUp_36 : decode nb_F_isRoundedUp 36 = .ok (.iconst 0, 1) := by decide +kernel
theorem d_F_isRoundedUp_37 : decode nb_F_isRoundedUp 37 = .ok (.ireturn, 1) := by decide +kernel
abbrev rm_F_isRoundedUp : Room := ({ frames := 0, cells := 0, slots := 0, locals := 0 })
theorem w_F_isRoundedUp_37 {post : Int32 → nf_M → Prop} (hfl : l.flags = flags0) (K : nf_K p s m args meth c "NumberForge" nb_F_isRoundedUp 6 (some FieldType.boolean) D a sz) : ∀ (xy0 : Int32) (M : nf_M) (H : Heap) (locs : List Loc) (ls : Array Slot), B_F_isRoundedUp_37 post xy0 M → lv_has ls 6 [] → nf_W D a s sz H locs M → W p l e rm_F_isRoundedUp s m args below meth c H locs 0 0 (nf_MQ below (nf_Q nf_jI D a post ex (nf_A a sz)) args s rm_F_isRoundedUp.cells rm_F_isRoundedUp.slots (nf_A a sz)) (F0 m 37 ls [.int xy0]) := by
  have hx := K.1
  have hb := K.2.1
  intro xy0 M H locs ls h hl hw
  obtain ⟨g1, h⟩ := h
  exact nf_iret K hw d_F_isRoundedUp_37 g1 (Nat.le_of_ble_eq_true rfl) (Nat.le_of_ble_eq_true rfl) (r := xy0) rfl h
theorem w_F_isRoundedUp_32 {post : Int32 → nf_M → Prop} (hfl : l.flags = flags0) (K : nf_K p s m args meth c "NumberForge" nb_F_isRoundedUp 6 (some FieldType.boolean) D a sz) : ∀ (M : nf_M) (H : Heap) (locs : List Loc) (ls : Array Slot), B_F_isRoundedUp_32 post  M → lv_has ls 6 [] → nf_W D a s sz H locs M → W p l e rm_F_isRoundedUp s m args below meth c H locs 0 0 (nf_MQ below (nf_Q nf_jI D a post ex (nf_A a sz)) args s rm_F_isRoundedUp.cells rm_F_isRoundedUp.slots (nf_A a sz)) (F0 m 32 ls []) := by
  have hx := K.1
  have hb := K.2.1
  intro  M H locs ls h hl hw
  refine lv_iconst (v := (1 : Int32)) hx hb d_F_isRoundedUp_32 (by decide) ?_
  refine lv_goto hx hb d_F_isRoundedUp_33 (tgt := 37) (by decide) ?_
  exact w_F_isRoundedUp_37 hfl K (1 : Int32) M _ _ _ h (lv_sub hl [] rfl) hw
theorem w_F_isRoundedUp_36 {post : Int32 → nf_M → Prop} (hfl : l.flags = flags0) (K : nf_K p s m args meth c "NumberForge" nb_F_isRoundedUp 6 (some FieldType.boolean) D a sz) : ∀ (M : nf_M) (H : Heap) (locs : List Loc) (ls : Array Slot), B_F_isRoundedUp_36 post  M → lv_has ls 6 [] → nf_W D a s sz H locs M → W p l e rm_F_isRoundedUp s m args below meth c H locs 0 0 (nf_MQ below (nf_Q nf_jI D a post ex (nf_A a sz)) args s rm_F_isRoundedUp.cells rm_F_isRoundedUp.slots (nf_A a sz)) (F0 m 36 ls []) := by
  have hx := K.1
  have hb := K.2.1
  intro  M H locs ls h hl hw
  refine lv_iconst (v := (0 : Int32)) hx hb d_F_isRoundedUp_36 (by decide) ?_
  exact w_F_isRoundedUp_37 hfl K (0 : Int32) M _ _ _ h (lv_sub hl [] rfl) hw
theorem c_F_isRoundedUp (l : Launch) (hfl : l.flags = flags0) (x0 : Int64) (x2 : Int64) (x4 : Int64) : nf_C nf_jI l nm_F_isRoundedUp nb_F_isRoundedUp 6 (some FieldType.boolean) rm_F_isRoundedUp (fun a => [.long x0, .long x2, .long x4]) (fun M post ex => P_F_isRoundedUp x0 x2 x4 M post) := by
  refine nf_start (plainFor_of_name (by decide +kernel)) (fun a => Nat.le_of_ble_eq_true rfl) ?_
  intro D a sz M post ex p e s m below meth c ls h K hl hw
  have hx := K.1
  have hb := K.2.1
  have hl : lv_has ls 6 [(0, .long x0), (2, .long x2), (4, .long x4)] := hl
  refine lv_ldc2 (v := (2 : Int64)) hx hb K.2.2.2.1 (nf_Kg K nw_586) d_F_isRoundedUp_0 ?_
  refine lv_lload_n hx hb d_F_isRoundedUp_3 rfl (lv_at hl 1 rfl) ?_
  refine lv_lmul hx hb d_F_isRoundedUp_4 ?_
  refine lv_lload hx hb d_F_isRoundedUp_5 (lv_at hl 2 rfl) ?_
  refine nf_lc_gt hx hb d_F_isRoundedUp_7 d_F_isRoundedUp_8 (tgt := 32) (by decide) (fun hc => ?_) (fun hc => ?_)
  · have h := h.1 hc
    exact w_F_isRoundedUp_32 hfl K  M _ _ _ h (lv_sub hl [] rfl) hw
  · have h := h.2 hc
    refine lv_ldc2 (v := (2 : Int64)) hx hb K.2.2.2.1 (nf_Kg K nw_586) d_F_isRoundedUp_11 ?_
    refine lv_lload_n hx hb d_F_isRoundedUp_14 rfl (lv_at hl 1 rfl) ?_
    refine lv_lmul hx hb d_F_isRoundedUp_15 ?_
    refine lv_lload hx hb d_F_isRoundedUp_16 (lv_at hl 2 rfl) ?_
    refine nf_lc_ne hx hb d_F_isRoundedUp_18 d_F_isRoundedUp_19 (tgt := 36) (by decide) (fun hc => ?_) (fun hc => ?_)
    · have h := h.1 hc
      refine lv_lload_n hx hb d_F_isRoundedUp_22 rfl (lv_at hl 0 rfl) ?_
      refine lv_ldc2 (v := (2 : Int64)) hx hb K.2.2.2.1 (nf_Kg K nw_586) d_F_isRoundedUp_23 ?_
      refine lv_lrem hx hb d_F_isRoundedUp_26 (by decide) ?_
      refine lv_lconst (v := (0 : Int64)) hx hb d_F_isRoundedUp_27 (by decide) ?_
      refine nf_lc_eq hx hb d_F_isRoundedUp_28 d_F_isRoundedUp_29 (tgt := 36) (by decide) (fun hc => ?_) (fun hc => ?_)
      · have h := h.1 hc
        exact w_F_isRoundedUp_36 hfl K  M _ _ _ h (lv_sub hl [] rfl) hw
      · have h := h.2 hc
        exact w_F_isRoundedUp_32 hfl K  M _ _ _ h (lv_sub hl [] rfl) hw
    · have h := h.2 hc
      exact w_F_isRoundedUp_36 hfl K  M _ _ _ h (lv_sub hl [] rfl) hw
theorem d_W_increase_0 : decode nb_W_increase 0 = .ok (.aload_n 0, 1) := by decide +kernel
theorem d_W_increase_1 : decode nb_W_increase 1 = .ok (.dup, 1) := by decide +kernel
theorem d_W_increase_2 : decode nb_W_increase 2 = .ok (.getfield 17, 3) := by decide +kernel
theorem d_W_increase_5 : decode nb_W_increase 5 = .ok (.lconst 1, 1) := by decide +kernel
theorem d_W_increase_6 : decode nb_W_increase 6 = .ok (.ladd, 1) := by decide +kernel
theorem d_W_increase_7 : decode nb_W_increase 7 = .ok (.putfield 17, 3) := by decide +kernel
theorem d_W_increase_10 : decode nb_W_increase 10 = .ok (.aload_n 0, 1) := by decide +kernel
theorem d_W_increase_11 : decode nb_W_increase 11 = .ok (.getfield 17, 3) := by decide +kernel
theorem d_W_increase_14 : decode nb_W_increase 14 = .ok (.ldc2_w 9, 3) := by decide +kernel
theorem d_W_increase_17 : decode nb_W_increase 17 = .ok (.lcmp, 1) := by decide +kernel
theorem d_W_increase_18 : decode nb_W_increase 18 = .ok (.ifCond .ne 18, 3) := by decide +kernel
theorem d_W_increase_21 : decode nb_W_increase 21 = .ok (.aload_n 0, 1) := by decide +kernel
theorem d_W_increase_22 : decode nb_W_increase 22 = .ok (.lconst 0, 1) := by decide +kernel
theorem d_W_increase_23 : decode nb_W_increase 23 = .ok (.putfield 17, 3) := by decide +kernel
theorem d_W_increase_26 : decode nb_W_increase 26 = .ok (.aload_n 0, 1) := by decide +kernel
theorem d_W_increase_27 : decode nb_W_increase 27 = .ok (.dup, 1) := by decide +kernel
theorem d_W_increase_28 : decode nb_W_increase 28 = .ok (.getfield 11, 3) := by decide +kernel
theorem d_W_increase_31 : decode nb_W_increase 31 = .ok (.lconst 1, 1) := by decide +kernel
theorem d_W_increase_32 : decode nb_W_increase 32 = .ok (.ladd, 1) := by decide +kernel
theorem d_W_increase_33 : decode nb_W_increase 33 = .ok (.putfield 11, 3) := by decide +kernel
theorem d_W_increase_36 : decode nb_W_increase 36 = .ok (.return_, 1) := by decide +kernel
abbrev rm_W_increase : Room := ({ frames := 0, cells := 0, slots := 0, locals := 0 })
theorem w_W_increase_36 {post : Unit → nf_M → Prop} (hfl : l.flags = flags0) (K : nf_K p s m args meth c "NumberForge$Wide" nb_W_increase 1 none D a sz) : ∀ (M : nf_M) (H : Heap) (locs : List Loc) (ls : Array Slot), B_W_increase_36 post  M → lv_has ls 1 [] → nf_W D a s sz H locs M → W p l e rm_W_increase s m args below meth c H locs 0 0 (nf_MQ below (nf_Q nf_jN D a post ex (nf_A a sz)) args s rm_W_increase.cells rm_W_increase.slots (nf_A a sz)) (F0 m 36 ls []) := by
  have hx := K.1
  have hb := K.2.1
  intro  M H locs ls h hl hw
  exact nf_vret K hw d_W_increase_36 (Nat.le_of_ble_eq_true rfl) (Nat.le_of_ble_eq_true rfl) (r := ()) rfl h
theorem c_W_increase (l : Launch) (hfl : l.flags = flags0) : nf_C nf_jN l nm_W_increase nb_W_increase 1 none rm_W_increase (fun a => [.ref (a 9)]) (fun M post ex => P_W_increase  M post) := by
  refine nf_start (plainFor_of_name (by decide +kernel)) (fun a => Nat.le_of_ble_eq_true rfl) ?_
  intro D a sz M post ex p e s m below meth c ls h K hl hw
  have hx := K.1
  have hb := K.2.1
  have hl : lv_has ls 1 [(0, .ref (a 9))] := hl
  refine lv_aload_n hx hb d_W_increase_0 rfl (lv_at hl 0 rfl) ?_
  refine lv_dup hx hb d_W_increase_1 rfl ?_
  refine nf_get (v := .long (mg_L M 9 1)) K hw 9 5 1 nw_161 rfl rfl ni_W (by decide) rfl rfl d_W_increase_2 ?_
  refine lv_lconst (v := (1 : Int64)) hx hb d_W_increase_5 (by decide) ?_
  refine lv_ladd hx hb d_W_increase_6 ?_
  refine lv_topl (fun t1 et1 => ?_)
  have h := h t1 et1
  refine nf_put (M' := ms_L M 9 1 t1) K hw 9 5 1 nw_161 rfl rfl rfl ni_W ny_W nq_W nn_W (by decide) rfl rfl rfl rfl (Nat.le_of_ble_eq_true rfl) d_W_increase_7 (fun H locs hw => ?_)
  obtain ⟨M2, eM2⟩ : ∃ z, z = ms_L M 9 1 t1 := ⟨_, rfl⟩
  rw [← eM2] at hw
  have h := h M2 eM2
  refine lv_aload_n hx hb d_W_increase_10 rfl (lv_at hl 0 rfl) ?_
  refine nf_get (v := .long (mg_L M2 9 1)) K hw 9 5 1 nw_161 rfl rfl ni_W (by decide) rfl rfl d_W_increase_11 ?_
  refine lv_ldc2 (v := (1000000000000000 : Int64)) hx hb K.2.2.2.1 (nf_Kg K nw_560) d_W_increase_14 ?_
  refine nf_lc_ne hx hb d_W_increase_17 d_W_increase_18 (tgt := 36) (by decide) (fun hc => ?_) (fun hc => ?_)
  · have h := h.1 hc
    refine lv_aload_n hx hb d_W_increase_21 rfl (lv_at hl 0 rfl) ?_
    refine lv_lconst (v := (0 : Int64)) hx hb d_W_increase_22 (by decide) ?_
    refine nf_put (M' := ms_L M2 9 1 (0 : Int64)) K hw 9 5 1 nw_161 rfl rfl rfl ni_W ny_W nq_W nn_W (by decide) rfl rfl rfl rfl (Nat.le_of_ble_eq_true rfl) d_W_increase_23 (fun H locs hw => ?_)
    obtain ⟨M3, eM3⟩ : ∃ z, z = ms_L M2 9 1 (0 : Int64) := ⟨_, rfl⟩
    rw [← eM3] at hw
    have h := h M3 eM3
    refine lv_aload_n hx hb d_W_increase_26 rfl (lv_at hl 0 rfl) ?_
    refine lv_dup hx hb d_W_increase_27 rfl ?_
    refine nf_get (v := .long (mg_L M3 9 0)) K hw 9 5 0 nw_160 rfl rfl ni_W (by decide) rfl rfl d_W_increase_28 ?_
    refine lv_lconst (v := (1 : Int64)) hx hb d_W_increase_31 (by decide) ?_
    refine lv_ladd hx hb d_W_increase_32 ?_
    refine lv_topl (fun t4 et4 => ?_)
    have h := h t4 et4
    refine nf_put (M' := ms_L M3 9 0 t4) K hw 9 5 0 nw_160 rfl rfl rfl ni_W ny_W nq_W nn_W (by decide) rfl rfl rfl rfl (Nat.le_of_ble_eq_true rfl) d_W_increase_33 (fun H locs hw => ?_)
    obtain ⟨M5, eM5⟩ : ∃ z, z = ms_L M3 9 0 t4 := ⟨_, rfl⟩
    rw [← eM5] at hw
    have h := h M5 eM5
    exact w_W_increase_36 hfl K  M5 _ _ _ h (lv_sub hl [] rfl) hw
  · have h := h.2 hc
    exact w_W_increase_36 hfl K  M2 _ _ _ h (lv_sub hl [] rfl) hw
end NW1
