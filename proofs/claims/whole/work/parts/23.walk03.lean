/-! walks (printed by wip/whole/gen/drive.py) -/
section NW3
variable {p : Program} {l : Launch} {e : Env} {s : State} {m : MethodId} {args : Array Value} {below : List Frame} {meth : Method} {c : Code} {D : va_G} {a : Nat → Nat} {sz : Nat} {ex : Nat → nf_M → Prop}
theorem d_F_exactRounded_0 : decode nb_F_exactRounded 0 = .ok (.iload_n 0, 1) := by decide +kernel
theorem d_F_exactRounded_1 : decode nb_F_exactRounded 1 = .ok (.tableswitch 57 2 4 #[27, 33, 41], 27) := by decide +kernel
theorem d_F_exactRounded_28 : decode nb_F_exactRounded 28 = .ok (.lload_n 1, 1) := by decide +kernel
theorem d_F_exactRounded_29 : decode nb_F_exactRounded 29 = .ok (.lload_n 3, 1) := by decide +kernel
theorem d_F_exactRounded_30 : decode nb_F_exactRounded 30 = .ok (.invokestatic 398, 3) := by decide +kernel
theorem d_F_exactRounded_33 : decode nb_F_exactRounded 33 = .ok (.lreturn, 1) := by decide +kernel
theorem d_F_exactRounded_34 : decode nb_F_exactRounded 34 = .ok (.lload_n 1, 1) := by decide +kernel
theorem d_F_exactRounded_35 : decode nb_F_exactRounded 35 = .ok (.lneg, 1) := by decide +kernel
theorem d_F_exactRounded_36 : decode nb_F_exactRounded 36 = .ok (.lload_n 3, 1) := by decide +kernel
theorem d_F_exactRounded_37 : decode nb_F_exactRounded 37 = .ok (.invokestatic 398, 3) := by decide +kernel
theorem d_F_exactRounded_40 : decode nb_F_exactRounded 40 = .ok (.lneg, 1) := by decide +kernel
theorem d_F_exactRounded_41 : decode nb_F_exactRounded 41 = .ok (.lreturn, 1) := by decide +kernel
theorem d_F_exactRounded_42 : decode nb_F_exactRounded 42 = .ok (.ldc2_w 271, 3) := by decide +kernel
theorem d_F_exactRounded_45 : decode nb_F_exactRounded 45 = .ok (.lload_n 1, 1) := by decide +kernel
theorem d_F_exactRounded_46 : decode nb_F_exactRounded 46 = .ok (.lmul, 1) := by decide +kernel
theorem d_F_exactRounded_47 : decode nb_F_exactRounded 47 = .ok (.lload_n 3, 1) := by decide +kernel
theorem d_F_exactRounded_48 : decode nb_F_exactRounded 48 = .ok (.ladd, 1) := by decide +kernel
theorem d_F_exactRounded_49 : decode nb_F_exactRounded 49 = .ok (.ldc2_w 271, 3) := by decide +kernel
theorem d_F_exactRounded_52 : decode nb_F_exactRounded 52 = .ok (.lload_n 3, 1) := by decide +kernel
theorem d_F_exactRounded_53 : decode nb_F_exactRounded 53 = .ok (.lmul, 1) := by decide +kernel
theorem d_F_exactRounded_54 : decode nb_F_exactRounded 54 = .ok (.invokestatic 398, 3) := by decide +kernel
theorem d_F_exactRounded_57 : decode nb_F_exactRounded 57 = .ok (.lreturn, 1) := by decide +kernel
theorem d_F_exactRounded_58 : decode nb_F_exactRounded 58 = .ok (.lload_n 1, 1) := by decide +kernel
theorem d_F_exactRounded_59 : decode nb_F_exactRounded 59 = .ok (.lload_n 3, 1) := by decide +kernel
theorem d_F_exactRounded_60 : decode nb_F_exactRounded 60 = .ok (.invokestatic 401, 3) := by decide +kernel
theorem d_F_exactRounded_63 : decode nb_F_exactRounded 63 = .ok (.lreturn, 1) := by decide +kernel
abbrev rm_F_exactRounded : Room := ({ frames := 3, cells := 0, slots := 0, locals := 75 })
theorem c_F_exactRounded (l : Launch) (hfl : l.flags = flags0) (x0 : Int32) (x1 : Int64) (x3 : Int64) : nf_C nf_jJ l nm_F_exactRounded nb_F_exactRounded 5 (some FieldType.long) rm_F_exactRounded (fun a => [.int x0, .long x1, .long x3]) (fun M post ex => P_F_exactRounded x0 x1 x3 M post) := by
  refine nf_start (plainFor_of_name (by decide +kernel)) (fun a => Nat.le_of_ble_eq_true rfl) ?_
  intro D a sz M post ex p e s m below meth c ls h K hl hw
  have hx := K.1
  have hb := K.2.1
  have hl : lv_has ls 5 [(0, .int x0), (1, .long x1), (3, .long x3)] := hl
  refine lv_iload_n hx hb d_F_exactRounded_0 rfl (lv_at hl 0 rfl) ?_
  by_cases hc : x0 = (2 : Int32)
  · have h := h.1 hc
    refine lv_tableIn hx hb d_F_exactRounded_1 (by rw [hc]; decide) (by rw [hc]; decide) (off := 27) (by rw [hc]; rfl) (tgt := 28) (by decide) ?_
    refine lv_lload_n hx hb d_F_exactRounded_28 rfl (lv_at hl 1 rfl) ?_
    refine lv_lload_n hx hb d_F_exactRounded_29 rfl (lv_at hl 2 rfl) ?_
    refine nf_callW (ex := (fun _ _ => False)) (As := [.long x1, .long x3]) (st0 := [.long x3, .long x1]) (rest := []) K hw (nf_invS hx hb K.2.2.2.1 (nf_Kg K nw_654) (nf_Kg K nw_655) (nf_Kg K nw_1) (nf_Kg K nw_656) ⟨by decide, by decide⟩ rfl nl_F_floor rfl d_F_exactRounded_30) (c_F_floor l hfl x1 x3) nw_656 nw_1 rfl ⟨by decide, by decide⟩ (Nat.le_of_ble_eq_true rfl) hl.1 ⟨Nat.le_of_ble_eq_true rfl, Nat.le_of_ble_eq_true rfl⟩ h (fun _ _ h => h.elim) (fun r1 M2 H locs h hw => ?_)
    refine W.eq (g2 := F0 m 33 ls [.long r1]) rfl ?_
    exact nf_lret K hw d_F_exactRounded_33 (Nat.le_of_ble_eq_true rfl) (Nat.le_of_ble_eq_true rfl) (r := r1) rfl h
  have h := h.2 hc
  have q3 := nf_ne hc (k := 2) (by decide)
  clear hc
  by_cases hc : x0 = (3 : Int32)
  · have h := h.1 hc
    refine lv_tableIn hx hb d_F_exactRounded_1 (by rw [hc]; decide) (by rw [hc]; decide) (off := 33) (by rw [hc]; rfl) (tgt := 34) (by decide) ?_
    refine lv_lload_n hx hb d_F_exactRounded_34 rfl (lv_at hl 1 rfl) ?_
    refine lv_lneg hx hb d_F_exactRounded_35 ?_
    refine lv_lload_n hx hb d_F_exactRounded_36 rfl (lv_at hl 2 rfl) ?_
    refine nf_callW (ex := (fun _ _ => False)) (As := [.long (-x1), .long x3]) (st0 := [.long x3, .long (-x1)]) (rest := []) K hw (nf_invS hx hb K.2.2.2.1 (nf_Kg K nw_654) (nf_Kg K nw_655) (nf_Kg K nw_1) (nf_Kg K nw_656) ⟨by decide, by decide⟩ rfl nl_F_floor rfl d_F_exactRounded_37) (c_F_floor l hfl (-x1) x3) nw_656 nw_1 rfl ⟨by decide, by decide⟩ (Nat.le_of_ble_eq_true rfl) hl.1 ⟨Nat.le_of_ble_eq_true rfl, Nat.le_of_ble_eq_true rfl⟩ h (fun _ _ h => h.elim) (fun r4 M5 H locs h hw => ?_)
    refine W.eq (g2 := F0 m 40 ls [.long r4]) rfl ?_
    refine lv_lneg hx hb d_F_exactRounded_40 ?_
    exact nf_lret K hw d_F_exactRounded_41 (Nat.le_of_ble_eq_true rfl) (Nat.le_of_ble_eq_true rfl) (r := -r4) rfl h
  have h := h.2 hc
  have q6 := nf_ne hc (k := 3) (by decide)
  clear hc
  by_cases hc : x0 = (4 : Int32)
  · have h := h.1 hc
    refine lv_tableIn hx hb d_F_exactRounded_1 (by rw [hc]; decide) (by rw [hc]; decide) (off := 41) (by rw [hc]; rfl) (tgt := 42) (by decide) ?_
    refine lv_ldc2 (v := (2 : Int64)) hx hb K.2.2.2.1 (nf_Kg K nw_586) d_F_exactRounded_42 ?_
    refine lv_lload_n hx hb d_F_exactRounded_45 rfl (lv_at hl 1 rfl) ?_
    refine lv_lmul hx hb d_F_exactRounded_46 ?_
    refine lv_lload_n hx hb d_F_exactRounded_47 rfl (lv_at hl 2 rfl) ?_
    refine lv_ladd hx hb d_F_exactRounded_48 ?_
    refine lv_ldc2 (v := (2 : Int64)) hx hb K.2.2.2.1 (nf_Kg K nw_586) d_F_exactRounded_49 ?_
    refine lv_lload_n hx hb d_F_exactRounded_52 rfl (lv_at hl 2 rfl) ?_
    refine lv_lmul hx hb d_F_exactRounded_53 ?_
    refine nf_callW (ex := (fun _ _ => False)) (As := [.long (((2 : Int64) * x1) + x3), .long ((2 : Int64) * x3)]) (st0 := [.long ((2 : Int64) * x3), .long (((2 : Int64) * x1) + x3)]) (rest := []) K hw (nf_invS hx hb K.2.2.2.1 (nf_Kg K nw_654) (nf_Kg K nw_655) (nf_Kg K nw_1) (nf_Kg K nw_656) ⟨by decide, by decide⟩ rfl nl_F_floor rfl d_F_exactRounded_54) (c_F_floor l hfl (((2 : Int64) * x1) + x3) ((2 : Int64) * x3)) nw_656 nw_1 rfl ⟨by decide, by decide⟩ (Nat.le_of_ble_eq_true rfl) hl.1 ⟨Nat.le_of_ble_eq_true rfl, Nat.le_of_ble_eq_true rfl⟩ h (fun _ _ h => h.elim) (fun r7 M8 H locs h hw => ?_)
    refine W.eq (g2 := F0 m 57 ls [.long r7]) rfl ?_
    exact nf_lret K hw d_F_exactRounded_57 (Nat.le_of_ble_eq_true rfl) (Nat.le_of_ble_eq_true rfl) (r := r7) rfl h
  have h := h.2 hc
  have q9 := nf_ne hc (k := 4) (by decide)
  clear hc
  refine lv_tableOut hx hb d_F_exactRounded_1 (by omega) (tgt := 58) (by decide) ?_
  refine lv_lload_n hx hb d_F_exactRounded_58 rfl (lv_at hl 1 rfl) ?_
  refine lv_lload_n hx hb d_F_exactRounded_59 rfl (lv_at hl 2 rfl) ?_
  refine nf_callW (ex := (fun _ _ => False)) (As := [.long x1, .long x3]) (st0 := [.long x3, .long x1]) (rest := []) K hw (nf_invS hx hb K.2.2.2.1 (nf_Kg K nw_660) (nf_Kg K nw_661) (nf_Kg K nw_1) (nf_Kg K nw_662) ⟨by decide, by decide⟩ rfl nl_F_signedHalfEven rfl d_F_exactRounded_60) (c_F_signedHalfEven l hfl x1 x3) nw_662 nw_1 rfl ⟨by decide, by decide⟩ (Nat.le_of_ble_eq_true rfl) hl.1 ⟨Nat.le_of_ble_eq_true rfl, Nat.le_of_ble_eq_true rfl⟩ h (fun _ _ h => h.elim) (fun r10 M11 H locs h hw => ?_)
  refine W.eq (g2 := F0 m 63 ls [.long r10]) rfl ?_
  exact nf_lret K hw d_F_exactRounded_63 (Nat.le_of_ble_eq_true rfl) (Nat.le_of_ble_eq_true rfl) (r := r10) rfl h
theorem d_F_exactOne_0 : decode nb_F_exactOne 0 = .ok (.aload_n 2, 1) := by decide +kernel
theorem d_F_exactOne_1 : decode nb_F_exactOne 1 = .ok (.getfield 135, 3) := by decide +kernel
theorem d_F_exactOne_4 : decode nb_F_exactOne 4 = .ok (.ifCond .ne 7, 3) := by decide +kernel
theorem d_F_exactOne_7 : decode nb_F_exactOne 7 = .ok (.iconst 0, 1) := by decide +kernel
theorem d_F_exactOne_8 : decode nb_F_exactOne 8 = .ok (.goto 4, 3) := by decide +kernel
theorem d_F_exactOne_11 : decode nb_F_exactOne 11 = .ok (.iconst 1, 1) := by decide +kernel
theorem d_F_exactOne_12 : decode nb_F_exactOne 12 = .ok (.istore_n 3, 1) := by decide +kernel
theorem d_F_exactOne_13 : decode nb_F_exactOne 13 = .ok (.iload_n 1, 1) := by decide +kernel
theorem d_F_exactOne_14 : decode nb_F_exactOne 14 = .ok (.ifCond .ne 23, 3) := by decide +kernel
theorem d_F_exactOne_17 : decode nb_F_exactOne 17 = .ok (.aload_n 0, 1) := by decide +kernel
theorem d_F_exactOne_18 : decode nb_F_exactOne 18 = .ok (.getfield 16, 3) := by decide +kernel
theorem d_F_exactOne_21 : decode nb_F_exactOne 21 = .ok (.iload_n 3, 1) := by decide +kernel
theorem d_F_exactOne_22 : decode nb_F_exactOne 22 = .ok (.aload_n 2, 1) := by decide +kernel
theorem d_F_exactOne_23 : decode nb_F_exactOne 23 = .ok (.getfield 110, 3) := by decide +kernel
theorem d_F_exactOne_26 : decode nb_F_exactOne 26 = .ok (.lneg, 1) := by decide +kernel
theorem d_F_exactOne_27 : decode nb_F_exactOne 27 = .ok (.aload_n 2, 1) := by decide +kernel
theorem d_F_exactOne_28 : decode nb_F_exactOne 28 = .ok (.getfield 176, 3) := by decide +kernel
theorem d_F_exactOne_31 : decode nb_F_exactOne 31 = .ok (.invokevirtual 106, 3) := by decide +kernel
theorem d_F_exactOne_34 : decode nb_F_exactOne 34 = .ok (.goto 54, 3) := by decide +kernel
theorem d_F_exactOne_37 : decode nb_F_exactOne 37 = .ok (.iload_n 1, 1) := by decide +kernel
theorem d_F_exactOne_38 : decode nb_F_exactOne 38 = .ok (.iconst 1, 1) := by decide +kernel
theorem d_F_exactOne_39 : decode nb_F_exactOne 39 = .ok (.if_icmp .ne 25, 3) := by decide +kernel
theorem d_F_exactOne_42 : decode nb_F_exactOne 42 = .ok (.aload_n 0, 1) := by decide +kernel
theorem d_F_exactOne_43 : decode nb_F_exactOne 43 = .ok (.getfield 16, 3) := by decide +kernel
theorem d_F_exactOne_46 : decode nb_F_exactOne 46 = .ok (.iload_n 3, 1) := by decide +kernel
theorem d_F_exactOne_47 : decode nb_F_exactOne 47 = .ok (.aload_n 2, 1) := by decide +kernel
theorem d_F_exactOne_48 : decode nb_F_exactOne 48 = .ok (.getfield 110, 3) := by decide +kernel
theorem d_F_exactOne_51 : decode nb_F_exactOne 51 = .ok (.invokestatic 193, 3) := by decide +kernel
theorem d_F_exactOne_54 : decode nb_F_exactOne 54 = .ok (.aload_n 2, 1) := by decide +kernel
theorem d_F_exactOne_55 : decode nb_F_exactOne 55 = .ok (.getfield 176, 3) := by decide +kernel
theorem d_F_exactOne_58 : decode nb_F_exactOne 58 = .ok (.invokevirtual 106, 3) := by decide +kernel
theorem d_F_exactOne_61 : decode nb_F_exactOne 61 = .ok (.goto 27, 3) := by decide +kernel
theorem d_F_exactOne_64 : decode nb_F_exactOne 64 = .ok (.aload_n 0, 1) := by decide +kernel
theorem d_F_exactOne_65 : decode nb_F_exactOne 65 = .ok (.getfield 16, 3) := by decide +kernel
theorem d_F_exactOne_68 : decode nb_F_exactOne 68 = .ok (.iload_n 3, 1) := by decide +kernel
theorem d_F_exactOne_69 : decode nb_F_exactOne 69 = .ok (.iload_n 1, 1) := by decide +kernel
theorem d_F_exactOne_70 : decode nb_F_exactOne 70 = .ok (.aload_n 2, 1) := by decide +kernel
theorem d_F_exactOne_71 : decode nb_F_exactOne 71 = .ok (.getfield 110, 3) := by decide +kernel
theorem d_F_exactOne_74 : decode nb_F_exactOne 74 = .ok (.aload_n 2, 1) := by decide +kernel
theorem d_F_exactOne_75 : decode nb_F_exactOne 75 = .ok (.getfield 176, 3) := by decide +kernel
theorem d_F_exactOne_78 : decode nb_F_exactOne 78 = .ok (.invokestatic 275, 3) := by decide +kernel
theorem d_F_exactOne_81 : decode nb_F_exactOne 81 = .ok (.invokestatic 394, 3) := by decide +kernel
theorem d_F_exactOne_84 : decode nb_F_exactOne 84 = .ok (.iconst 0, 1) := by decide +kernel
theorem d_F_exactOne_85 : decode nb_F_exactOne 85 = .ok (.invokevirtual 106, 3) := by decide +kernel
theorem d_F_exactOne_88 : decode nb_F_exactOne 88 = .ok (.return_, 1) := by decide +kernel
abbrev rm_F_exactOne : Room := ({ frames := 4, cells := 0, slots := 0, locals := 99 })
theorem w_F_exactOne_88 {post : Unit → nf_M → Prop} (hfl : l.flags = flags0) (K : nf_K p s m args meth c "NumberForge" nb_F_exactOne 4 none D a sz) : ∀ (M : nf_M) (H : Heap) (locs : List Loc) (ls : Array Slot), B_F_exactOne_88 post  M → lv_has ls 4 [] → nf_W D a s sz H locs M → W p l e rm_F_exactOne s m args below meth c H locs 0 0 (nf_MQ below (nf_Q nf_jN D a post ex (nf_A a sz)) args s rm_F_exactOne.cells rm_F_exactOne.slots (nf_A a sz)) (F0 m 88 ls []) := by
  have hx := K.1
  have hb := K.2.1
  intro  M H locs ls h hl hw
  exact nf_vret K hw d_F_exactOne_88 (Nat.le_of_ble_eq_true rfl) (Nat.le_of_ble_eq_true rfl) (r := ()) rfl h
theorem w_F_exactOne_12 {post : Unit → nf_M → Prop} (hfl : l.flags = flags0) (K : nf_K p s m args meth c "NumberForge" nb_F_exactOne 4 none D a sz) : ∀ (x1 : Int32) (v2 : Fin 9) (xy0 : Int32) (M : nf_M) (H : Heap) (locs : List Loc) (ls : Array Slot), B_F_exactOne_12 post x1 v2 xy0 M → lv_has ls 4 [(0, .ref (a 0)), (1, .int x1), (2, .ref (a (10 + (v2 : Fin 9).val)))] → nf_W D a s sz H locs M → W p l e rm_F_exactOne s m args below meth c H locs 0 0 (nf_MQ below (nf_Q nf_jN D a post ex (nf_A a sz)) args s rm_F_exactOne.cells rm_F_exactOne.slots (nf_A a sz)) (F0 m 12 ls [.int xy0]) := by
  have hx := K.1
  have hb := K.2.1
  intro x1 v2 xy0 M H locs ls h hl hw
  refine lv_istore_n (lv' := [(3, .int xy0), (0, .ref (a 0)), (1, .int x1), (2, .ref (a (10 + (v2 : Fin 9).val)))]) hx hb d_F_exactOne_12 rfl hl (by decide) rfl (fun ls hl => ?_)
  refine lv_iload_n hx hb d_F_exactOne_13 rfl (lv_at hl 2 rfl) ?_
  refine nf_if_ne hx hb d_F_exactOne_14 (tgt := 37) (by decide) (fun hc => ?_) (fun hc => ?_)
  · have h := h.1 hc
    refine lv_aload_n hx hb d_F_exactOne_17 rfl (lv_at hl 1 rfl) ?_
    refine nf_get (v := .ref (a (10 + ((0 : Fin 9) : Fin 9).val))) K hw 0 6 1 nw_169 rfl rfl ni_F (by decide) rfl rfl d_F_exactOne_18 ?_
    refine lv_iload_n hx hb d_F_exactOne_21 rfl (lv_at hl 0 rfl) ?_
    refine lv_aload_n hx hb d_F_exactOne_22 rfl (lv_at hl 3 rfl) ?_
    refine nf_getN (v := .long (mg_U M v2)) K hw (10 + (v2 : Fin 9).val) 4 1 nv_41 (nf_heV _ _ _) rfl ni_V (by decide) rfl rfl d_F_exactOne_23 ?_
    refine lv_lneg hx hb d_F_exactOne_26 ?_
    refine lv_aload_n hx hb d_F_exactOne_27 rfl (lv_at hl 3 rfl) ?_
    refine nf_getN (v := .int (mg_S M v2)) K hw (10 + (v2 : Fin 9).val) 4 2 nv_45 (nf_heV _ _ _) rfl ni_V (by decide) rfl rfl d_F_exactOne_28 ?_
    refine nf_callW (ex := (fun _ _ => False)) (As := [.ref (a (10 + ((0 : Fin 9) : Fin 9).val)), .int xy0, .long (-(mg_U M v2)), .int (mg_S M v2)]) (st0 := [.int (mg_S M v2), .long (-(mg_U M v2)), .int xy0, .ref (a (10 + ((0 : Fin 9) : Fin 9).val))]) (rest := []) K hw (nf_invVN hx hb K.2.2.2.1 ((nf_Kr K nv_417).use rfl) (nf_Kg K nw_419) (nf_Kg K nx_V_becomeUnits) (nf_Kg K nw_420) ⟨by decide, by decide⟩ (nf_rcv K hw (10 + ((0 : Fin 9) : Fin 9).val) 4 (nf_heV _ _ _) rfl) rfl nl_V_becomeUnits rfl d_F_exactOne_31) (c_V_becomeUnits l hfl (0 : Fin 9) xy0 (-(mg_U M v2)) (mg_S M v2)) nw_420 nw_2 rfl ⟨by decide, by decide⟩ (Nat.le_of_ble_eq_true rfl) hl.1 ⟨Nat.le_of_ble_eq_true rfl, Nat.le_of_ble_eq_true rfl⟩ h (fun _ _ h => h.elim) (fun r1 M2 H locs h hw => ?_)
    refine W.eq (g2 := F0 m 34 ls []) rfl ?_
    refine lv_goto hx hb d_F_exactOne_34 (tgt := 88) (by decide) ?_
    exact w_F_exactOne_88 hfl K  M2 _ _ _ h (lv_sub hl [] rfl) hw
  · have h := h.2 hc
    refine lv_iload_n hx hb d_F_exactOne_37 rfl (lv_at hl 2 rfl) ?_
    refine lv_iconst (v := (1 : Int32)) hx hb d_F_exactOne_38 (by decide) ?_
    refine nf_ic_ne hx hb d_F_exactOne_39 (tgt := 64) (by decide) (fun hc => ?_) (fun hc => ?_)
    · have h := h.1 hc
      refine lv_aload_n hx hb d_F_exactOne_42 rfl (lv_at hl 1 rfl) ?_
      refine nf_get (v := .ref (a (10 + ((0 : Fin 9) : Fin 9).val))) K hw 0 6 1 nw_169 rfl rfl ni_F (by decide) rfl rfl d_F_exactOne_43 ?_
      refine lv_iload_n hx hb d_F_exactOne_46 rfl (lv_at hl 0 rfl) ?_
      refine lv_aload_n hx hb d_F_exactOne_47 rfl (lv_at hl 3 rfl) ?_
      refine nf_getN (v := .long (mg_U M v2)) K hw (10 + (v2 : Fin 9).val) 4 1 nv_41 (nf_heV _ _ _) rfl ni_V (by decide) rfl rfl d_F_exactOne_48 ?_
      refine nf_callW (ex := (fun _ _ => False)) (As := [.long (mg_U M v2)]) (st0 := [.long (mg_U M v2), .int xy0, .ref (a (10 + ((0 : Fin 9) : Fin 9).val))]) (rest := [.int xy0, .ref (a (10 + ((0 : Fin 9) : Fin 9).val))]) K hw (nf_invS hx hb K.2.2.2.1 (nf_Kg K nw_549) (nf_Kg K nw_550) (nf_Kg K nw_4) (nf_Kg K nw_551) ⟨by decide, by decide⟩ rfl nl_JM_abs_JJ rfl d_F_exactOne_51) (c_JM_abs_JJ l hfl (mg_U M v2)) nw_551 nw_4 rfl ⟨by decide, by decide⟩ (Nat.le_of_ble_eq_true rfl) hl.1 ⟨Nat.le_of_ble_eq_true rfl, Nat.le_of_ble_eq_true rfl⟩ h (fun _ _ h => h.elim) (fun r3 M4 H locs h hw => ?_)
      refine W.eq (g2 := F0 m 54 ls [.long r3, .int xy0, .ref (a (10 + ((0 : Fin 9) : Fin 9).val))]) rfl ?_
      refine lv_aload_n hx hb d_F_exactOne_54 rfl (lv_at hl 3 rfl) ?_
      refine nf_getN (v := .int (mg_S M4 v2)) K hw (10 + (v2 : Fin 9).val) 4 2 nv_45 (nf_heV _ _ _) rfl ni_V (by decide) rfl rfl d_F_exactOne_55 ?_
      refine nf_callW (ex := (fun _ _ => False)) (As := [.ref (a (10 + ((0 : Fin 9) : Fin 9).val)), .int xy0, .long r3, .int (mg_S M4 v2)]) (st0 := [.int (mg_S M4 v2), .long r3, .int xy0, .ref (a (10 + ((0 : Fin 9) : Fin 9).val))]) (rest := []) K hw (nf_invVN hx hb K.2.2.2.1 ((nf_Kr K nv_417).use rfl) (nf_Kg K nw_419) (nf_Kg K nx_V_becomeUnits) (nf_Kg K nw_420) ⟨by decide, by decide⟩ (nf_rcv K hw (10 + ((0 : Fin 9) : Fin 9).val) 4 (nf_heV _ _ _) rfl) rfl nl_V_becomeUnits rfl d_F_exactOne_58) (c_V_becomeUnits l hfl (0 : Fin 9) xy0 r3 (mg_S M4 v2)) nw_420 nw_2 rfl ⟨by decide, by decide⟩ (Nat.le_of_ble_eq_true rfl) hl.1 ⟨Nat.le_of_ble_eq_true rfl, Nat.le_of_ble_eq_true rfl⟩ h (fun _ _ h => h.elim) (fun r5 M6 H locs h hw => ?_)
      refine W.eq (g2 := F0 m 61 ls []) rfl ?_
      refine lv_goto hx hb d_F_exactOne_61 (tgt := 88) (by decide) ?_
      exact w_F_exactOne_88 hfl K  M6 _ _ _ h (lv_sub hl [] rfl) hw
    · have h := h.2 hc
      refine lv_aload_n hx hb d_F_exactOne_64 rfl (lv_at hl 1 rfl) ?_
      refine nf_get (v := .ref (a (10 + ((0 : Fin 9) : Fin 9).val))) K hw 0 6 1 nw_169 rfl rfl ni_F (by decide) rfl rfl d_F_exactOne_65 ?_
      refine lv_iload_n hx hb d_F_exactOne_68 rfl (lv_at hl 0 rfl) ?_
      refine lv_iload_n hx hb d_F_exactOne_69 rfl (lv_at hl 2 rfl) ?_
      refine lv_aload_n hx hb d_F_exactOne_70 rfl (lv_at hl 3 rfl) ?_
      refine nf_getN (v := .long (mg_U M v2)) K hw (10 + (v2 : Fin 9).val) 4 1 nv_41 (nf_heV _ _ _) rfl ni_V (by decide) rfl rfl d_F_exactOne_71 ?_
      refine lv_aload_n hx hb d_F_exactOne_74 rfl (lv_at hl 3 rfl) ?_
      refine nf_getN (v := .int (mg_S M v2)) K hw (10 + (v2 : Fin 9).val) 4 2 nv_45 (nf_heV _ _ _) rfl ni_V (by decide) rfl rfl d_F_exactOne_75 ?_
      refine nf_callW (ex := (fun _ _ => False)) (As := [.int (mg_S M v2)]) (st0 := [.int (mg_S M v2), .long (mg_U M v2), .int x1, .int xy0, .ref (a (10 + ((0 : Fin 9) : Fin 9).val))]) (rest := [.long (mg_U M v2), .int x1, .int xy0, .ref (a (10 + ((0 : Fin 9) : Fin 9).val))]) K hw (nf_invS hx hb K.2.2.2.1 (nf_Kg K nw_548) (nf_Kg K nw_352) (nf_Kg K nw_1) (nf_Kg K nw_353) ⟨by decide, by decide⟩ rfl nl_F_power rfl d_F_exactOne_78) (c_F_power l hfl (mg_S M v2)) nw_353 nw_1 rfl ⟨by decide, by decide⟩ (Nat.le_of_ble_eq_true rfl) hl.1 ⟨Nat.le_of_ble_eq_true rfl, Nat.le_of_ble_eq_true rfl⟩ h (fun _ _ h => h.elim) (fun r7 M8 H locs h hw => ?_)
      refine W.eq (g2 := F0 m 81 ls [.long r7, .long (mg_U M v2), .int x1, .int xy0, .ref (a (10 + ((0 : Fin 9) : Fin 9).val))]) rfl ?_
      refine nf_callW (ex := (fun _ _ => False)) (As := [.int x1, .long (mg_U M v2), .long r7]) (st0 := [.long r7, .long (mg_U M v2), .int x1, .int xy0, .ref (a (10 + ((0 : Fin 9) : Fin 9).val))]) (rest := [.int xy0, .ref (a (10 + ((0 : Fin 9) : Fin 9).val))]) K hw (nf_invS hx hb K.2.2.2.1 (nf_Kg K nw_651) (nf_Kg K nw_652) (nf_Kg K nw_1) (nf_Kg K nw_653) ⟨by decide, by decide⟩ rfl nl_F_exactRounded rfl d_F_exactOne_81) (c_F_exactRounded l hfl x1 (mg_U M v2) r7) nw_653 nw_1 rfl ⟨by decide, by decide⟩ (Nat.le_of_ble_eq_true rfl) hl.1 ⟨Nat.le_of_ble_eq_true rfl, Nat.le_of_ble_eq_true rfl⟩ h (fun _ _ h => h.elim) (fun r9 M10 H locs h hw => ?_)
      refine W.eq (g2 := F0 m 84 ls [.long r9, .int xy0, .ref (a (10 + ((0 : Fin 9) : Fin 9).val))]) rfl ?_
      refine lv_iconst (v := (0 : Int32)) hx hb d_F_exactOne_84 (by decide) ?_
      refine nf_callW (ex := (fun _ _ => False)) (As := [.ref (a (10 + ((0 : Fin 9) : Fin 9).val)), .int xy0, .long r9, .int (0 : Int32)]) (st0 := [.int (0 : Int32), .long r9, .int xy0, .ref (a (10 + ((0 : Fin 9) : Fin 9).val))]) (rest := []) K hw (nf_invVN hx hb K.2.2.2.1 ((nf_Kr K nv_417).use rfl) (nf_Kg K nw_419) (nf_Kg K nx_V_becomeUnits) (nf_Kg K nw_420) ⟨by decide, by decide⟩ (nf_rcv K hw (10 + ((0 : Fin 9) : Fin 9).val) 4 (nf_heV _ _ _) rfl) rfl nl_V_becomeUnits rfl d_F_exactOne_85) (c_V_becomeUnits l hfl (0 : Fin 9) xy0 r9 (0 : Int32)) nw_420 nw_2 rfl ⟨by decide, by decide⟩ (Nat.le_of_ble_eq_true rfl) hl.1 ⟨Nat.le_of_ble_eq_true rfl, Nat.le_of_ble_eq_true rfl⟩ h (fun _ _ h => h.elim) (fun r11 M12 H locs h hw => ?_)
      refine W.eq (g2 := F0 m 88 ls []) rfl ?_
      exact w_F_exactOne_88 hfl K  M12 _ _ _ h (lv_sub hl [] rfl) hw
theorem c_F_exactOne (l : Launch) (hfl : l.flags = flags0) (x1 : Int32) (v2 : Fin 9) : nf_C nf_jN l nm_F_exactOne nb_F_exactOne 4 none rm_F_exactOne (fun a => [.ref (a 0), .int x1, .ref (a (10 + (v2 : Fin 9).val))]) (fun M post ex => P_F_exactOne x1 v2 M post) := by
  refine nf_start (plainFor_of_name (by decide +kernel)) (fun a => Nat.le_of_ble_eq_true rfl) ?_
  intro D a sz M post ex p e s m below meth c ls h K hl hw
  have hx := K.1
  have hb := K.2.1
  have hl : lv_has ls 4 [(0, .ref (a 0)), (1, .int x1), (2, .ref (a (10 + (v2 : Fin 9).val)))] := hl
  refine lv_aload_n hx hb d_F_exactOne_0 rfl (lv_at hl 2 rfl) ?_
  refine nf_getN (v := .int (mg_T M v2)) K hw (10 + (v2 : Fin 9).val) 4 0 nv_39 (nf_heV _ _ _) rfl ni_V (by decide) rfl rfl d_F_exactOne_1 ?_
  refine nf_if_ne hx hb d_F_exactOne_4 (tgt := 11) (by decide) (fun hc => ?_) (fun hc => ?_)
  · have h := h.1 hc
    refine lv_iconst (v := (0 : Int32)) hx hb d_F_exactOne_7 (by decide) ?_
    refine lv_goto hx hb d_F_exactOne_8 (tgt := 12) (by decide) ?_
    exact w_F_exactOne_12 hfl K x1 v2 (0 : Int32) M _ _ _ h (lv_sub hl [0, 1, 2] rfl) hw
  · have h := h.2 hc
    refine lv_iconst (v := (1 : Int32)) hx hb d_F_exactOne_11 (by decide) ?_
    exact w_F_exactOne_12 hfl K x1 v2 (1 : Int32) M _ _ _ h (lv_sub hl [0, 1, 2] rfl) hw
theorem d_F_one_0 : decode nb_F_one 0 = .ok (.aload_n 0, 1) := by decide +kernel
theorem d_F_one_1 : decode nb_F_one 1 = .ok (.iload_n 3, 1) := by decide +kernel
theorem d_F_one_2 : decode nb_F_one 2 = .ok (.invokevirtual 71, 3) := by decide +kernel
theorem d_F_one_5 : decode nb_F_one 5 = .ok (.astore 4, 2) := by decide +kernel
theorem d_F_one_7 : decode nb_F_one 7 = .ok (.aload_n 0, 1) := by decide +kernel
theorem d_F_one_8 : decode nb_F_one 8 = .ok (.iload_n 2, 1) := by decide +kernel
theorem d_F_one_9 : decode nb_F_one 9 = .ok (.invokevirtual 71, 3) := by decide +kernel
theorem d_F_one_12 : decode nb_F_one 12 = .ok (.astore 5, 2) := by decide +kernel
theorem d_F_one_14 : decode nb_F_one 14 = .ok (.iload_n 1, 1) := by decide +kernel
theorem d_F_one_15 : decode nb_F_one 15 = .ok (.bipush 6, 2) := by decide +kernel
theorem d_F_one_17 : decode nb_F_one 17 = .ok (.invokestatic 75, 3) := by decide +kernel
theorem d_F_one_20 : decode nb_F_one 20 = .ok (.aload 5, 2) := by decide +kernel
theorem d_F_one_22 : decode nb_F_one 22 = .ok (.invokestatic 121, 3) := by decide +kernel
theorem d_F_one_25 : decode nb_F_one 25 = .ok (.aload 5, 2) := by decide +kernel
theorem d_F_one_27 : decode nb_F_one 27 = .ok (.invokevirtual 124, 3) := by decide +kernel
theorem d_F_one_30 : decode nb_F_one 30 = .ok (.ifCond .eq 27, 3) := by decide +kernel
theorem d_F_one_33 : decode nb_F_one 33 = .ok (.aload_n 0, 1) := by decide +kernel
theorem d_F_one_34 : decode nb_F_one 34 = .ok (.getfield 16, 3) := by decide +kernel
theorem d_F_one_37 : decode nb_F_one 37 = .ok (.aload 5, 2) := by decide +kernel
theorem d_F_one_39 : decode nb_F_one 39 = .ok (.getfield 135, 3) := by decide +kernel
theorem d_F_one_42 : decode nb_F_one 42 = .ok (.iload_n 1, 1) := by decide +kernel
theorem d_F_one_43 : decode nb_F_one 43 = .ok (.aload 5, 2) := by decide +kernel
theorem d_F_one_45 : decode nb_F_one 45 = .ok (.getfield 138, 3) := by decide +kernel
theorem d_F_one_48 : decode nb_F_one 48 = .ok (.invokestatic 142, 3) := by decide +kernel
theorem d_F_one_51 : decode nb_F_one 51 = .ok (.invokevirtual 94, 3) := by decide +kernel
theorem d_F_one_54 : decode nb_F_one 54 = .ok (.goto 10, 3) := by decide +kernel
theorem d_F_one_57 : decode nb_F_one 57 = .ok (.aload_n 0, 1) := by decide +kernel
theorem d_F_one_58 : decode nb_F_one 58 = .ok (.iload_n 1, 1) := by decide +kernel
theorem d_F_one_59 : decode nb_F_one 59 = .ok (.aload 5, 2) := by decide +kernel
theorem d_F_one_61 : decode nb_F_one 61 = .ok (.invokevirtual 146, 3) := by decide +kernel
theorem d_F_one_64 : decode nb_F_one 64 = .ok (.aload 4, 2) := by decide +kernel
theorem d_F_one_66 : decode nb_F_one 66 = .ok (.aload_n 0, 1) := by decide +kernel
theorem d_F_one_67 : decode nb_F_one 67 = .ok (.getfield 16, 3) := by decide +kernel
theorem d_F_one_70 : decode nb_F_one 70 = .ok (.invokevirtual 117, 3) := by decide +kernel
theorem d_F_one_73 : decode nb_F_one 73 = .ok (.return_, 1) := by decide +kernel
abbrev rm_F_one : Room := ({ frames := 7, cells := 4, slots := 24, locals := 122 })
theorem w_F_one_64 {post : Unit → nf_M → Prop} (hfl : l.flags = flags0) (K : nf_K p s m args meth c "NumberForge" nb_F_one 6 none D a sz) : ∀ (v4 : Fin 9) (M : nf_M) (H : Heap) (locs : List Loc) (ls : Array Slot), B_F_one_64 post ex v4 M → lv_has ls 6 [(0, .ref (a 0)), (4, .ref (a (10 + (v4 : Fin 9).val)))] → nf_W D a s sz H locs M → W p l e rm_F_one s m args below meth c H locs 4 24 (nf_MQ below (nf_Q nf_jN D a post ex (nf_A a sz)) args s rm_F_one.cells rm_F_one.slots (nf_A a sz)) (F0 m 64 ls []) := by
  have hx := K.1
  have hb := K.2.1
  intro v4 M H locs ls h hl hw
  refine lv_aload hx hb d_F_one_64 (lv_at hl 1 rfl) ?_
  refine lv_aload_n hx hb d_F_one_66 rfl (lv_at hl 0 rfl) ?_
  refine nf_get (v := .ref (a (10 + ((0 : Fin 9) : Fin 9).val))) K hw 0 6 1 nw_169 rfl rfl ni_F (by decide) rfl rfl d_F_one_67 ?_
  refine nf_callW (ex := (fun _ _ => False)) (As := [.ref (a (10 + (v4 : Fin 9).val)), .ref (a (10 + ((0 : Fin 9) : Fin 9).val))]) (st0 := [.ref (a (10 + ((0 : Fin 9) : Fin 9).val)), .ref (a (10 + (v4 : Fin 9).val))]) (rest := []) K hw (nf_invVN hx hb K.2.2.2.1 ((nf_Kr K nv_429).use rfl) (nf_Kg K nw_431) (nf_Kg K nx_V_become) (nf_Kg K nw_432) ⟨by decide, by decide⟩ (nf_rcv K hw (10 + (v4 : Fin 9).val) 4 (nf_heV _ _ _) rfl) rfl nl_V_become rfl d_F_one_70) (c_V_become l hfl v4 (0 : Fin 9)) nw_432 nw_2 rfl ⟨by decide, by decide⟩ (Nat.le_of_ble_eq_true rfl) hl.1 ⟨Nat.le_of_ble_eq_true rfl, Nat.le_of_ble_eq_true rfl⟩ h (fun _ _ h => h.elim) (fun r1 M2 H locs h hw => ?_)
  refine W.eq (g2 := F0 m 73 ls []) rfl ?_
  exact nf_vret K hw d_F_one_73 (Nat.le_of_ble_eq_true rfl) (Nat.le_of_ble_eq_true rfl) (r := ()) rfl h
theorem c_F_one (l : Launch) (hfl : l.flags = flags0) (x1 : Int32) (x2 : Int32) (x3 : Int32) : nf_C nf_jN l nm_F_one nb_F_one 6 none rm_F_one (fun a => [.ref (a 0), .int x1, .int x2, .int x3]) (fun M post ex => P_F_one x1 x2 x3 M post ex) := by
  refine nf_start (plainFor_of_name (by decide +kernel)) (fun a => Nat.le_of_ble_eq_true rfl) ?_
  intro D a sz M post ex p e s m below meth c ls h K hl hw
  have hx := K.1
  have hb := K.2.1
  have hl : lv_has ls 6 [(0, .ref (a 0)), (1, .int x1), (2, .int x2), (3, .int x3)] := hl
  refine lv_aload_n hx hb d_F_one_0 rfl (lv_at hl 0 rfl) ?_
  refine lv_iload_n hx hb d_F_one_1 rfl (lv_at hl 3 rfl) ?_
  refine nf_callW (ex := ex) (As := [.ref (a 0), .int x3]) (st0 := [.int x3, .ref (a 0)]) (rest := []) K hw (nf_invV hx hb K.2.2.2.1 (nf_Kg K nw_243) (nf_Kg K nw_245) (nf_Kg K nx_F_register) (nf_Kg K nw_246) ⟨by decide, by decide⟩ (nf_rcv K hw 0 6 rfl rfl) rfl nl_F_register rfl d_F_one_2) (c_F_register l hfl x3) nw_246 nw_1 rfl ⟨by decide, by decide⟩ (Nat.le_of_ble_eq_true rfl) hl.1 ⟨Nat.le_of_ble_eq_true rfl, Nat.le_of_ble_eq_true rfl⟩ h (fun _ _ h => h) (fun r1 M2 H locs h hw => ?_)
  refine W.eq (g2 := F0 m 5 ls [.ref (a (10 + (r1 : Fin 9).val))]) rfl ?_
  refine W.widen (k := 1) (n := 6) (by decide) (by decide) ?_
  refine lv_astore (lv' := [(4, .ref (a (10 + (r1 : Fin 9).val))), (0, .ref (a 0)), (1, .int x1), (2, .int x2), (3, .int x3)]) hx hb d_F_one_5 hl (by decide) rfl (fun ls hl => ?_)
  refine lv_aload_n hx hb d_F_one_7 rfl (lv_at hl 1 rfl) ?_
  refine lv_iload_n hx hb d_F_one_8 rfl (lv_at hl 3 rfl) ?_
  refine nf_callW (ex := ex) (As := [.ref (a 0), .int x2]) (st0 := [.int x2, .ref (a 0)]) (rest := []) K hw (nf_invV hx hb K.2.2.2.1 (nf_Kg K nw_243) (nf_Kg K nw_245) (nf_Kg K nx_F_register) (nf_Kg K nw_246) ⟨by decide, by decide⟩ (nf_rcv K hw 0 6 rfl rfl) rfl nl_F_register rfl d_F_one_9) (c_F_register l hfl x2) nw_246 nw_1 rfl ⟨by decide, by decide⟩ (Nat.le_of_ble_eq_true rfl) hl.1 ⟨Nat.le_of_ble_eq_true rfl, Nat.le_of_ble_eq_true rfl⟩ h (fun _ _ h => h) (fun r3 M4 H locs h hw => ?_)
  refine W.eq (g2 := F0 m 12 ls [.ref (a (10 + (r3 : Fin 9).val))]) rfl ?_
  refine W.widen (k := 2) (n := 12) (by decide) (by decide) ?_
  refine lv_astore (lv' := [(5, .ref (a (10 + (r3 : Fin 9).val))), (4, .ref (a (10 + (r1 : Fin 9).val))), (0, .ref (a 0)), (1, .int x1), (2, .int x2), (3, .int x3)]) hx hb d_F_one_12 hl (by decide) rfl (fun ls hl => ?_)
  refine lv_iload_n hx hb d_F_one_14 rfl (lv_at hl 3 rfl) ?_
  refine lv_bipush (v := (6 : Int32)) hx hb d_F_one_15 (by decide) ?_
  refine nf_callW (ex := ex) (As := [.int x1, .int (6 : Int32)]) (st0 := [.int (6 : Int32), .int x1]) (rest := []) K hw (nf_invS hx hb K.2.2.2.1 (nf_Kg K nw_317) (nf_Kg K nw_318) (nf_Kg K nw_1) (nf_Kg K nw_319) ⟨by decide, by decide⟩ rfl nl_F_checkIndex rfl d_F_one_17) (c_F_checkIndex l hfl x1 (6 : Int32)) nw_319 nw_1 rfl ⟨by decide, by decide⟩ (Nat.le_of_ble_eq_true rfl) hl.1 ⟨Nat.le_of_ble_eq_true rfl, Nat.le_of_ble_eq_true rfl⟩ h (fun _ _ h => h) (fun r5 M6 H locs h hw => ?_)
  refine W.eq (g2 := F0 m 20 ls []) rfl ?_
  refine W.widen (k := 3) (n := 18) (by decide) (by decide) ?_
  refine lv_aload hx hb d_F_one_20 (lv_at hl 0 rfl) ?_
  refine nf_callW (ex := ex) (As := [.ref (a (10 + (r3 : Fin 9).val))]) (st0 := [.ref (a (10 + (r3 : Fin 9).val))]) (rest := []) K hw (nf_invS hx hb K.2.2.2.1 (nf_Kg K nw_449) (nf_Kg K nw_450) (nf_Kg K nw_1) (nf_Kg K nw_451) ⟨by decide, by decide⟩ rfl nl_F_checkFull rfl d_F_one_22) (c_F_checkFull l hfl r3) nw_451 nw_1 rfl ⟨by decide, by decide⟩ (Nat.le_of_ble_eq_true rfl) hl.1 ⟨Nat.le_of_ble_eq_true rfl, Nat.le_of_ble_eq_true rfl⟩ h (fun _ _ h => h) (fun r7 M8 H locs h hw => ?_)
  refine W.eq (g2 := F0 m 25 ls []) rfl ?_
  refine W.widen (k := 4) (n := 24) (by decide) (by decide) ?_
  refine lv_aload hx hb d_F_one_25 (lv_at hl 0 rfl) ?_
  refine nf_callW (ex := (fun _ _ => False)) (As := [.ref (a (10 + (r3 : Fin 9).val))]) (st0 := [.ref (a (10 + (r3 : Fin 9).val))]) (rest := []) K hw (nf_invVN hx hb K.2.2.2.1 ((nf_Kr K nv_468).use rfl) (nf_Kg K nw_470) (nf_Kg K nx_V_isFloating) (nf_Kg K nw_471) ⟨by decide, by decide⟩ (nf_rcv K hw (10 + (r3 : Fin 9).val) 4 (nf_heV _ _ _) rfl) rfl nl_V_isFloating rfl d_F_one_27) (c_V_isFloating l hfl r3) nw_471 nw_2 rfl ⟨by decide, by decide⟩ (Nat.le_of_ble_eq_true rfl) hl.1 ⟨Nat.le_of_ble_eq_true rfl, Nat.le_of_ble_eq_true rfl⟩ h (fun _ _ h => h.elim) (fun r9 M10 H locs h hw => ?_)
  refine W.eq (g2 := F0 m 30 ls [.int r9]) rfl ?_
  refine nf_if_eq hx hb d_F_one_30 (tgt := 57) (by decide) (fun hc => ?_) (fun hc => ?_)
  · have h := h.1 hc
    refine lv_aload_n hx hb d_F_one_57 rfl (lv_at hl 2 rfl) ?_
    refine lv_iload_n hx hb d_F_one_58 rfl (lv_at hl 3 rfl) ?_
    refine lv_aload hx hb d_F_one_59 (lv_at hl 0 rfl) ?_
    refine nf_callW (ex := (fun _ _ => False)) (As := [.ref (a 0), .int x1, .ref (a (10 + (r3 : Fin 9).val))]) (st0 := [.ref (a (10 + (r3 : Fin 9).val)), .int x1, .ref (a 0)]) (rest := []) K hw (nf_invV hx hb K.2.2.2.1 (nf_Kg K nw_647) (nf_Kg K nw_649) (nf_Kg K nx_F_exactOne) (nf_Kg K nw_650) ⟨by decide, by decide⟩ (nf_rcv K hw 0 6 rfl rfl) rfl nl_F_exactOne rfl d_F_one_61) (c_F_exactOne l hfl x1 r3) nw_650 nw_1 rfl ⟨by decide, by decide⟩ (Nat.le_of_ble_eq_true rfl) hl.1 ⟨Nat.le_of_ble_eq_true rfl, Nat.le_of_ble_eq_true rfl⟩ h (fun _ _ h => h.elim) (fun r11 M12 H locs h hw => ?_)
    refine W.eq (g2 := F0 m 64 ls []) rfl ?_
    exact w_F_one_64 hfl K r1 M12 _ _ _ h (lv_sub hl [2, 1] rfl) hw
  · have h := h.2 hc
    refine lv_aload_n hx hb d_F_one_33 rfl (lv_at hl 2 rfl) ?_
    refine nf_get (v := .ref (a (10 + ((0 : Fin 9) : Fin 9).val))) K hw 0 6 1 nw_169 rfl rfl ni_F (by decide) rfl rfl d_F_one_34 ?_
    refine lv_aload hx hb d_F_one_37 (lv_at hl 0 rfl) ?_
    refine nf_getN (v := .int (mg_T M10 r3)) K hw (10 + (r3 : Fin 9).val) 4 0 nv_39 (nf_heV _ _ _) rfl ni_V (by decide) rfl rfl d_F_one_39 ?_
    refine lv_iload_n hx hb d_F_one_42 rfl (lv_at hl 3 rfl) ?_
    refine lv_aload hx hb d_F_one_43 (lv_at hl 0 rfl) ?_
    refine nf_getN (v := .double (mg_R M10 r3)) K hw (10 + (r3 : Fin 9).val) 4 3 nv_47 (nf_heV _ _ _) rfl ni_V (by decide) rfl rfl d_F_one_45 ?_
    refine nf_callW (ex := (fun _ _ => False)) (As := [.int x1, .double (mg_R M10 r3)]) (st0 := [.double (mg_R M10 r3), .int x1, .int (mg_T M10 r3), .ref (a (10 + ((0 : Fin 9) : Fin 9).val))]) (rest := [.int (mg_T M10 r3), .ref (a (10 + ((0 : Fin 9) : Fin 9).val))]) K hw (nf_invS hx hb K.2.2.2.1 (nf_Kg K nw_636) (nf_Kg K nw_637) (nf_Kg K nw_1) (nf_Kg K nw_638) ⟨by decide, by decide⟩ rfl nl_F_floatingOne rfl d_F_one_48) (c_F_floatingOne l hfl x1 (mg_R M10 r3)) nw_638 nw_1 rfl ⟨by decide, by decide⟩ (Nat.le_of_ble_eq_true rfl) hl.1 ⟨Nat.le_of_ble_eq_true rfl, Nat.le_of_ble_eq_true rfl⟩ h (fun _ _ h => h.elim) (fun r13 M14 H locs h hw => ?_)
    refine W.eq (g2 := F0 m 51 ls [.double r13, .int (mg_T M10 r3), .ref (a (10 + ((0 : Fin 9) : Fin 9).val))]) rfl ?_
    refine nf_callW (ex := (fun _ _ => False)) (As := [.ref (a (10 + ((0 : Fin 9) : Fin 9).val)), .int (mg_T M10 r3), .double r13]) (st0 := [.double r13, .int (mg_T M10 r3), .ref (a (10 + ((0 : Fin 9) : Fin 9).val))]) (rest := []) K hw (nf_invVN hx hb K.2.2.2.1 ((nf_Kr K nv_404).use rfl) (nf_Kg K nw_406) (nf_Kg K nx_V_becomeFloating) (nf_Kg K nw_407) ⟨by decide, by decide⟩ (nf_rcv K hw (10 + ((0 : Fin 9) : Fin 9).val) 4 (nf_heV _ _ _) rfl) rfl nl_V_becomeFloating rfl d_F_one_51) (c_V_becomeFloating l hfl (0 : Fin 9) (mg_T M10 r3) r13) nw_407 nw_2 rfl ⟨by decide, by decide⟩ (Nat.le_of_ble_eq_true rfl) hl.1 ⟨Nat.le_of_ble_eq_true rfl, Nat.le_of_ble_eq_true rfl⟩ h (fun _ _ h => h.elim) (fun r15 M16 H locs h hw => ?_)
    refine W.eq (g2 := F0 m 54 ls []) rfl ?_
    refine lv_goto hx hb d_F_one_54 (tgt := 64) (by decide) ?_
    exact w_F_one_64 hfl K r1 M16 _ _ _ h (lv_sub hl [2, 1] rfl) hw
theorem d_F_nearestEven_0 : decode nb_F_nearestEven 0 = .ok (.dload_n 0, 1) := by decide +kernel
theorem d_F_nearestEven_1 : decode nb_F_nearestEven 1 = .ok (.d2l, 1) := by decide +kernel
theorem d_F_nearestEven_2 : decode nb_F_nearestEven 2 = .ok (.lstore_n 2, 1) := by decide +kernel
theorem d_F_nearestEven_3 : decode nb_F_nearestEven 3 = .ok (.lload_n 2, 1) := by decide +kernel
theorem d_F_nearestEven_4 : decode nb_F_nearestEven 4 = .ok (.dload_n 0, 1) := by decide +kernel
theorem d_F_nearestEven_5 : decode nb_F_nearestEven 5 = .ok (.lload_n 2, 1) := by decide +kernel
theorem d_F_nearestEven_6 : decode nb_F_nearestEven 6 = .ok (.l2d, 1) := by decide +kernel
theorem d_F_nearestEven_7 : decode nb_F_nearestEven 7 = .ok (.dsub, 1) := by decide +kernel
theorem d_F_nearestEven_8 : decode nb_F_nearestEven 8 = .ok (.invokestatic 293, 3) := by decide +kernel
theorem d_F_nearestEven_11 : decode nb_F_nearestEven 11 = .ok (.ifCond .eq 9, 3) := by decide +kernel
theorem d_F_nearestEven_14 : decode nb_F_nearestEven 14 = .ok (.lload_n 2, 1) := by decide +kernel
theorem d_F_nearestEven_15 : decode nb_F_nearestEven 15 = .ok (.lconst 1, 1) := by decide +kernel
theorem d_F_nearestEven_16 : decode nb_F_nearestEven 16 = .ok (.ladd, 1) := by decide +kernel
theorem d_F_nearestEven_17 : decode nb_F_nearestEven 17 = .ok (.goto 4, 3) := by decide +kernel
theorem d_F_nearestEven_20 : decode nb_F_nearestEven 20 = .ok (.lload_n 2, 1) := by decide +kernel
theorem d_F_nearestEven_21 : decode nb_F_nearestEven 21 = .ok (.lreturn, 1) := by decide +kernel
abbrev rm_F_nearestEven : Room := ({ frames := 1, cells := 0, slots := 0, locals := 23 })
theorem w_F_nearestEven_21 {post : Int64 → nf_M → Prop} (hfl : l.flags = flags0) (K : nf_K p s m args meth c "NumberForge" nb_F_nearestEven 4 (some FieldType.long) D a sz) : ∀ (xy0 : Int64) (M : nf_M) (H : Heap) (locs : List Loc) (ls : Array Slot), B_F_nearestEven_21 post xy0 M → lv_has ls 4 [] → nf_W D a s sz H locs M → W p l e rm_F_nearestEven s m args below meth c H locs 0 0 (nf_MQ below (nf_Q nf_jJ D a post ex (nf_A a sz)) args s rm_F_nearestEven.cells rm_F_nearestEven.slots (nf_A a sz)) (F0 m 21 ls [.long xy0]) := by
  have hx := K.1
  have hb := K.2.1
  intro xy0 M H locs ls h hl hw
  exact nf_lret K hw d_F_nearestEven_21 (Nat.le_of_ble_eq_true rfl) (Nat.le_of_ble_eq_true rfl) (r := xy0) rfl h
theorem c_F_nearestEven (l : Launch) (hfl : l.flags = flags0) (x0 : UInt64) : nf_C nf_jJ l nm_F_nearestEven nb_F_nearestEven 4 (some FieldType.long) rm_F_nearestEven (fun a => [.double x0]) (fun M post ex => P_F_nearestEven x0 M post) := by
  refine nf_start (plainFor_of_name (by decide +kernel)) (fun a => Nat.le_of_ble_eq_true rfl) ?_
  intro D a sz M post ex p e s m below meth c ls h K hl hw
  have hx := K.1
  have hb := K.2.1
  have hl : lv_has ls 4 [(0, .double x0)] := hl
  refine lv_dload_n hx hb d_F_nearestEven_0 rfl (lv_at hl 0 rfl) ?_
  refine lv_d2l hx hb d_F_nearestEven_1 ?_
  refine lv_topl (fun t1 et1 => ?_)
  have h := h t1 et1
  refine lv_lstore_n (lv' := [(2, .long t1), (0, .double x0)]) hx hb d_F_nearestEven_2 rfl hl (by decide) rfl (fun ls hl => ?_)
  refine lv_lload_n hx hb d_F_nearestEven_3 rfl (lv_at hl 0 rfl) ?_
  refine lv_dload_n hx hb d_F_nearestEven_4 rfl (lv_at hl 1 rfl) ?_
  refine lv_lload_n hx hb d_F_nearestEven_5 rfl (lv_at hl 0 rfl) ?_
  refine lv_l2d hx hb d_F_nearestEven_6 ?_
  obtain ⟨g2, h⟩ := h
  refine lv_dsub hx hb d_F_nearestEven_7 g2 ?_
  refine nf_callW (ex := (fun _ _ => False)) (As := [.long t1, .double (FP.dsub x0 (FP.l2d t1))]) (st0 := [.double (FP.dsub x0 (FP.l2d t1)), .long t1]) (rest := []) K hw (nf_invS hx hb K.2.2.2.1 (nf_Kg K nw_644) (nf_Kg K nw_645) (nf_Kg K nw_1) (nf_Kg K nw_646) ⟨by decide, by decide⟩ rfl nl_F_isHalfEvenUp rfl d_F_nearestEven_8) (c_F_isHalfEvenUp l hfl t1 (FP.dsub x0 (FP.l2d t1))) nw_646 nw_1 rfl ⟨by decide, by decide⟩ (Nat.le_of_ble_eq_true rfl) hl.1 ⟨Nat.le_of_ble_eq_true rfl, Nat.le_of_ble_eq_true rfl⟩ h (fun _ _ h => h.elim) (fun r3 M4 H locs h hw => ?_)
  refine W.eq (g2 := F0 m 11 ls [.int r3]) rfl ?_
  refine nf_if_eq hx hb d_F_nearestEven_11 (tgt := 20) (by decide) (fun hc => ?_) (fun hc => ?_)
  · have h := h.1 hc
    refine lv_lload_n hx hb d_F_nearestEven_20 rfl (lv_at hl 0 rfl) ?_
    exact w_F_nearestEven_21 hfl K t1 M4 _ _ _ h (lv_sub hl [] rfl) hw
  · have h := h.2 hc
    refine lv_lload_n hx hb d_F_nearestEven_14 rfl (lv_at hl 0 rfl) ?_
    refine lv_lconst (v := (1 : Int64)) hx hb d_F_nearestEven_15 (by decide) ?_
    refine lv_ladd hx hb d_F_nearestEven_16 ?_
    refine lv_goto hx hb d_F_nearestEven_17 (tgt := 21) (by decide) ?_
    exact w_F_nearestEven_21 hfl K (t1 + (1 : Int64)) M4 _ _ _ h (lv_sub hl [] rfl) hw
theorem d_F_castFloating_0 : decode nb_F_castFloating 0 = .ok (.dload_n 1, 1) := by decide +kernel
theorem d_F_castFloating_1 : decode nb_F_castFloating 1 = .ok (.invokestatic 326, 3) := by decide +kernel
theorem d_F_castFloating_4 : decode nb_F_castFloating 4 = .ok (.ifCond .eq 14, 3) := by decide +kernel
theorem d_F_castFloating_7 : decode nb_F_castFloating 7 = .ok (.new 305, 3) := by decide +kernel
theorem d_F_castFloating_10 : decode nb_F_castFloating 10 = .ok (.dup, 1) := by decide +kernel
theorem d_F_castFloating_11 : decode nb_F_castFloating 11 = .ok (.ldc_w 414, 3) := by decide +kernel
theorem d_F_castFloating_14 : decode nb_F_castFloating 14 = .ok (.invokespecial 309, 3) := by decide +kernel
theorem d_F_castFloating_17 : decode nb_F_castFloating 17 = .ok (.athrow, 1) := by decide +kernel
theorem d_F_castFloating_18 : decode nb_F_castFloating 18 = .ok (.dload_n 1, 1) := by decide +kernel
theorem d_F_castFloating_19 : decode nb_F_castFloating 19 = .ok (.invokestatic 332, 3) := by decide +kernel
theorem d_F_castFloating_22 : decode nb_F_castFloating 22 = .ok (.lstore 4, 2) := by decide +kernel
theorem d_F_castFloating_24 : decode nb_F_castFloating 24 = .ok (.iload_n 3, 1) := by decide +kernel
theorem d_F_castFloating_25 : decode nb_F_castFloating 25 = .ok (.ifCond .ne 60, 3) := by decide +kernel
theorem d_F_castFloating_28 : decode nb_F_castFloating 28 = .ok (.dload_n 1, 1) := by decide +kernel
theorem d_F_castFloating_29 : decode nb_F_castFloating 29 = .ok (.invokestatic 287, 3) := by decide +kernel
theorem d_F_castFloating_32 : decode nb_F_castFloating 32 = .ok (.ldc2_w 416, 3) := by decide +kernel
theorem d_F_castFloating_35 : decode nb_F_castFloating 35 = .ok (.dcmp .g, 1) := by decide +kernel
theorem d_F_castFloating_36 : decode nb_F_castFloating 36 = .ok (.ifCond .ge 49, 3) := by decide +kernel
theorem d_F_castFloating_39 : decode nb_F_castFloating 39 = .ok (.aload_n 0, 1) := by decide +kernel
theorem d_F_castFloating_40 : decode nb_F_castFloating 40 = .ok (.getfield 56, 3) := by decide +kernel
theorem d_F_castFloating_43 : decode nb_F_castFloating 43 = .ok (.dload_n 1, 1) := by decide +kernel
theorem d_F_castFloating_44 : decode nb_F_castFloating 44 = .ok (.invokestatic 287, 3) := by decide +kernel
theorem d_F_castFloating_47 : decode nb_F_castFloating 47 = .ok (.ldc2_w 418, 3) := by decide +kernel
theorem d_F_castFloating_50 : decode nb_F_castFloating 50 = .ok (.dmul, 1) := by decide +kernel
theorem d_F_castFloating_51 : decode nb_F_castFloating 51 = .ok (.invokestatic 420, 3) := by decide +kernel
theorem d_F_castFloating_54 : decode nb_F_castFloating 54 = .ok (.invokevirtual 201, 3) := by decide +kernel
theorem d_F_castFloating_57 : decode nb_F_castFloating 57 = .ok (.aload_n 0, 1) := by decide +kernel
theorem d_F_castFloating_58 : decode nb_F_castFloating 58 = .ok (.getfield 56, 3) := by decide +kernel
theorem d_F_castFloating_61 : decode nb_F_castFloating 61 = .ok (.aload_n 0, 1) := by decide +kernel
theorem d_F_castFloating_62 : decode nb_F_castFloating 62 = .ok (.getfield 16, 3) := by decide +kernel
theorem d_F_castFloating_65 : decode nb_F_castFloating 65 = .ok (.iload_n 3, 1) := by decide +kernel
theorem d_F_castFloating_66 : decode nb_F_castFloating 66 = .ok (.dload_n 1, 1) := by decide +kernel
theorem d_F_castFloating_67 : decode nb_F_castFloating 67 = .ok (.dconst 0, 1) := by decide +kernel
theorem d_F_castFloating_68 : decode nb_F_castFloating 68 = .ok (.dcmp .g, 1) := by decide +kernel
theorem d_F_castFloating_69 : decode nb_F_castFloating 69 = .ok (.ifCond .ge 7, 3) := by decide +kernel
theorem d_F_castFloating_72 : decode nb_F_castFloating 72 = .ok (.iconst 1, 1) := by decide +kernel
theorem d_F_castFloating_73 : decode nb_F_castFloating 73 = .ok (.goto 4, 3) := by decide +kernel
theorem d_F_castFloating_76 : decode nb_F_castFloating 76 = .ok (.iconst 0, 1) := by decide +kernel
theorem d_F_castFloating_77 : decode nb_F_castFloating 77 = .ok (.bipush 6, 2) := by decide +kernel
theorem d_F_castFloating_79 : decode nb_F_castFloating 79 = .ok (.invokevirtual 204, 3) := by decide +kernel
theorem d_F_castFloating_82 : decode nb_F_castFloating 82 = .ok (.goto 14, 3) := by decide +kernel
theorem d_F_castFloating_85 : decode nb_F_castFloating 85 = .ok (.aload_n 0, 1) := by decide +kernel
theorem d_F_castFloating_86 : decode nb_F_castFloating 86 = .ok (.getfield 16, 3) := by decide +kernel
theorem d_F_castFloating_89 : decode nb_F_castFloating 89 = .ok (.iload_n 3, 1) := by decide +kernel
theorem d_F_castFloating_90 : decode nb_F_castFloating 90 = .ok (.lload 4, 2) := by decide +kernel
theorem d_F_castFloating_92 : decode nb_F_castFloating 92 = .ok (.iconst 0, 1) := by decide +kernel
theorem d_F_castFloating_93 : decode nb_F_castFloating 93 = .ok (.invokevirtual 106, 3) := by decide +kernel
theorem d_F_castFloating_96 : decode nb_F_castFloating 96 = .ok (.return_, 1) := by decide +kernel
abbrev rm_F_castFloating : Room := ({ frames := 7, cells := 2, slots := 12, locals := 125 })
theorem w_F_castFloating_96 {post : Unit → nf_M → Prop} (hfl : l.flags = flags0) (K : nf_K p s m args meth c "NumberForge" nb_F_castFloating 6 none D a sz) : ∀ (M : nf_M) (H : Heap) (locs : List Loc) (ls : Array Slot), B_F_castFloating_96 post ex  M → lv_has ls 6 [] → nf_W D a s sz H locs M → W p l e rm_F_castFloating s m args below meth c H locs 2 12 (nf_MQ below (nf_Q nf_jN D a post ex (nf_A a sz)) args s rm_F_castFloating.cells rm_F_castFloating.slots (nf_A a sz)) (F0 m 96 ls []) := by
  have hx := K.1
  have hb := K.2.1
  intro  M H locs ls h hl hw
  exact nf_vret K hw d_F_castFloating_96 (Nat.le_of_ble_eq_true rfl) (Nat.le_of_ble_eq_true rfl) (r := ()) rfl h
theorem w_F_castFloating_77 {post : Unit → nf_M → Prop} (hfl : l.flags = flags0) (K : nf_K p s m args meth c "NumberForge" nb_F_castFloating 6 none D a sz) : ∀ (xy0 : Int32) (xy1 : Int32) (vy2 : Fin 9) (M : nf_M) (H : Heap) (locs : List Loc) (ls : Array Slot), B_F_castFloating_77 post ex xy0 xy1 vy2 M → lv_has ls 6 [] → nf_W D a s sz H locs M → W p l e rm_F_castFloating s m args below meth c H locs 1 6 (nf_MQ below (nf_Q nf_jN D a post ex (nf_A a sz)) args s rm_F_castFloating.cells rm_F_castFloating.slots (nf_A a sz)) (F0 m 77 ls [.int xy0, .int xy1, .ref (a (10 + (vy2 : Fin 9).val)), .ref (a 9)]) := by
  have hx := K.1
  have hb := K.2.1
  intro xy0 xy1 vy2 M H locs ls h hl hw
  refine lv_bipush (v := (6 : Int32)) hx hb d_F_castFloating_77 (by decide) ?_
  refine nf_callW (ex := ex) (As := [.ref (a 9), .ref (a (10 + (vy2 : Fin 9).val)), .int xy1, .int xy0, .int (6 : Int32)]) (st0 := [.int (6 : Int32), .int xy0, .int xy1, .ref (a (10 + (vy2 : Fin 9).val)), .ref (a 9)]) (rest := []) K hw (nf_invVN hx hb K.2.2.2.1 ((nf_Kr K nv_561).use rfl) (nf_Kg K nw_563) (nf_Kg K nx_W_settle) (nf_Kg K nw_564) ⟨by decide, by decide⟩ (nf_rcv K hw 9 5 rfl rfl) rfl nl_W_settle rfl d_F_castFloating_79) (c_W_settle l hfl vy2 xy1 xy0 (6 : Int32)) nw_564 nw_8 rfl ⟨by decide, by decide⟩ (Nat.le_of_ble_eq_true rfl) hl.1 ⟨Nat.le_of_ble_eq_true rfl, Nat.le_of_ble_eq_true rfl⟩ h (fun _ _ h => h) (fun r1 M2 H locs h hw => ?_)
  refine W.eq (g2 := F0 m 82 ls []) rfl ?_
  refine W.widen (k := 2) (n := 12) (by decide) (by decide) ?_
  refine lv_goto hx hb d_F_castFloating_82 (tgt := 96) (by decide) ?_
  exact w_F_castFloating_96 hfl K  M2 _ _ _ h (lv_sub hl [] rfl) hw
theorem w_F_castFloating_85 {post : Unit → nf_M → Prop} (hfl : l.flags = flags0) (K : nf_K p s m args meth c "NumberForge" nb_F_castFloating 6 none D a sz) : ∀ (x3 : Int32) (x4 : Int64) (M : nf_M) (H : Heap) (locs : List Loc) (ls : Array Slot), B_F_castFloating_85 post ex x3 x4 M → lv_has ls 6 [(0, .ref (a 0)), (3, .int x3), (4, .long x4)] → nf_W D a s sz H locs M → W p l e rm_F_castFloating s m args below meth c H locs 1 6 (nf_MQ below (nf_Q nf_jN D a post ex (nf_A a sz)) args s rm_F_castFloating.cells rm_F_castFloating.slots (nf_A a sz)) (F0 m 85 ls []) := by
  have hx := K.1
  have hb := K.2.1
  intro x3 x4 M H locs ls h hl hw
  refine lv_aload_n hx hb d_F_castFloating_85 rfl (lv_at hl 0 rfl) ?_
  refine nf_get (v := .ref (a (10 + ((0 : Fin 9) : Fin 9).val))) K hw 0 6 1 nw_169 rfl rfl ni_F (by decide) rfl rfl d_F_castFloating_86 ?_
  refine lv_iload_n hx hb d_F_castFloating_89 rfl (lv_at hl 1 rfl) ?_
  refine lv_lload hx hb d_F_castFloating_90 (lv_at hl 2 rfl) ?_
  refine lv_iconst (v := (0 : Int32)) hx hb d_F_castFloating_92 (by decide) ?_
  refine nf_callW (ex := (fun _ _ => False)) (As := [.ref (a (10 + ((0 : Fin 9) : Fin 9).val)), .int x3, .long x4, .int (0 : Int32)]) (st0 := [.int (0 : Int32), .long x4, .int x3, .ref (a (10 + ((0 : Fin 9) : Fin 9).val))]) (rest := []) K hw (nf_invVN hx hb K.2.2.2.1 ((nf_Kr K nv_417).use rfl) (nf_Kg K nw_419) (nf_Kg K nx_V_becomeUnits) (nf_Kg K nw_420) ⟨by decide, by decide⟩ (nf_rcv K hw (10 + ((0 : Fin 9) : Fin 9).val) 4 (nf_heV _ _ _) rfl) rfl nl_V_becomeUnits rfl d_F_castFloating_93) (c_V_becomeUnits l hfl (0 : Fin 9) x3 x4 (0 : Int32)) nw_420 nw_2 rfl ⟨by decide, by decide⟩ (Nat.le_of_ble_eq_true rfl) hl.1 ⟨Nat.le_of_ble_eq_true rfl, Nat.le_of_ble_eq_true rfl⟩ h (fun _ _ h => h.elim) (fun r1 M2 H locs h hw => ?_)
  refine W.eq (g2 := F0 m 96 ls []) rfl ?_
  refine W.widen (k := 2) (n := 12) (by decide) (by decide) ?_
  exact w_F_castFloating_96 hfl K  M2 _ _ _ h (lv_sub hl [] rfl) hw
theorem c_F_castFloating (l : Launch) (hfl : l.flags = flags0) (x1 : UInt64) (x3 : Int32) : nf_C nf_jN l nm_F_castFloating nb_F_castFloating 6 none rm_F_castFloating (fun a => [.ref (a 0), .double x1, .int x3]) (fun M post ex => P_F_castFloating x1 x3 M post ex) := by
  refine nf_start (plainFor_of_name (by decide +kernel)) (fun a => Nat.le_of_ble_eq_true rfl) ?_
  intro D a sz M post ex p e s m below meth c ls h K hl hw
  have hx := K.1
  have hb := K.2.1
  have hl : lv_has ls 6 [(0, .ref (a 0)), (1, .double x1), (3, .int x3)] := hl
  refine lv_dload_n hx hb d_F_castFloating_0 rfl (lv_at hl 1 rfl) ?_
  refine nf_callW (ex := (fun _ _ => False)) (As := [.double x1]) (st0 := [.double x1]) (rest := []) K hw (nf_invS hx hb K.2.2.2.1 (nf_Kg K nw_490) (nf_Kg K nw_491) (nf_Kg K nw_1) (nf_Kg K nw_492) ⟨by decide, by decide⟩ rfl nl_F_isInfinite rfl d_F_castFloating_1) (c_F_isInfinite l hfl x1) nw_492 nw_1 rfl ⟨by decide, by decide⟩ (Nat.le_of_ble_eq_true rfl) hl.1 ⟨Nat.le_of_ble_eq_true rfl, Nat.le_of_ble_eq_true rfl⟩ h (fun _ _ h => h.elim) (fun r1 M2 H locs h hw => ?_)
  refine W.eq (g2 := F0 m 4 ls [.int r1]) rfl ?_
  refine nf_if_eq hx hb d_F_castFloating_4 (tgt := 18) (by decide) (fun hc => ?_) (fun hc => ?_)
  · have h := h.1 hc
    refine lv_dload_n hx hb d_F_castFloating_18 rfl (lv_at hl 1 rfl) ?_
    refine nf_callW (ex := ex) (As := [.double x1]) (st0 := [.double x1]) (rest := []) K hw (nf_invS hx hb K.2.2.2.1 (nf_Kg K nw_518) (nf_Kg K nw_519) (nf_Kg K nw_1) (nf_Kg K nw_520) ⟨by decide, by decide⟩ rfl nl_F_wholeBelowLimit rfl d_F_castFloating_19) (c_F_wholeBelowLimit l hfl x1) nw_520 nw_1 rfl ⟨by decide, by decide⟩ (Nat.le_of_ble_eq_true rfl) hl.1 ⟨Nat.le_of_ble_eq_true rfl, Nat.le_of_ble_eq_true rfl⟩ h (fun _ _ h => h) (fun r3 M4 H locs h hw => ?_)
    refine W.eq (g2 := F0 m 22 ls [.long r3]) rfl ?_
    refine W.widen (k := 1) (n := 6) (by decide) (by decide) ?_
    refine lv_lstore (lv' := [(4, .long r3), (0, .ref (a 0)), (1, .double x1), (3, .int x3)]) hx hb d_F_castFloating_22 hl (by decide) rfl (fun ls hl => ?_)
    refine lv_iload_n hx hb d_F_castFloating_24 rfl (lv_at hl 3 rfl) ?_
    refine nf_if_ne hx hb d_F_castFloating_25 (tgt := 85) (by decide) (fun hc => ?_) (fun hc => ?_)
    · have h := h.1 hc
      refine lv_dload_n hx hb d_F_castFloating_28 rfl (lv_at hl 2 rfl) ?_
      refine nf_callW (ex := (fun _ _ => False)) (As := [.double x1]) (st0 := [.double x1]) (rest := []) K hw (nf_invS hx hb K.2.2.2.1 (nf_Kg K nw_493) (nf_Kg K nw_494) (nf_Kg K nw_1) (nf_Kg K nw_495) ⟨by decide, by decide⟩ rfl nl_F_amount rfl d_F_castFloating_29) (c_F_amount l hfl x1) nw_495 nw_1 rfl ⟨by decide, by decide⟩ (Nat.le_of_ble_eq_true rfl) hl.1 ⟨Nat.le_of_ble_eq_true rfl, Nat.le_of_ble_eq_true rfl⟩ h (fun _ _ h => h.elim) (fun r5 M6 H locs h hw => ?_)
      refine W.eq (g2 := F0 m 32 ls [.double r5]) rfl ?_
      refine lv_ldc2d (v := (4741671816366391296 : UInt64)) hx hb K.2.2.2.1 (nf_Kg K nw_682) d_F_castFloating_32 ?_
      refine nf_dg_ge hx hb d_F_castFloating_35 d_F_castFloating_36 (tgt := 85) (by decide) (fun hc => ?_) (fun hc => ?_)
      · have h := h.1 hc
        refine lv_aload_n hx hb d_F_castFloating_39 rfl (lv_at hl 1 rfl) ?_
        refine nf_get (v := .ref (a 9)) K hw 0 6 7 nw_175 rfl rfl ni_F (by decide) rfl rfl d_F_castFloating_40 ?_
        refine lv_dload_n hx hb d_F_castFloating_43 rfl (lv_at hl 2 rfl) ?_
        refine nf_callW (ex := (fun _ _ => False)) (As := [.double x1]) (st0 := [.double x1, .ref (a 9)]) (rest := [.ref (a 9)]) K hw (nf_invS hx hb K.2.2.2.1 (nf_Kg K nw_493) (nf_Kg K nw_494) (nf_Kg K nw_1) (nf_Kg K nw_495) ⟨by decide, by decide⟩ rfl nl_F_amount rfl d_F_castFloating_44) (c_F_amount l hfl x1) nw_495 nw_1 rfl ⟨by decide, by decide⟩ (Nat.le_of_ble_eq_true rfl) hl.1 ⟨Nat.le_of_ble_eq_true rfl, Nat.le_of_ble_eq_true rfl⟩ h (fun _ _ h => h.elim) (fun r7 M8 H locs h hw => ?_)
        refine W.eq (g2 := F0 m 47 ls [.double r7, .ref (a 9)]) rfl ?_
        refine lv_ldc2d (v := (4696837146684686336 : UInt64)) hx hb K.2.2.2.1 (nf_Kg K nw_683) d_F_castFloating_47 ?_
        obtain ⟨g9, h⟩ := h
        refine lv_dmul hx hb d_F_castFloating_50 g9 ?_
        refine nf_callW (ex := (fun _ _ => False)) (As := [.double (FP.dmul r7 (4696837146684686336 : UInt64))]) (st0 := [.double (FP.dmul r7 (4696837146684686336 : UInt64)), .ref (a 9)]) (rest := [.ref (a 9)]) K hw (nf_invS hx hb K.2.2.2.1 (nf_Kg K nw_684) (nf_Kg K nw_685) (nf_Kg K nw_1) (nf_Kg K nw_686) ⟨by decide, by decide⟩ rfl nl_F_nearestEven rfl d_F_castFloating_51) (c_F_nearestEven l hfl (FP.dmul r7 (4696837146684686336 : UInt64))) nw_686 nw_1 rfl ⟨by decide, by decide⟩ (Nat.le_of_ble_eq_true rfl) hl.1 ⟨Nat.le_of_ble_eq_true rfl, Nat.le_of_ble_eq_true rfl⟩ h (fun _ _ h => h.elim) (fun r10 M11 H locs h hw => ?_)
        refine W.eq (g2 := F0 m 54 ls [.long r10, .ref (a 9)]) rfl ?_
        refine nf_callW (ex := (fun _ _ => False)) (As := [.ref (a 9), .long r10]) (st0 := [.long r10, .ref (a 9)]) (rest := []) K hw (nf_invVN hx hb K.2.2.2.1 ((nf_Kr K nv_556).use rfl) (nf_Kg K nw_558) (nf_Kg K nx_W_become) (nf_Kg K nw_559) ⟨by decide, by decide⟩ (nf_rcv K hw 9 5 rfl rfl) rfl nl_W_become rfl d_F_castFloating_54) (c_W_become l hfl r10) nw_559 nw_8 rfl ⟨by decide, by decide⟩ (Nat.le_of_ble_eq_true rfl) hl.1 ⟨Nat.le_of_ble_eq_true rfl, Nat.le_of_ble_eq_true rfl⟩ h (fun _ _ h => h.elim) (fun r12 M13 H locs h hw => ?_)
        refine W.eq (g2 := F0 m 57 ls []) rfl ?_
        refine lv_aload_n hx hb d_F_castFloating_57 rfl (lv_at hl 1 rfl) ?_
        refine nf_get (v := .ref (a 9)) K hw 0 6 7 nw_175 rfl rfl ni_F (by decide) rfl rfl d_F_castFloating_58 ?_
        refine lv_aload_n hx hb d_F_castFloating_61 rfl (lv_at hl 1 rfl) ?_
        refine nf_get (v := .ref (a (10 + ((0 : Fin 9) : Fin 9).val))) K hw 0 6 1 nw_169 rfl rfl ni_F (by decide) rfl rfl d_F_castFloating_62 ?_
        refine lv_iload_n hx hb d_F_castFloating_65 rfl (lv_at hl 3 rfl) ?_
        refine lv_dload_n hx hb d_F_castFloating_66 rfl (lv_at hl 2 rfl) ?_
        refine lv_dconst0 hx hb d_F_castFloating_67 ?_
        refine nf_dg_ge hx hb d_F_castFloating_68 d_F_castFloating_69 (tgt := 76) (by decide) (fun hc => ?_) (fun hc => ?_)
        · have h := h.1 hc
          refine lv_iconst (v := (1 : Int32)) hx hb d_F_castFloating_72 (by decide) ?_
          refine lv_goto hx hb d_F_castFloating_73 (tgt := 77) (by decide) ?_
          exact w_F_castFloating_77 hfl K (1 : Int32) x3 (0 : Fin 9) M13 _ _ _ h (lv_sub hl [] rfl) hw
        · have h := h.2 hc
          refine lv_iconst (v := (0 : Int32)) hx hb d_F_castFloating_76 (by decide) ?_
          exact w_F_castFloating_77 hfl K (0 : Int32) x3 (0 : Fin 9) M13 _ _ _ h (lv_sub hl [] rfl) hw
      · have h := h.2 hc
        exact w_F_castFloating_85 hfl K x3 r3 M6 _ _ _ h (lv_sub hl [1, 3, 0] rfl) hw
    · have h := h.2 hc
      exact w_F_castFloating_85 hfl K x3 r3 M4 _ _ _ h (lv_sub hl [1, 3, 0] rfl) hw
  · have h := h.2 hc
    exact nf_throwW (i := 16) 3 hfl K hw rfl (by decide) na_F_309 nw_497 nw_498 nw_17 rfl d_F_castFloating_7 d_F_castFloating_10 d_F_castFloating_11 d_F_castFloating_14 d_F_castFloating_17 hl.1 ⟨by decide, by decide⟩ ⟨Nat.le_of_ble_eq_true rfl, Nat.le_of_ble_eq_true rfl⟩ h
theorem d_F_castIntoAnswer_0 : decode nb_F_castIntoAnswer 0 = .ok (.iload_n 2, 1) := by decide +kernel
theorem d_F_castIntoAnswer_1 : decode nb_F_castIntoAnswer 1 = .ok (.bipush 9, 2) := by decide +kernel
theorem d_F_castIntoAnswer_3 : decode nb_F_castIntoAnswer 3 = .ok (.if_icmp .ne 18, 3) := by decide +kernel
theorem d_F_castIntoAnswer_6 : decode nb_F_castIntoAnswer 6 = .ok (.aload_n 0, 1) := by decide +kernel
theorem d_F_castIntoAnswer_7 : decode nb_F_castIntoAnswer 7 = .ok (.getfield 16, 3) := by decide +kernel
theorem d_F_castIntoAnswer_10 : decode nb_F_castIntoAnswer 10 = .ok (.iload_n 2, 1) := by decide +kernel
theorem d_F_castIntoAnswer_11 : decode nb_F_castIntoAnswer 11 = .ok (.aload_n 1, 1) := by decide +kernel
theorem d_F_castIntoAnswer_12 : decode nb_F_castIntoAnswer 12 = .ok (.invokevirtual 154, 3) := by decide +kernel
theorem d_F_castIntoAnswer_15 : decode nb_F_castIntoAnswer 15 = .ok (.invokevirtual 94, 3) := by decide +kernel
theorem d_F_castIntoAnswer_18 : decode nb_F_castIntoAnswer 18 = .ok (.goto 90, 3) := by decide +kernel
theorem d_F_castIntoAnswer_21 : decode nb_F_castIntoAnswer 21 = .ok (.iload_n 2, 1) := by decide +kernel
theorem d_F_castIntoAnswer_22 : decode nb_F_castIntoAnswer 22 = .ok (.bipush 8, 2) := by decide +kernel
theorem d_F_castIntoAnswer_24 : decode nb_F_castIntoAnswer 24 = .ok (.if_icmp .ne 19, 3) := by decide +kernel
theorem d_F_castIntoAnswer_27 : decode nb_F_castIntoAnswer 27 = .ok (.aload_n 0, 1) := by decide +kernel
theorem d_F_castIntoAnswer_28 : decode nb_F_castIntoAnswer 28 = .ok (.getfield 16, 3) := by decide +kernel
theorem d_F_castIntoAnswer_31 : decode nb_F_castIntoAnswer 31 = .ok (.iload_n 2, 1) := by decide +kernel
theorem d_F_castIntoAnswer_32 : decode nb_F_castIntoAnswer 32 = .ok (.aload_n 1, 1) := by decide +kernel
theorem d_F_castIntoAnswer_33 : decode nb_F_castIntoAnswer 33 = .ok (.invokevirtual 161, 3) := by decide +kernel
theorem d_F_castIntoAnswer_36 : decode nb_F_castIntoAnswer 36 = .ok (.f2d, 1) := by decide +kernel
theorem d_F_castIntoAnswer_37 : decode nb_F_castIntoAnswer 37 = .ok (.invokevirtual 94, 3) := by decide +kernel
theorem d_F_castIntoAnswer_40 : decode nb_F_castIntoAnswer 40 = .ok (.goto 68, 3) := by decide +kernel
theorem d_F_castIntoAnswer_43 : decode nb_F_castIntoAnswer 43 = .ok (.aload_n 1, 1) := by decide +kernel
theorem d_F_castIntoAnswer_44 : decode nb_F_castIntoAnswer 44 = .ok (.invokevirtual 124, 3) := by decide +kernel
theorem d_F_castIntoAnswer_47 : decode nb_F_castIntoAnswer 47 = .ok (.ifCond .eq 15, 3) := by decide +kernel
theorem d_F_castIntoAnswer_50 : decode nb_F_castIntoAnswer 50 = .ok (.aload_n 0, 1) := by decide +kernel
theorem d_F_castIntoAnswer_51 : decode nb_F_castIntoAnswer 51 = .ok (.aload_n 1, 1) := by decide +kernel
theorem d_F_castIntoAnswer_52 : decode nb_F_castIntoAnswer 52 = .ok (.getfield 138, 3) := by decide +kernel
theorem d_F_castIntoAnswer_55 : decode nb_F_castIntoAnswer 55 = .ok (.iload_n 2, 1) := by decide +kernel
theorem d_F_castIntoAnswer_56 : decode nb_F_castIntoAnswer 56 = .ok (.invokevirtual 410, 3) := by decide +kernel
theorem d_F_castIntoAnswer_59 : decode nb_F_castIntoAnswer 59 = .ok (.goto 49, 3) := by decide +kernel
theorem d_F_castIntoAnswer_62 : decode nb_F_castIntoAnswer 62 = .ok (.iload_n 2, 1) := by decide +kernel
theorem d_F_castIntoAnswer_63 : decode nb_F_castIntoAnswer 63 = .ok (.ifCond .ne 22, 3) := by decide +kernel
theorem d_F_castIntoAnswer_66 : decode nb_F_castIntoAnswer 66 = .ok (.aload_n 0, 1) := by decide +kernel
theorem d_F_castIntoAnswer_67 : decode nb_F_castIntoAnswer 67 = .ok (.getfield 16, 3) := by decide +kernel
theorem d_F_castIntoAnswer_70 : decode nb_F_castIntoAnswer 70 = .ok (.iload_n 2, 1) := by decide +kernel
theorem d_F_castIntoAnswer_71 : decode nb_F_castIntoAnswer 71 = .ok (.aload_n 1, 1) := by decide +kernel
theorem d_F_castIntoAnswer_72 : decode nb_F_castIntoAnswer 72 = .ok (.getfield 110, 3) := by decide +kernel
theorem d_F_castIntoAnswer_75 : decode nb_F_castIntoAnswer 75 = .ok (.aload_n 1, 1) := by decide +kernel
theorem d_F_castIntoAnswer_76 : decode nb_F_castIntoAnswer 76 = .ok (.getfield 176, 3) := by decide +kernel
theorem d_F_castIntoAnswer_79 : decode nb_F_castIntoAnswer 79 = .ok (.invokevirtual 106, 3) := by decide +kernel
theorem d_F_castIntoAnswer_82 : decode nb_F_castIntoAnswer 82 = .ok (.goto 26, 3) := by decide +kernel
theorem d_F_castIntoAnswer_85 : decode nb_F_castIntoAnswer 85 = .ok (.aload_n 0, 1) := by decide +kernel
theorem d_F_castIntoAnswer_86 : decode nb_F_castIntoAnswer 86 = .ok (.getfield 16, 3) := by decide +kernel
theorem d_F_castIntoAnswer_89 : decode nb_F_castIntoAnswer 89 = .ok (.iload_n 2, 1) := by decide +kernel
theorem d_F_castIntoAnswer_90 : decode nb_F_castIntoAnswer 90 = .ok (.aload_n 1, 1) := by decide +kernel
theorem d_F_castIntoAnswer_91 : decode nb_F_castIntoAnswer 91 = .ok (.getfield 110, 3) := by decide +kernel
theorem d_F_castIntoAnswer_94 : decode nb_F_castIntoAnswer 94 = .ok (.aload_n 1, 1) := by decide +kernel
theorem d_F_castIntoAnswer_95 : decode nb_F_castIntoAnswer 95 = .ok (.getfield 176, 3) := by decide +kernel
theorem d_F_castIntoAnswer_98 : decode nb_F_castIntoAnswer 98 = .ok (.invokestatic 275, 3) := by decide +kernel
theorem d_F_castIntoAnswer_101 : decode nb_F_castIntoAnswer 101 = .ok (.invokestatic 260, 3) := by decide +kernel
theorem d_F_castIntoAnswer_104 : decode nb_F_castIntoAnswer 104 = .ok (.iconst 0, 1) := by decide +kernel
theorem d_F_castIntoAnswer_105 : decode nb_F_castIntoAnswer 105 = .ok (.invokevirtual 106, 3) := by decide +kernel
theorem d_F_castIntoAnswer_108 : decode nb_F_castIntoAnswer 108 = .ok (.iload_n 2, 1) := by decide +kernel
theorem d_F_castIntoAnswer_109 : decode nb_F_castIntoAnswer 109 = .ok (.iconst 1, 1) := by decide +kernel
theorem d_F_castIntoAnswer_110 : decode nb_F_castIntoAnswer 110 = .ok (.if_icmp .le 20, 3) := by decide +kernel
theorem d_F_castIntoAnswer_113 : decode nb_F_castIntoAnswer 113 = .ok (.iload_n 2, 1) := by decide +kernel
theorem d_F_castIntoAnswer_114 : decode nb_F_castIntoAnswer 114 = .ok (.bipush 8, 2) := by decide +kernel
theorem d_F_castIntoAnswer_116 : decode nb_F_castIntoAnswer 116 = .ok (.if_icmp .ge 14, 3) := by decide +kernel
theorem d_F_castIntoAnswer_119 : decode nb_F_castIntoAnswer 119 = .ok (.aload_n 0, 1) := by decide +kernel
theorem d_F_castIntoAnswer_120 : decode nb_F_castIntoAnswer 120 = .ok (.getfield 16, 3) := by decide +kernel
theorem d_F_castIntoAnswer_123 : decode nb_F_castIntoAnswer 123 = .ok (.getfield 110, 3) := by decide +kernel
theorem d_F_castIntoAnswer_126 : decode nb_F_castIntoAnswer 126 = .ok (.iload_n 2, 1) := by decide +kernel
theorem d_F_castIntoAnswer_127 : decode nb_F_castIntoAnswer 127 = .ok (.invokestatic 113, 3) := by decide +kernel
theorem d_F_castIntoAnswer_130 : decode nb_F_castIntoAnswer 130 = .ok (.return_, 1) := by decide +kernel
abbrev rm_F_castIntoAnswer : Room := ({ frames := 8, cells := 3, slots := 18, locals := 150 })
theorem w_F_castIntoAnswer_130 {post : Unit → nf_M → Prop} (hfl : l.flags = flags0) (K : nf_K p s m args meth c "NumberForge" nb_F_castIntoAnswer 3 none D a sz) : ∀ (M : nf_M) (H : Heap) (locs : List Loc) (ls : Array Slot), B_F_castIntoAnswer_130 post ex  M → lv_has ls 3 [] → nf_W D a s sz H locs M → W p l e rm_F_castIntoAnswer s m args below meth c H locs 3 18 (nf_MQ below (nf_Q nf_jN D a post ex (nf_A a sz)) args s rm_F_castIntoAnswer.cells rm_F_castIntoAnswer.slots (nf_A a sz)) (F0 m 130 ls []) := by
  have hx := K.1
  have hb := K.2.1
  intro  M H locs ls h hl hw
  exact nf_vret K hw d_F_castIntoAnswer_130 (Nat.le_of_ble_eq_true rfl) (Nat.le_of_ble_eq_true rfl) (r := ()) rfl h
theorem w_F_castIntoAnswer_108 {post : Unit → nf_M → Prop} (hfl : l.flags = flags0) (K : nf_K p s m args meth c "NumberForge" nb_F_castIntoAnswer 3 none D a sz) : ∀ (x2 : Int32) (M : nf_M) (H : Heap) (locs : List Loc) (ls : Array Slot), B_F_castIntoAnswer_108 post ex x2 M → lv_has ls 3 [(0, .ref (a 0)), (2, .int x2)] → nf_W D a s sz H locs M → W p l e rm_F_castIntoAnswer s m args below meth c H locs 2 12 (nf_MQ below (nf_Q nf_jN D a post ex (nf_A a sz)) args s rm_F_castIntoAnswer.cells rm_F_castIntoAnswer.slots (nf_A a sz)) (F0 m 108 ls []) := by
  have hx := K.1
  have hb := K.2.1
  intro x2 M H locs ls h hl hw
  refine lv_iload_n hx hb d_F_castIntoAnswer_108 rfl (lv_at hl 1 rfl) ?_
  refine lv_iconst (v := (1 : Int32)) hx hb d_F_castIntoAnswer_109 (by decide) ?_
  refine nf_ic_le hx hb d_F_castIntoAnswer_110 (tgt := 130) (by decide) (fun hc => ?_) (fun hc => ?_)
  · have h := h.1 hc
    refine lv_iload_n hx hb d_F_castIntoAnswer_113 rfl (lv_at hl 1 rfl) ?_
    refine lv_bipush (v := (8 : Int32)) hx hb d_F_castIntoAnswer_114 (by decide) ?_
    refine nf_ic_ge hx hb d_F_castIntoAnswer_116 (tgt := 130) (by decide) (fun hc => ?_) (fun hc => ?_)
    · have h := h.1 hc
      refine lv_aload_n hx hb d_F_castIntoAnswer_119 rfl (lv_at hl 0 rfl) ?_
      refine nf_get (v := .ref (a (10 + ((0 : Fin 9) : Fin 9).val))) K hw 0 6 1 nw_169 rfl rfl ni_F (by decide) rfl rfl d_F_castIntoAnswer_120 ?_
      refine nf_getN (v := .long (mg_U M (0 : Fin 9))) K hw (10 + ((0 : Fin 9) : Fin 9).val) 4 1 nv_41 (nf_heV _ _ _) rfl ni_V (by decide) rfl rfl d_F_castIntoAnswer_123 ?_
      refine lv_iload_n hx hb d_F_castIntoAnswer_126 rfl (lv_at hl 1 rfl) ?_
      refine nf_callW (ex := ex) (As := [.long (mg_U M (0 : Fin 9)), .int x2]) (st0 := [.int x2, .long (mg_U M (0 : Fin 9))]) (rest := []) K hw (nf_invS hx hb K.2.2.2.1 (nf_Kg K nw_421) (nf_Kg K nw_422) (nf_Kg K nw_1) (nf_Kg K nw_423) ⟨by decide, by decide⟩ rfl nl_F_checkFits rfl d_F_castIntoAnswer_127) (c_F_checkFits l hfl (mg_U M (0 : Fin 9)) x2) nw_423 nw_1 rfl ⟨by decide, by decide⟩ (Nat.le_of_ble_eq_true rfl) hl.1 ⟨Nat.le_of_ble_eq_true rfl, Nat.le_of_ble_eq_true rfl⟩ h (fun _ _ h => h) (fun r1 M2 H locs h hw => ?_)
      refine W.eq (g2 := F0 m 130 ls []) rfl ?_
      refine W.widen (k := 3) (n := 18) (by decide) (by decide) ?_
      exact w_F_castIntoAnswer_130 hfl K  M2 _ _ _ h (lv_sub hl [] rfl) hw
    · have h := h.2 hc
      refine W.widen (k := 3) (n := 18) (by decide) (by decide) ?_
      exact w_F_castIntoAnswer_130 hfl K  M _ _ _ h (lv_sub hl [] rfl) hw
  · have h := h.2 hc
    refine W.widen (k := 3) (n := 18) (by decide) (by decide) ?_
    exact w_F_castIntoAnswer_130 hfl K  M _ _ _ h (lv_sub hl [] rfl) hw
theorem c_F_castIntoAnswer (l : Launch) (hfl : l.flags = flags0) (v1 : Fin 9) (x2 : Int32) : nf_C nf_jN l nm_F_castIntoAnswer nb_F_castIntoAnswer 3 none rm_F_castIntoAnswer (fun a => [.ref (a 0), .ref (a (10 + (v1 : Fin 9).val)), .int x2]) (fun M post ex => P_F_castIntoAnswer v1 x2 M post ex) := by
  refine nf_start (plainFor_of_name (by decide +kernel)) (fun a => Nat.le_of_ble_eq_true rfl) ?_
  intro D a sz M post ex p e s m below meth c ls h K hl hw
  have hx := K.1
  have hb := K.2.1
  have hl : lv_has ls 3 [(0, .ref (a 0)), (1, .ref (a (10 + (v1 : Fin 9).val))), (2, .int x2)] := hl
  refine lv_iload_n hx hb d_F_castIntoAnswer_0 rfl (lv_at hl 2 rfl) ?_
  refine lv_bipush (v := (9 : Int32)) hx hb d_F_castIntoAnswer_1 (by decide) ?_
  refine nf_ic_ne hx hb d_F_castIntoAnswer_3 (tgt := 21) (by decide) (fun hc => ?_) (fun hc => ?_)
  · have h := h.1 hc
    refine lv_aload_n hx hb d_F_castIntoAnswer_6 rfl (lv_at hl 0 rfl) ?_
    refine nf_get (v := .ref (a (10 + ((0 : Fin 9) : Fin 9).val))) K hw 0 6 1 nw_169 rfl rfl ni_F (by decide) rfl rfl d_F_castIntoAnswer_7 ?_
    refine lv_iload_n hx hb d_F_castIntoAnswer_10 rfl (lv_at hl 2 rfl) ?_
    refine lv_aload_n hx hb d_F_castIntoAnswer_11 rfl (lv_at hl 1 rfl) ?_
    refine nf_callW (ex := (fun _ _ => False)) (As := [.ref (a (10 + (v1 : Fin 9).val))]) (st0 := [.ref (a (10 + (v1 : Fin 9).val)), .int x2, .ref (a (10 + ((0 : Fin 9) : Fin 9).val))]) (rest := [.int x2, .ref (a (10 + ((0 : Fin 9) : Fin 9).val))]) K hw (nf_invVN hx hb K.2.2.2.1 ((nf_Kr K nv_476).use rfl) (nf_Kg K nw_478) (nf_Kg K nx_V_asDouble) (nf_Kg K nw_479) ⟨by decide, by decide⟩ (nf_rcv K hw (10 + (v1 : Fin 9).val) 4 (nf_heV _ _ _) rfl) rfl nl_V_asDouble rfl d_F_castIntoAnswer_12) (c_V_asDouble l hfl v1) nw_479 nw_2 rfl ⟨by decide, by decide⟩ (Nat.le_of_ble_eq_true rfl) hl.1 ⟨Nat.le_of_ble_eq_true rfl, Nat.le_of_ble_eq_true rfl⟩ h (fun _ _ h => h.elim) (fun r1 M2 H locs h hw => ?_)
    refine W.eq (g2 := F0 m 15 ls [.double r1, .int x2, .ref (a (10 + ((0 : Fin 9) : Fin 9).val))]) rfl ?_
    refine nf_callW (ex := (fun _ _ => False)) (As := [.ref (a (10 + ((0 : Fin 9) : Fin 9).val)), .int x2, .double r1]) (st0 := [.double r1, .int x2, .ref (a (10 + ((0 : Fin 9) : Fin 9).val))]) (rest := []) K hw (nf_invVN hx hb K.2.2.2.1 ((nf_Kr K nv_404).use rfl) (nf_Kg K nw_406) (nf_Kg K nx_V_becomeFloating) (nf_Kg K nw_407) ⟨by decide, by decide⟩ (nf_rcv K hw (10 + ((0 : Fin 9) : Fin 9).val) 4 (nf_heV _ _ _) rfl) rfl nl_V_becomeFloating rfl d_F_castIntoAnswer_15) (c_V_becomeFloating l hfl (0 : Fin 9) x2 r1) nw_407 nw_2 rfl ⟨by decide, by decide⟩ (Nat.le_of_ble_eq_true rfl) hl.1 ⟨Nat.le_of_ble_eq_true rfl, Nat.le_of_ble_eq_true rfl⟩ h (fun _ _ h => h.elim) (fun r3 M4 H locs h hw => ?_)
    refine W.eq (g2 := F0 m 18 ls []) rfl ?_
    refine lv_goto hx hb d_F_castIntoAnswer_18 (tgt := 108) (by decide) ?_
    refine W.widen (k := 2) (n := 12) (by decide) (by decide) ?_
    exact w_F_castIntoAnswer_108 hfl K x2 M4 _ _ _ h (lv_sub hl [0, 2] rfl) hw
  · have h := h.2 hc
    refine lv_iload_n hx hb d_F_castIntoAnswer_21 rfl (lv_at hl 2 rfl) ?_
    refine lv_bipush (v := (8 : Int32)) hx hb d_F_castIntoAnswer_22 (by decide) ?_
    refine nf_ic_ne hx hb d_F_castIntoAnswer_24 (tgt := 43) (by decide) (fun hc => ?_) (fun hc => ?_)
    · have h := h.1 hc
      refine lv_aload_n hx hb d_F_castIntoAnswer_27 rfl (lv_at hl 0 rfl) ?_
      refine nf_get (v := .ref (a (10 + ((0 : Fin 9) : Fin 9).val))) K hw 0 6 1 nw_169 rfl rfl ni_F (by decide) rfl rfl d_F_castIntoAnswer_28 ?_
      refine lv_iload_n hx hb d_F_castIntoAnswer_31 rfl (lv_at hl 2 rfl) ?_
      refine lv_aload_n hx hb d_F_castIntoAnswer_32 rfl (lv_at hl 1 rfl) ?_
      refine nf_callW (ex := (fun _ _ => False)) (As := [.ref (a (10 + (v1 : Fin 9).val))]) (st0 := [.ref (a (10 + (v1 : Fin 9).val)), .int x2, .ref (a (10 + ((0 : Fin 9) : Fin 9).val))]) (rest := [.int x2, .ref (a (10 + ((0 : Fin 9) : Fin 9).val))]) K hw (nf_invVN hx hb K.2.2.2.1 ((nf_Kr K nv_482).use rfl) (nf_Kg K nw_484) (nf_Kg K nx_V_asFloat) (nf_Kg K nw_485) ⟨by decide, by decide⟩ (nf_rcv K hw (10 + (v1 : Fin 9).val) 4 (nf_heV _ _ _) rfl) rfl nl_V_asFloat rfl d_F_castIntoAnswer_33) (c_V_asFloat l hfl v1) nw_485 nw_2 rfl ⟨by decide, by decide⟩ (Nat.le_of_ble_eq_true rfl) hl.1 ⟨Nat.le_of_ble_eq_true rfl, Nat.le_of_ble_eq_true rfl⟩ h (fun _ _ h => h.elim) (fun r5 M6 H locs h hw => ?_)
      refine W.eq (g2 := F0 m 36 ls [.float r5, .int x2, .ref (a (10 + ((0 : Fin 9) : Fin 9).val))]) rfl ?_
      obtain ⟨g7, h⟩ := h
      refine lv_f2d hx hb d_F_castIntoAnswer_36 g7 ?_
      refine nf_callW (ex := (fun _ _ => False)) (As := [.ref (a (10 + ((0 : Fin 9) : Fin 9).val)), .int x2, .double (FP.f2d r5)]) (st0 := [.double (FP.f2d r5), .int x2, .ref (a (10 + ((0 : Fin 9) : Fin 9).val))]) (rest := []) K hw (nf_invVN hx hb K.2.2.2.1 ((nf_Kr K nv_404).use rfl) (nf_Kg K nw_406) (nf_Kg K nx_V_becomeFloating) (nf_Kg K nw_407) ⟨by decide, by decide⟩ (nf_rcv K hw (10 + ((0 : Fin 9) : Fin 9).val) 4 (nf_heV _ _ _) rfl) rfl nl_V_becomeFloating rfl d_F_castIntoAnswer_37) (c_V_becomeFloating l hfl (0 : Fin 9) x2 (FP.f2d r5)) nw_407 nw_2 rfl ⟨by decide, by decide⟩ (Nat.le_of_ble_eq_true rfl) hl.1 ⟨Nat.le_of_ble_eq_true rfl, Nat.le_of_ble_eq_true rfl⟩ h (fun _ _ h => h.elim) (fun r8 M9 H locs h hw => ?_)
      refine W.eq (g2 := F0 m 40 ls []) rfl ?_
      refine lv_goto hx hb d_F_castIntoAnswer_40 (tgt := 108) (by decide) ?_
      refine W.widen (k := 2) (n := 12) (by decide) (by decide) ?_
      exact w_F_castIntoAnswer_108 hfl K x2 M9 _ _ _ h (lv_sub hl [0, 2] rfl) hw
    · have h := h.2 hc
      refine lv_aload_n hx hb d_F_castIntoAnswer_43 rfl (lv_at hl 1 rfl) ?_
      refine nf_callW (ex := (fun _ _ => False)) (As := [.ref (a (10 + (v1 : Fin 9).val))]) (st0 := [.ref (a (10 + (v1 : Fin 9).val))]) (rest := []) K hw (nf_invVN hx hb K.2.2.2.1 ((nf_Kr K nv_468).use rfl) (nf_Kg K nw_470) (nf_Kg K nx_V_isFloating) (nf_Kg K nw_471) ⟨by decide, by decide⟩ (nf_rcv K hw (10 + (v1 : Fin 9).val) 4 (nf_heV _ _ _) rfl) rfl nl_V_isFloating rfl d_F_castIntoAnswer_44) (c_V_isFloating l hfl v1) nw_471 nw_2 rfl ⟨by decide, by decide⟩ (Nat.le_of_ble_eq_true rfl) hl.1 ⟨Nat.le_of_ble_eq_true rfl, Nat.le_of_ble_eq_true rfl⟩ h (fun _ _ h => h.elim) (fun r10 M11 H locs h hw => ?_)
      refine W.eq (g2 := F0 m 47 ls [.int r10]) rfl ?_
      refine nf_if_eq hx hb d_F_castIntoAnswer_47 (tgt := 62) (by decide) (fun hc => ?_) (fun hc => ?_)
      · have h := h.1 hc
        refine lv_iload_n hx hb d_F_castIntoAnswer_62 rfl (lv_at hl 2 rfl) ?_
        refine nf_if_ne hx hb d_F_castIntoAnswer_63 (tgt := 85) (by decide) (fun hc => ?_) (fun hc => ?_)
        · have h := h.1 hc
          refine lv_aload_n hx hb d_F_castIntoAnswer_66 rfl (lv_at hl 0 rfl) ?_
          refine nf_get (v := .ref (a (10 + ((0 : Fin 9) : Fin 9).val))) K hw 0 6 1 nw_169 rfl rfl ni_F (by decide) rfl rfl d_F_castIntoAnswer_67 ?_
          refine lv_iload_n hx hb d_F_castIntoAnswer_70 rfl (lv_at hl 2 rfl) ?_
          refine lv_aload_n hx hb d_F_castIntoAnswer_71 rfl (lv_at hl 1 rfl) ?_
          refine nf_getN (v := .long (mg_U M11 v1)) K hw (10 + (v1 : Fin 9).val) 4 1 nv_41 (nf_heV _ _ _) rfl ni_V (by decide) rfl rfl d_F_castIntoAnswer_72 ?_
          refine lv_aload_n hx hb d_F_castIntoAnswer_75 rfl (lv_at hl 1 rfl) ?_
          refine nf_getN (v := .int (mg_S M11 v1)) K hw (10 + (v1 : Fin 9).val) 4 2 nv_45 (nf_heV _ _ _) rfl ni_V (by decide) rfl rfl d_F_castIntoAnswer_76 ?_
          refine nf_callW (ex := (fun _ _ => False)) (As := [.ref (a (10 + ((0 : Fin 9) : Fin 9).val)), .int x2, .long (mg_U M11 v1), .int (mg_S M11 v1)]) (st0 := [.int (mg_S M11 v1), .long (mg_U M11 v1), .int x2, .ref (a (10 + ((0 : Fin 9) : Fin 9).val))]) (rest := []) K hw (nf_invVN hx hb K.2.2.2.1 ((nf_Kr K nv_417).use rfl) (nf_Kg K nw_419) (nf_Kg K nx_V_becomeUnits) (nf_Kg K nw_420) ⟨by decide, by decide⟩ (nf_rcv K hw (10 + ((0 : Fin 9) : Fin 9).val) 4 (nf_heV _ _ _) rfl) rfl nl_V_becomeUnits rfl d_F_castIntoAnswer_79) (c_V_becomeUnits l hfl (0 : Fin 9) x2 (mg_U M11 v1) (mg_S M11 v1)) nw_420 nw_2 rfl ⟨by decide, by decide⟩ (Nat.le_of_ble_eq_true rfl) hl.1 ⟨Nat.le_of_ble_eq_true rfl, Nat.le_of_ble_eq_true rfl⟩ h (fun _ _ h => h.elim) (fun r12 M13 H locs h hw => ?_)
          refine W.eq (g2 := F0 m 82 ls []) rfl ?_
          refine lv_goto hx hb d_F_castIntoAnswer_82 (tgt := 108) (by decide) ?_
          refine W.widen (k := 2) (n := 12) (by decide) (by decide) ?_
          exact w_F_castIntoAnswer_108 hfl K x2 M13 _ _ _ h (lv_sub hl [0, 2] rfl) hw
        · have h := h.2 hc
          refine lv_aload_n hx hb d_F_castIntoAnswer_85 rfl (lv_at hl 0 rfl) ?_
          refine nf_get (v := .ref (a (10 + ((0 : Fin 9) : Fin 9).val))) K hw 0 6 1 nw_169 rfl rfl ni_F (by decide) rfl rfl d_F_castIntoAnswer_86 ?_
          refine lv_iload_n hx hb d_F_castIntoAnswer_89 rfl (lv_at hl 2 rfl) ?_
          refine lv_aload_n hx hb d_F_castIntoAnswer_90 rfl (lv_at hl 1 rfl) ?_
          refine nf_getN (v := .long (mg_U M11 v1)) K hw (10 + (v1 : Fin 9).val) 4 1 nv_41 (nf_heV _ _ _) rfl ni_V (by decide) rfl rfl d_F_castIntoAnswer_91 ?_
          refine lv_aload_n hx hb d_F_castIntoAnswer_94 rfl (lv_at hl 1 rfl) ?_
          refine nf_getN (v := .int (mg_S M11 v1)) K hw (10 + (v1 : Fin 9).val) 4 2 nv_45 (nf_heV _ _ _) rfl ni_V (by decide) rfl rfl d_F_castIntoAnswer_95 ?_
          refine nf_callW (ex := (fun _ _ => False)) (As := [.int (mg_S M11 v1)]) (st0 := [.int (mg_S M11 v1), .long (mg_U M11 v1), .int x2, .ref (a (10 + ((0 : Fin 9) : Fin 9).val))]) (rest := [.long (mg_U M11 v1), .int x2, .ref (a (10 + ((0 : Fin 9) : Fin 9).val))]) K hw (nf_invS hx hb K.2.2.2.1 (nf_Kg K nw_548) (nf_Kg K nw_352) (nf_Kg K nw_1) (nf_Kg K nw_353) ⟨by decide, by decide⟩ rfl nl_F_power rfl d_F_castIntoAnswer_98) (c_F_power l hfl (mg_S M11 v1)) nw_353 nw_1 rfl ⟨by decide, by decide⟩ (Nat.le_of_ble_eq_true rfl) hl.1 ⟨Nat.le_of_ble_eq_true rfl, Nat.le_of_ble_eq_true rfl⟩ h (fun _ _ h => h.elim) (fun r14 M15 H locs h hw => ?_)
          refine W.eq (g2 := F0 m 101 ls [.long r14, .long (mg_U M11 v1), .int x2, .ref (a (10 + ((0 : Fin 9) : Fin 9).val))]) rfl ?_
          refine nf_callW (ex := (fun _ _ => False)) (As := [.long (mg_U M11 v1), .long r14]) (st0 := [.long r14, .long (mg_U M11 v1), .int x2, .ref (a (10 + ((0 : Fin 9) : Fin 9).val))]) (rest := [.int x2, .ref (a (10 + ((0 : Fin 9) : Fin 9).val))]) K hw (nf_invS hx hb K.2.2.2.1 (nf_Kg K nw_553) (nf_Kg K nw_554) (nf_Kg K nw_1) (nf_Kg K nw_555) ⟨by decide, by decide⟩ rfl nl_F_over rfl d_F_castIntoAnswer_101) (c_F_over l hfl (mg_U M11 v1) r14) nw_555 nw_1 rfl ⟨by decide, by decide⟩ (Nat.le_of_ble_eq_true rfl) hl.1 ⟨Nat.le_of_ble_eq_true rfl, Nat.le_of_ble_eq_true rfl⟩ h (fun _ _ h => h.elim) (fun r16 M17 H locs h hw => ?_)
          refine W.eq (g2 := F0 m 104 ls [.long r16, .int x2, .ref (a (10 + ((0 : Fin 9) : Fin 9).val))]) rfl ?_
          refine lv_iconst (v := (0 : Int32)) hx hb d_F_castIntoAnswer_104 (by decide) ?_
          refine nf_callW (ex := (fun _ _ => False)) (As := [.ref (a (10 + ((0 : Fin 9) : Fin 9).val)), .int x2, .long r16, .int (0 : Int32)]) (st0 := [.int (0 : Int32), .long r16, .int x2, .ref (a (10 + ((0 : Fin 9) : Fin 9).val))]) (rest := []) K hw (nf_invVN hx hb K.2.2.2.1 ((nf_Kr K nv_417).use rfl) (nf_Kg K nw_419) (nf_Kg K nx_V_becomeUnits) (nf_Kg K nw_420) ⟨by decide, by decide⟩ (nf_rcv K hw (10 + ((0 : Fin 9) : Fin 9).val) 4 (nf_heV _ _ _) rfl) rfl nl_V_becomeUnits rfl d_F_castIntoAnswer_105) (c_V_becomeUnits l hfl (0 : Fin 9) x2 r16 (0 : Int32)) nw_420 nw_2 rfl ⟨by decide, by decide⟩ (Nat.le_of_ble_eq_true rfl) hl.1 ⟨Nat.le_of_ble_eq_true rfl, Nat.le_of_ble_eq_true rfl⟩ h (fun _ _ h => h.elim) (fun r18 M19 H locs h hw => ?_)
          refine W.eq (g2 := F0 m 108 ls []) rfl ?_
          refine W.widen (k := 2) (n := 12) (by decide) (by decide) ?_
          exact w_F_castIntoAnswer_108 hfl K x2 M19 _ _ _ h (lv_sub hl [0, 2] rfl) hw
      · have h := h.2 hc
        refine lv_aload_n hx hb d_F_castIntoAnswer_50 rfl (lv_at hl 0 rfl) ?_
        refine lv_aload_n hx hb d_F_castIntoAnswer_51 rfl (lv_at hl 1 rfl) ?_
        refine nf_getN (v := .double (mg_R M11 v1)) K hw (10 + (v1 : Fin 9).val) 4 3 nv_47 (nf_heV _ _ _) rfl ni_V (by decide) rfl rfl d_F_castIntoAnswer_52 ?_
        refine lv_iload_n hx hb d_F_castIntoAnswer_55 rfl (lv_at hl 2 rfl) ?_
        refine nf_callW (ex := ex) (As := [.ref (a 0), .double (mg_R M11 v1), .int x2]) (st0 := [.int x2, .double (mg_R M11 v1), .ref (a 0)]) (rest := []) K hw (nf_invV hx hb K.2.2.2.1 (nf_Kg K nw_677) (nf_Kg K nw_679) (nf_Kg K nx_F_castFloating) (nf_Kg K nw_680) ⟨by decide, by decide⟩ (nf_rcv K hw 0 6 rfl rfl) rfl nl_F_castFloating rfl d_F_castIntoAnswer_56) (c_F_castFloating l hfl (mg_R M11 v1) x2) nw_680 nw_1 rfl ⟨by decide, by decide⟩ (Nat.le_of_ble_eq_true rfl) hl.1 ⟨Nat.le_of_ble_eq_true rfl, Nat.le_of_ble_eq_true rfl⟩ h (fun _ _ h => h) (fun r20 M21 H locs h hw => ?_)
        refine W.eq (g2 := F0 m 59 ls []) rfl ?_
        refine W.widen (k := 2) (n := 12) (by decide) (by decide) ?_
        refine lv_goto hx hb d_F_castIntoAnswer_59 (tgt := 108) (by decide) ?_
        exact w_F_castIntoAnswer_108 hfl K x2 M21 _ _ _ h (lv_sub hl [0, 2] rfl) hw
theorem d_F_cast_0 : decode nb_F_cast 0 = .ok (.aload_n 0, 1) := by decide +kernel
theorem d_F_cast_1 : decode nb_F_cast 1 = .ok (.iload_n 3, 1) := by decide +kernel
theorem d_F_cast_2 : decode nb_F_cast 2 = .ok (.invokevirtual 71, 3) := by decide +kernel
theorem d_F_cast_5 : decode nb_F_cast 5 = .ok (.astore 4, 2) := by decide +kernel
theorem d_F_cast_7 : decode nb_F_cast 7 = .ok (.aload_n 0, 1) := by decide +kernel
theorem d_F_cast_8 : decode nb_F_cast 8 = .ok (.iload_n 1, 1) := by decide +kernel
theorem d_F_cast_9 : decode nb_F_cast 9 = .ok (.invokevirtual 71, 3) := by decide +kernel
theorem d_F_cast_12 : decode nb_F_cast 12 = .ok (.astore 5, 2) := by decide +kernel
theorem d_F_cast_14 : decode nb_F_cast 14 = .ok (.iload_n 2, 1) := by decide +kernel
theorem d_F_cast_15 : decode nb_F_cast 15 = .ok (.bipush 10, 2) := by decide +kernel
theorem d_F_cast_17 : decode nb_F_cast 17 = .ok (.invokestatic 75, 3) := by decide +kernel
theorem d_F_cast_20 : decode nb_F_cast 20 = .ok (.aload 5, 2) := by decide +kernel
theorem d_F_cast_22 : decode nb_F_cast 22 = .ok (.invokestatic 121, 3) := by decide +kernel
theorem d_F_cast_25 : decode nb_F_cast 25 = .ok (.aload_n 0, 1) := by decide +kernel
theorem d_F_cast_26 : decode nb_F_cast 26 = .ok (.aload 5, 2) := by decide +kernel
theorem d_F_cast_28 : decode nb_F_cast 28 = .ok (.iload_n 2, 1) := by decide +kernel
theorem d_F_cast_29 : decode nb_F_cast 29 = .ok (.invokevirtual 150, 3) := by decide +kernel
theorem d_F_cast_32 : decode nb_F_cast 32 = .ok (.aload 4, 2) := by decide +kernel
theorem d_F_cast_34 : decode nb_F_cast 34 = .ok (.aload_n 0, 1) := by decide +kernel
theorem d_F_cast_35 : decode nb_F_cast 35 = .ok (.getfield 16, 3) := by decide +kernel
theorem d_F_cast_38 : decode nb_F_cast 38 = .ok (.invokevirtual 117, 3) := by decide +kernel
theorem d_F_cast_41 : decode nb_F_cast 41 = .ok (.return_, 1) := by decide +kernel
abbrev rm_F_cast : Room := ({ frames := 9, cells := 7, slots := 42, locals := 172 })
theorem c_F_cast (l : Launch) (hfl : l.flags = flags0) (x1 : Int32) (x2 : Int32) (x3 : Int32) : nf_C nf_jN l nm_F_cast nb_F_cast 6 none rm_F_cast (fun a => [.ref (a 0), .int x1, .int x2, .int x3]) (fun M post ex => P_F_cast x1 x2 x3 M post ex) := by
  refine nf_start (plainFor_of_name (by decide +kernel)) (fun a => Nat.le_of_ble_eq_true rfl) ?_
  intro D a sz M post ex p e s m below meth c ls h K hl hw
  have hx := K.1
  have hb := K.2.1
  have hl : lv_has ls 6 [(0, .ref (a 0)), (1, .int x1), (2, .int x2), (3, .int x3)] := hl
  refine lv_aload_n hx hb d_F_cast_0 rfl (lv_at hl 0 rfl) ?_
  refine lv_iload_n hx hb d_F_cast_1 rfl (lv_at hl 3 rfl) ?_
  refine nf_callW (ex := ex) (As := [.ref (a 0), .int x3]) (st0 := [.int x3, .ref (a 0)]) (rest := []) K hw (nf_invV hx hb K.2.2.2.1 (nf_Kg K nw_243) (nf_Kg K nw_245) (nf_Kg K nx_F_register) (nf_Kg K nw_246) ⟨by decide, by decide⟩ (nf_rcv K hw 0 6 rfl rfl) rfl nl_F_register rfl d_F_cast_2) (c_F_register l hfl x3) nw_246 nw_1 rfl ⟨by decide, by decide⟩ (Nat.le_of_ble_eq_true rfl) hl.1 ⟨Nat.le_of_ble_eq_true rfl, Nat.le_of_ble_eq_true rfl⟩ h (fun _ _ h => h) (fun r1 M2 H locs h hw => ?_)
  refine W.eq (g2 := F0 m 5 ls [.ref (a (10 + (r1 : Fin 9).val))]) rfl ?_
  refine W.widen (k := 1) (n := 6) (by decide) (by decide) ?_
  refine lv_astore (lv' := [(4, .ref (a (10 + (r1 : Fin 9).val))), (0, .ref (a 0)), (1, .int x1), (2, .int x2), (3, .int x3)]) hx hb d_F_cast_5 hl (by decide) rfl (fun ls hl => ?_)
  refine lv_aload_n hx hb d_F_cast_7 rfl (lv_at hl 1 rfl) ?_
  refine lv_iload_n hx hb d_F_cast_8 rfl (lv_at hl 2 rfl) ?_
  refine nf_callW (ex := ex) (As := [.ref (a 0), .int x1]) (st0 := [.int x1, .ref (a 0)]) (rest := []) K hw (nf_invV hx hb K.2.2.2.1 (nf_Kg K nw_243) (nf_Kg K nw_245) (nf_Kg K nx_F_register) (nf_Kg K nw_246) ⟨by decide, by decide⟩ (nf_rcv K hw 0 6 rfl rfl) rfl nl_F_register rfl d_F_cast_9) (c_F_register l hfl x1) nw_246 nw_1 rfl ⟨by decide, by decide⟩ (Nat.le_of_ble_eq_true rfl) hl.1 ⟨Nat.le_of_ble_eq_true rfl, Nat.le_of_ble_eq_true rfl⟩ h (fun _ _ h => h) (fun r3 M4 H locs h hw => ?_)
  refine W.eq (g2 := F0 m 12 ls [.ref (a (10 + (r3 : Fin 9).val))]) rfl ?_
  refine W.widen (k := 2) (n := 12) (by decide) (by decide) ?_
  refine lv_astore (lv' := [(5, .ref (a (10 + (r3 : Fin 9).val))), (4, .ref (a (10 + (r1 : Fin 9).val))), (0, .ref (a 0)), (1, .int x1), (2, .int x2), (3, .int x3)]) hx hb d_F_cast_12 hl (by decide) rfl (fun ls hl => ?_)
  refine lv_iload_n hx hb d_F_cast_14 rfl (lv_at hl 4 rfl) ?_
  refine lv_bipush (v := (10 : Int32)) hx hb d_F_cast_15 (by decide) ?_
  refine nf_callW (ex := ex) (As := [.int x2, .int (10 : Int32)]) (st0 := [.int (10 : Int32), .int x2]) (rest := []) K hw (nf_invS hx hb K.2.2.2.1 (nf_Kg K nw_317) (nf_Kg K nw_318) (nf_Kg K nw_1) (nf_Kg K nw_319) ⟨by decide, by decide⟩ rfl nl_F_checkIndex rfl d_F_cast_17) (c_F_checkIndex l hfl x2 (10 : Int32)) nw_319 nw_1 rfl ⟨by decide, by decide⟩ (Nat.le_of_ble_eq_true rfl) hl.1 ⟨Nat.le_of_ble_eq_true rfl, Nat.le_of_ble_eq_true rfl⟩ h (fun _ _ h => h) (fun r5 M6 H locs h hw => ?_)
  refine W.eq (g2 := F0 m 20 ls []) rfl ?_
  refine W.widen (k := 3) (n := 18) (by decide) (by decide) ?_
  refine lv_aload hx hb d_F_cast_20 (lv_at hl 0 rfl) ?_
  refine nf_callW (ex := ex) (As := [.ref (a (10 + (r3 : Fin 9).val))]) (st0 := [.ref (a (10 + (r3 : Fin 9).val))]) (rest := []) K hw (nf_invS hx hb K.2.2.2.1 (nf_Kg K nw_449) (nf_Kg K nw_450) (nf_Kg K nw_1) (nf_Kg K nw_451) ⟨by decide, by decide⟩ rfl nl_F_checkFull rfl d_F_cast_22) (c_F_checkFull l hfl r3) nw_451 nw_1 rfl ⟨by decide, by decide⟩ (Nat.le_of_ble_eq_true rfl) hl.1 ⟨Nat.le_of_ble_eq_true rfl, Nat.le_of_ble_eq_true rfl⟩ h (fun _ _ h => h) (fun r7 M8 H locs h hw => ?_)
  refine W.eq (g2 := F0 m 25 ls []) rfl ?_
  refine W.widen (k := 4) (n := 24) (by decide) (by decide) ?_
  refine lv_aload_n hx hb d_F_cast_25 rfl (lv_at hl 2 rfl) ?_
  refine lv_aload hx hb d_F_cast_26 (lv_at hl 0 rfl) ?_
  refine lv_iload_n hx hb d_F_cast_28 rfl (lv_at hl 4 rfl) ?_
  refine nf_callW (ex := ex) (As := [.ref (a 0), .ref (a (10 + (r3 : Fin 9).val)), .int x2]) (st0 := [.int x2, .ref (a (10 + (r3 : Fin 9).val)), .ref (a 0)]) (rest := []) K hw (nf_invV hx hb K.2.2.2.1 (nf_Kg K nw_673) (nf_Kg K nw_675) (nf_Kg K nx_F_castIntoAnswer) (nf_Kg K nw_676) ⟨by decide, by decide⟩ (nf_rcv K hw 0 6 rfl rfl) rfl nl_F_castIntoAnswer rfl d_F_cast_29) (c_F_castIntoAnswer l hfl r3 x2) nw_676 nw_1 rfl ⟨by decide, by decide⟩ (Nat.le_of_ble_eq_true rfl) hl.1 ⟨Nat.le_of_ble_eq_true rfl, Nat.le_of_ble_eq_true rfl⟩ h (fun _ _ h => h) (fun r9 M10 H locs h hw => ?_)
  refine W.eq (g2 := F0 m 32 ls []) rfl ?_
  refine W.widen (k := 7) (n := 42) (by decide) (by decide) ?_
  refine lv_aload hx hb d_F_cast_32 (lv_at hl 1 rfl) ?_
  refine lv_aload_n hx hb d_F_cast_34 rfl (lv_at hl 2 rfl) ?_
  refine nf_get (v := .ref (a (10 + ((0 : Fin 9) : Fin 9).val))) K hw 0 6 1 nw_169 rfl rfl ni_F (by decide) rfl rfl d_F_cast_35 ?_
  refine nf_callW (ex := (fun _ _ => False)) (As := [.ref (a (10 + (r1 : Fin 9).val)), .ref (a (10 + ((0 : Fin 9) : Fin 9).val))]) (st0 := [.ref (a (10 + ((0 : Fin 9) : Fin 9).val)), .ref (a (10 + (r1 : Fin 9).val))]) (rest := []) K hw (nf_invVN hx hb K.2.2.2.1 ((nf_Kr K nv_429).use rfl) (nf_Kg K nw_431) (nf_Kg K nx_V_become) (nf_Kg K nw_432) ⟨by decide, by decide⟩ (nf_rcv K hw (10 + (r1 : Fin 9).val) 4 (nf_heV _ _ _) rfl) rfl nl_V_become rfl d_F_cast_38) (c_V_become l hfl r1 (0 : Fin 9)) nw_432 nw_2 rfl ⟨by decide, by decide⟩ (Nat.le_of_ble_eq_true rfl) hl.1 ⟨Nat.le_of_ble_eq_true rfl, Nat.le_of_ble_eq_true rfl⟩ h (fun _ _ h => h.elim) (fun r11 M12 H locs h hw => ?_)
  refine W.eq (g2 := F0 m 41 ls []) rfl ?_
  exact nf_vret K hw d_F_cast_41 (Nat.le_of_ble_eq_true rfl) (Nat.le_of_ble_eq_true rfl) (r := ()) rfl h
theorem d_F_order_0 : decode nb_F_order 0 = .ok (.dload_n 0, 1) := by decide +kernel
theorem d_F_order_1 : decode nb_F_order 1 = .ok (.dload_n 2, 1) := by decide +kernel
theorem d_F_order_2 : decode nb_F_order 2 = .ok (.dcmp .g, 1) := by decide +kernel
theorem d_F_order_3 : decode nb_F_order 3 = .ok (.ifCond .ge 7, 3) := by decide +kernel
theorem d_F_order_6 : decode nb_F_order 6 = .ok (.iconst (-1), 1) := by decide +kernel
theorem d_F_order_7 : decode nb_F_order 7 = .ok (.goto 14, 3) := by decide +kernel
theorem d_F_order_10 : decode nb_F_order 10 = .ok (.dload_n 0, 1) := by decide +kernel
theorem d_F_order_11 : decode nb_F_order 11 = .ok (.dload_n 2, 1) := by decide +kernel
theorem d_F_order_12 : decode nb_F_order 12 = .ok (.dcmp .l, 1) := by decide +kernel
theorem d_F_order_13 : decode nb_F_order 13 = .ok (.ifCond .le 7, 3) := by decide +kernel
theorem d_F_order_16 : decode nb_F_order 16 = .ok (.iconst 1, 1) := by decide +kernel
theorem d_F_order_17 : decode nb_F_order 17 = .ok (.goto 4, 3) := by decide +kernel
theorem d_F_order_20 : decode nb_F_order 20 = .ok (.iconst 0, 1) := by decide +kernel
theorem d_F_order_21 : decode nb_F_order 21 = .ok (.ireturn, 1) := by decide +kernel
abbrev rm_F_order : Room := ({ frames := 0, cells := 0, slots := 0, locals := 0 })
theorem w_F_order_21 {post : Int32 → nf_M → Prop} (hfl : l.flags = flags0) (K : nf_K p s m args meth c "NumberForge" nb_F_order 4 (some FieldType.int) D a sz) : ∀ (xy0 : Int32) (M : nf_M) (H : Heap) (locs : List Loc) (ls : Array Slot), B_F_order_21 post xy0 M → lv_has ls 4 [] → nf_W D a s sz H locs M → W p l e rm_F_order s m args below meth c H locs 0 0 (nf_MQ below (nf_Q nf_jI D a post ex (nf_A a sz)) args s rm_F_order.cells rm_F_order.slots (nf_A a sz)) (F0 m 21 ls [.int xy0]) := by
  have hx := K.1
  have hb := K.2.1
  intro xy0 M H locs ls h hl hw
  exact nf_iret K hw d_F_order_21 rfl (Nat.le_of_ble_eq_true rfl) (Nat.le_of_ble_eq_true rfl) (r := xy0) rfl h
theorem c_F_order (l : Launch) (hfl : l.flags = flags0) (x0 : UInt64) (x2 : UInt64) : nf_C nf_jI l nm_F_order nb_F_order 4 (some FieldType.int) rm_F_order (fun a => [.double x0, .double x2]) (fun M post ex => P_F_order x0 x2 M post) := by
  refine nf_start (plainFor_of_name (by decide +kernel)) (fun a => Nat.le_of_ble_eq_true rfl) ?_
  intro D a sz M post ex p e s m below meth c ls h K hl hw
  have hx := K.1
  have hb := K.2.1
  have hl : lv_has ls 4 [(0, .double x0), (2, .double x2)] := hl
  refine lv_dload_n hx hb d_F_order_0 rfl (lv_at hl 0 rfl) ?_
  refine lv_dload_n hx hb d_F_order_1 rfl (lv_at hl 1 rfl) ?_
  refine nf_dg_ge hx hb d_F_order_2 d_F_order_3 (tgt := 10) (by decide) (fun hc => ?_) (fun hc => ?_)
  · have h := h.1 hc
    refine lv_iconst (v := (-1 : Int32)) hx hb d_F_order_6 (by decide) ?_
    refine lv_goto hx hb d_F_order_7 (tgt := 21) (by decide) ?_
    exact w_F_order_21 hfl K (-1 : Int32) M _ _ _ h (lv_sub hl [] rfl) hw
  · have h := h.2 hc
    refine lv_dload_n hx hb d_F_order_10 rfl (lv_at hl 0 rfl) ?_
    refine lv_dload_n hx hb d_F_order_11 rfl (lv_at hl 1 rfl) ?_
    refine nf_dl_le hx hb d_F_order_12 d_F_order_13 (tgt := 20) (by decide) (fun hc => ?_) (fun hc => ?_)
    · have h := h.1 hc
      refine lv_iconst (v := (1 : Int32)) hx hb d_F_order_16 (by decide) ?_
      refine lv_goto hx hb d_F_order_17 (tgt := 21) (by decide) ?_
      exact w_F_order_21 hfl K (1 : Int32) M _ _ _ h (lv_sub hl [] rfl) hw
    · have h := h.2 hc
      refine lv_iconst (v := (0 : Int32)) hx hb d_F_order_20 (by decide) ?_
      exact w_F_order_21 hfl K (0 : Int32) M _ _ _ h (lv_sub hl [] rfl) hw
theorem d_JL_compare_0 : decode nb_JL_compare 0 = .ok (.lload_n 0, 1) := by decide +kernel
theorem d_JL_compare_1 : decode nb_JL_compare 1 = .ok (.lload_n 2, 1) := by decide +kernel
theorem d_JL_compare_2 : decode nb_JL_compare 2 = .ok (.lcmp, 1) := by decide +kernel
theorem d_JL_compare_3 : decode nb_JL_compare 3 = .ok (.ifCond .ge 7, 3) := by decide +kernel
theorem d_JL_compare_6 : decode nb_JL_compare 6 = .ok (.iconst (-1), 1) := by decide +kernel
theorem d_JL_compare_7 : decode nb_JL_compare 7 = .ok (.goto 14, 3) := by decide +kernel
theorem d_JL_compare_10 : decode nb_JL_compare 10 = .ok (.lload_n 0, 1) := by decide +kernel
theorem d_JL_compare_11 : decode nb_JL_compare 11 = .ok (.lload_n 2, 1) := by decide +kernel
theorem d_JL_compare_12 : decode nb_JL_compare 12 = .ok (.lcmp, 1) := by decide +kernel
theorem d_JL_compare_13 : decode nb_JL_compare 13 = .ok (.ifCond .ne 7, 3) := by decide +kernel
theorem d_JL_compare_16 : decode nb_JL_compare 16 = .ok (.iconst 0, 1) := by decide +kernel
theorem d_JL_compare_17 : decode nb_JL_compare 17 = .ok (.goto 4, 3) := by decide +kernel
theorem d_JL_compare_20 : decode nb_JL_compare 20 = .ok (.iconst 1, 1) := by decide +kernel
theorem d_JL_compare_21 : decode nb_JL_compare 21 = .ok (.ireturn, 1) := by decide +kernel
abbrev rm_JL_compare : Room := ({ frames := 0, cells := 0, slots := 0, locals := 0 })
theorem w_JL_compare_21 {post : Int32 → nf_M → Prop} (hfl : l.flags = flags0) (K : nf_K p s m args meth c "java/lang/Long" nb_JL_compare 4 (some FieldType.int) D a sz) : ∀ (xy0 : Int32) (M : nf_M) (H : Heap) (locs : List Loc) (ls : Array Slot), B_JL_compare_21 post xy0 M → lv_has ls 4 [] → nf_W D a s sz H locs M → W p l e rm_JL_compare s m args below meth c H locs 0 0 (nf_MQ below (nf_Q nf_jI D a post ex (nf_A a sz)) args s rm_JL_compare.cells rm_JL_compare.slots (nf_A a sz)) (F0 m 21 ls [.int xy0]) := by
  have hx := K.1
  have hb := K.2.1
  intro xy0 M H locs ls h hl hw
  exact nf_iret K hw d_JL_compare_21 rfl (Nat.le_of_ble_eq_true rfl) (Nat.le_of_ble_eq_true rfl) (r := xy0) rfl h
theorem c_JL_compare (l : Launch) (hfl : l.flags = flags0) (x0 : Int64) (x2 : Int64) : nf_C nf_jI l nm_JL_compare nb_JL_compare 4 (some FieldType.int) rm_JL_compare (fun a => [.long x0, .long x2]) (fun M post ex => P_JL_compare x0 x2 M post) := by
  refine nf_start (plainFor_of_name (by decide +kernel)) (fun a => Nat.le_of_ble_eq_true rfl) ?_
  intro D a sz M post ex p e s m below meth c ls h K hl hw
  have hx := K.1
  have hb := K.2.1
  have hl : lv_has ls 4 [(0, .long x0), (2, .long x2)] := hl
  refine lv_lload_n hx hb d_JL_compare_0 rfl (lv_at hl 0 rfl) ?_
  refine lv_lload_n hx hb d_JL_compare_1 rfl (lv_at hl 1 rfl) ?_
  refine nf_lc_ge hx hb d_JL_compare_2 d_JL_compare_3 (tgt := 10) (by decide) (fun hc => ?_) (fun hc => ?_)
  · have h := h.1 hc
    refine lv_iconst (v := (-1 : Int32)) hx hb d_JL_compare_6 (by decide) ?_
    refine lv_goto hx hb d_JL_compare_7 (tgt := 21) (by decide) ?_
    exact w_JL_compare_21 hfl K (-1 : Int32) M _ _ _ h (lv_sub hl [] rfl) hw
  · have h := h.2 hc
    refine lv_lload_n hx hb d_JL_compare_10 rfl (lv_at hl 0 rfl) ?_
    refine lv_lload_n hx hb d_JL_compare_11 rfl (lv_at hl 1 rfl) ?_
    refine nf_lc_ne hx hb d_JL_compare_12 d_JL_compare_13 (tgt := 20) (by decide) (fun hc => ?_) (fun hc => ?_)
    · have h := h.1 hc
      refine lv_iconst (v := (0 : Int32)) hx hb d_JL_compare_16 (by decide) ?_
      refine lv_goto hx hb d_JL_compare_17 (tgt := 21) (by decide) ?_
      exact w_JL_compare_21 hfl K (0 : Int32) M _ _ _ h (lv_sub hl [] rfl) hw
    · have h := h.2 hc
      refine lv_iconst (v := (1 : Int32)) hx hb d_JL_compare_20 (by decide) ?_
      exact w_JL_compare_21 hfl K (1 : Int32) M _ _ _ h (lv_sub hl [] rfl) hw
theorem d_F_fraction_0 : decode nb_F_fraction 0 = .ok (.aload_n 0, 1) := by decide +kernel
theorem d_F_fraction_1 : decode nb_F_fraction 1 = .ok (.getfield 110, 3) := by decide +kernel
theorem d_F_fraction_4 : decode nb_F_fraction 4 = .ok (.aload_n 0, 1) := by decide +kernel
theorem d_F_fraction_5 : decode nb_F_fraction 5 = .ok (.getfield 176, 3) := by decide +kernel
theorem d_F_fraction_8 : decode nb_F_fraction 8 = .ok (.invokestatic 275, 3) := by decide +kernel
theorem d_F_fraction_11 : decode nb_F_fraction 11 = .ok (.invokestatic 264, 3) := by decide +kernel
theorem d_F_fraction_14 : decode nb_F_fraction 14 = .ok (.bipush 6, 2) := by decide +kernel
theorem d_F_fraction_16 : decode nb_F_fraction 16 = .ok (.aload_n 0, 1) := by decide +kernel
theorem d_F_fraction_17 : decode nb_F_fraction 17 = .ok (.getfield 176, 3) := by decide +kernel
theorem d_F_fraction_20 : decode nb_F_fraction 20 = .ok (.isub, 1) := by decide +kernel
theorem d_F_fraction_21 : decode nb_F_fraction 21 = .ok (.invokestatic 275, 3) := by decide +kernel
theorem d_F_fraction_24 : decode nb_F_fraction 24 = .ok (.lmul, 1) := by decide +kernel
theorem d_F_fraction_25 : decode nb_F_fraction 25 = .ok (.lreturn, 1) := by decide +kernel
abbrev rm_F_fraction : Room := ({ frames := 1, cells := 0, slots := 0, locals := 23 })
theorem c_F_fraction (l : Launch) (hfl : l.flags = flags0) (v0 : Fin 9) : nf_C nf_jJ l nm_F_fraction nb_F_fraction 1 (some FieldType.long) rm_F_fraction (fun a => [.ref (a (10 + (v0 : Fin 9).val))]) (fun M post ex => P_F_fraction v0 M post) := by
  refine nf_start (plainFor_of_name (by decide +kernel)) (fun a => Nat.le_of_ble_eq_true rfl) ?_
  intro D a sz M post ex p e s m below meth c ls h K hl hw
  have hx := K.1
  have hb := K.2.1
  have hl : lv_has ls 1 [(0, .ref (a (10 + (v0 : Fin 9).val)))] := hl
  refine lv_aload_n hx hb d_F_fraction_0 rfl (lv_at hl 0 rfl) ?_
  refine nf_getN (v := .long (mg_U M v0)) K hw (10 + (v0 : Fin 9).val) 4 1 nv_41 (nf_heV _ _ _) rfl ni_V (by decide) rfl rfl d_F_fraction_1 ?_
  refine lv_aload_n hx hb d_F_fraction_4 rfl (lv_at hl 0 rfl) ?_
  refine nf_getN (v := .int (mg_S M v0)) K hw (10 + (v0 : Fin 9).val) 4 2 nv_45 (nf_heV _ _ _) rfl ni_V (by decide) rfl rfl d_F_fraction_5 ?_
  refine nf_callW (ex := (fun _ _ => False)) (As := [.int (mg_S M v0)]) (st0 := [.int (mg_S M v0), .long (mg_U M v0)]) (rest := [.long (mg_U M v0)]) K hw (nf_invS hx hb K.2.2.2.1 (nf_Kg K nw_548) (nf_Kg K nw_352) (nf_Kg K nw_1) (nf_Kg K nw_353) ⟨by decide, by decide⟩ rfl nl_F_power rfl d_F_fraction_8) (c_F_power l hfl (mg_S M v0)) nw_353 nw_1 rfl ⟨by decide, by decide⟩ (Nat.le_of_ble_eq_true rfl) hl.1 ⟨Nat.le_of_ble_eq_true rfl, Nat.le_of_ble_eq_true rfl⟩ h (fun _ _ h => h.elim) (fun r1 M2 H locs h hw => ?_)
  refine W.eq (g2 := F0 m 11 ls [.long r1, .long (mg_U M v0)]) rfl ?_
  refine nf_callW (ex := (fun _ _ => False)) (As := [.long (mg_U M v0), .long r1]) (st0 := [.long r1, .long (mg_U M v0)]) (rest := []) K hw (nf_invS hx hb K.2.2.2.1 (nf_Kg K nw_628) (nf_Kg K nw_581) (nf_Kg K nw_1) (nf_Kg K nw_582) ⟨by decide, by decide⟩ rfl nl_F_left rfl d_F_fraction_11) (c_F_left l hfl (mg_U M v0) r1) nw_582 nw_1 rfl ⟨by decide, by decide⟩ (Nat.le_of_ble_eq_true rfl) hl.1 ⟨Nat.le_of_ble_eq_true rfl, Nat.le_of_ble_eq_true rfl⟩ h (fun _ _ h => h.elim) (fun r3 M4 H locs h hw => ?_)
  refine W.eq (g2 := F0 m 14 ls [.long r3]) rfl ?_
  refine lv_bipush (v := (6 : Int32)) hx hb d_F_fraction_14 (by decide) ?_
  refine lv_aload_n hx hb d_F_fraction_16 rfl (lv_at hl 0 rfl) ?_
  refine nf_getN (v := .int (mg_S M4 v0)) K hw (10 + (v0 : Fin 9).val) 4 2 nv_45 (nf_heV _ _ _) rfl ni_V (by decide) rfl rfl d_F_fraction_17 ?_
  refine lv_isub hx hb d_F_fraction_20 ?_
  refine nf_callW (ex := (fun _ _ => False)) (As := [.int ((6 : Int32) - (mg_S M4 v0))]) (st0 := [.int ((6 : Int32) - (mg_S M4 v0)), .long r3]) (rest := [.long r3]) K hw (nf_invS hx hb K.2.2.2.1 (nf_Kg K nw_548) (nf_Kg K nw_352) (nf_Kg K nw_1) (nf_Kg K nw_353) ⟨by decide, by decide⟩ rfl nl_F_power rfl d_F_fraction_21) (c_F_power l hfl ((6 : Int32) - (mg_S M4 v0))) nw_353 nw_1 rfl ⟨by decide, by decide⟩ (Nat.le_of_ble_eq_true rfl) hl.1 ⟨Nat.le_of_ble_eq_true rfl, Nat.le_of_ble_eq_true rfl⟩ h (fun _ _ h => h.elim) (fun r5 M6 H locs h hw => ?_)
  refine W.eq (g2 := F0 m 24 ls [.long r5, .long r3]) rfl ?_
  refine lv_lmul hx hb d_F_fraction_24 ?_
  exact nf_lret K hw d_F_fraction_25 (Nat.le_of_ble_eq_true rfl) (Nat.le_of_ble_eq_true rfl) (r := r3 * r5) rfl h
theorem d_F_exactOrder_0 : decode nb_F_exactOrder 0 = .ok (.aload_n 0, 1) := by decide +kernel
theorem d_F_exactOrder_1 : decode nb_F_exactOrder 1 = .ok (.getfield 110, 3) := by decide +kernel
theorem d_F_exactOrder_4 : decode nb_F_exactOrder 4 = .ok (.aload_n 0, 1) := by decide +kernel
theorem d_F_exactOrder_5 : decode nb_F_exactOrder 5 = .ok (.getfield 176, 3) := by decide +kernel
theorem d_F_exactOrder_8 : decode nb_F_exactOrder 8 = .ok (.invokestatic 275, 3) := by decide +kernel
theorem d_F_exactOrder_11 : decode nb_F_exactOrder 11 = .ok (.invokestatic 260, 3) := by decide +kernel
theorem d_F_exactOrder_14 : decode nb_F_exactOrder 14 = .ok (.aload_n 1, 1) := by decide +kernel
theorem d_F_exactOrder_15 : decode nb_F_exactOrder 15 = .ok (.getfield 110, 3) := by decide +kernel
theorem d_F_exactOrder_18 : decode nb_F_exactOrder 18 = .ok (.aload_n 1, 1) := by decide +kernel
theorem d_F_exactOrder_19 : decode nb_F_exactOrder 19 = .ok (.getfield 176, 3) := by decide +kernel
theorem d_F_exactOrder_22 : decode nb_F_exactOrder 22 = .ok (.invokestatic 275, 3) := by decide +kernel
theorem d_F_exactOrder_25 : decode nb_F_exactOrder 25 = .ok (.invokestatic 260, 3) := by decide +kernel
theorem d_F_exactOrder_28 : decode nb_F_exactOrder 28 = .ok (.invokestatic 423, 3) := by decide +kernel
theorem d_F_exactOrder_31 : decode nb_F_exactOrder 31 = .ok (.istore_n 2, 1) := by decide +kernel
theorem d_F_exactOrder_32 : decode nb_F_exactOrder 32 = .ok (.iload_n 2, 1) := by decide +kernel
theorem d_F_exactOrder_33 : decode nb_F_exactOrder 33 = .ok (.ifCond .eq 7, 3) := by decide +kernel
theorem d_F_exactOrder_36 : decode nb_F_exactOrder 36 = .ok (.iload_n 2, 1) := by decide +kernel
theorem d_F_exactOrder_37 : decode nb_F_exactOrder 37 = .ok (.goto 14, 3) := by decide +kernel
theorem d_F_exactOrder_40 : decode nb_F_exactOrder 40 = .ok (.aload_n 0, 1) := by decide +kernel
theorem d_F_exactOrder_41 : decode nb_F_exactOrder 41 = .ok (.invokestatic 429, 3) := by decide +kernel
theorem d_F_exactOrder_44 : decode nb_F_exactOrder 44 = .ok (.aload_n 1, 1) := by decide +kernel
theorem d_F_exactOrder_45 : decode nb_F_exactOrder 45 = .ok (.invokestatic 429, 3) := by decide +kernel
theorem d_F_exactOrder_48 : decode nb_F_exactOrder 48 = .ok (.invokestatic 423, 3) := by decide +kernel
theorem d_F_exactOrder_51 : decode nb_F_exactOrder 51 = .ok (.ireturn, 1) := by decide +kernel
abbrev rm_F_exactOrder : Room := ({ frames := 2, cells := 0, slots := 0, locals := 43 })
theorem w_F_exactOrder_51 {post : Int32 → nf_M → Prop} (hfl : l.flags = flags0) (K : nf_K p s m args meth c "NumberForge" nb_F_exactOrder 3 (some FieldType.int) D a sz) : ∀ (xy0 : Int32) (M : nf_M) (H : Heap) (locs : List Loc) (ls : Array Slot), B_F_exactOrder_51 post xy0 M → lv_has ls 3 [] → nf_W D a s sz H locs M → W p l e rm_F_exactOrder s m args below meth c H locs 0 0 (nf_MQ below (nf_Q nf_jI D a post ex (nf_A a sz)) args s rm_F_exactOrder.cells rm_F_exactOrder.slots (nf_A a sz)) (F0 m 51 ls [.int xy0]) := by
  have hx := K.1
  have hb := K.2.1
  intro xy0 M H locs ls h hl hw
  exact nf_iret K hw d_F_exactOrder_51 rfl (Nat.le_of_ble_eq_true rfl) (Nat.le_of_ble_eq_true rfl) (r := xy0) rfl h
theorem c_F_exactOrder (l : Launch) (hfl : l.flags = flags0) (v0 : Fin 9) (v1 : Fin 9) : nf_C nf_jI l nm_F_exactOrder nb_F_exactOrder 3 (some FieldType.int) rm_F_exactOrder (fun a => [.ref (a (10 + (v0 : Fin 9).val)), .ref (a (10 + (v1 : Fin 9).val))]) (fun M post ex => P_F_exactOrder v0 v1 M post) := by
  refine nf_start (plainFor_of_name (by decide +kernel)) (fun a => Nat.le_of_ble_eq_true rfl) ?_
  intro D a sz M post ex p e s m below meth c ls h K hl hw
  have hx := K.1
  have hb := K.2.1
  have hl : lv_has ls 3 [(0, .ref (a (10 + (v0 : Fin 9).val))), (1, .ref (a (10 + (v1 : Fin 9).val)))] := hl
  refine lv_aload_n hx hb d_F_exactOrder_0 rfl (lv_at hl 0 rfl) ?_
  refine nf_getN (v := .long (mg_U M v0)) K hw (10 + (v0 : Fin 9).val) 4 1 nv_41 (nf_heV _ _ _) rfl ni_V (by decide) rfl rfl d_F_exactOrder_1 ?_
  refine lv_aload_n hx hb d_F_exactOrder_4 rfl (lv_at hl 0 rfl) ?_
  refine nf_getN (v := .int (mg_S M v0)) K hw (10 + (v0 : Fin 9).val) 4 2 nv_45 (nf_heV _ _ _) rfl ni_V (by decide) rfl rfl d_F_exactOrder_5 ?_
  refine nf_callW (ex := (fun _ _ => False)) (As := [.int (mg_S M v0)]) (st0 := [.int (mg_S M v0), .long (mg_U M v0)]) (rest := [.long (mg_U M v0)]) K hw (nf_invS hx hb K.2.2.2.1 (nf_Kg K nw_548) (nf_Kg K nw_352) (nf_Kg K nw_1) (nf_Kg K nw_353) ⟨by decide, by decide⟩ rfl nl_F_power rfl d_F_exactOrder_8) (c_F_power l hfl (mg_S M v0)) nw_353 nw_1 rfl ⟨by decide, by decide⟩ (Nat.le_of_ble_eq_true rfl) hl.1 ⟨Nat.le_of_ble_eq_true rfl, Nat.le_of_ble_eq_true rfl⟩ h (fun _ _ h => h.elim) (fun r1 M2 H locs h hw => ?_)
  refine W.eq (g2 := F0 m 11 ls [.long r1, .long (mg_U M v0)]) rfl ?_
  refine nf_callW (ex := (fun _ _ => False)) (As := [.long (mg_U M v0), .long r1]) (st0 := [.long r1, .long (mg_U M v0)]) (rest := []) K hw (nf_invS hx hb K.2.2.2.1 (nf_Kg K nw_553) (nf_Kg K nw_554) (nf_Kg K nw_1) (nf_Kg K nw_555) ⟨by decide, by decide⟩ rfl nl_F_over rfl d_F_exactOrder_11) (c_F_over l hfl (mg_U M v0) r1) nw_555 nw_1 rfl ⟨by decide, by decide⟩ (Nat.le_of_ble_eq_true rfl) hl.1 ⟨Nat.le_of_ble_eq_true rfl, Nat.le_of_ble_eq_true rfl⟩ h (fun _ _ h => h.elim) (fun r3 M4 H locs h hw => ?_)
  refine W.eq (g2 := F0 m 14 ls [.long r3]) rfl ?_
  refine lv_aload_n hx hb d_F_exactOrder_14 rfl (lv_at hl 1 rfl) ?_
  refine nf_getN (v := .long (mg_U M4 v1)) K hw (10 + (v1 : Fin 9).val) 4 1 nv_41 (nf_heV _ _ _) rfl ni_V (by decide) rfl rfl d_F_exactOrder_15 ?_
  refine lv_aload_n hx hb d_F_exactOrder_18 rfl (lv_at hl 1 rfl) ?_
  refine nf_getN (v := .int (mg_S M4 v1)) K hw (10 + (v1 : Fin 9).val) 4 2 nv_45 (nf_heV _ _ _) rfl ni_V (by decide) rfl rfl d_F_exactOrder_19 ?_
  refine nf_callW (ex := (fun _ _ => False)) (As := [.int (mg_S M4 v1)]) (st0 := [.int (mg_S M4 v1), .long (mg_U M4 v1), .long r3]) (rest := [.long (mg_U M4 v1), .long r3]) K hw (nf_invS hx hb K.2.2.2.1 (nf_Kg K nw_548) (nf_Kg K nw_352) (nf_Kg K nw_1) (nf_Kg K nw_353) ⟨by decide, by decide⟩ rfl nl_F_power rfl d_F_exactOrder_22) (c_F_power l hfl (mg_S M4 v1)) nw_353 nw_1 rfl ⟨by decide, by decide⟩ (Nat.le_of_ble_eq_true rfl) hl.1 ⟨Nat.le_of_ble_eq_true rfl, Nat.le_of_ble_eq_true rfl⟩ h (fun _ _ h => h.elim) (fun r5 M6 H locs h hw => ?_)
  refine W.eq (g2 := F0 m 25 ls [.long r5, .long (mg_U M4 v1), .long r3]) rfl ?_
  refine nf_callW (ex := (fun _ _ => False)) (As := [.long (mg_U M4 v1), .long r5]) (st0 := [.long r5, .long (mg_U M4 v1), .long r3]) (rest := [.long r3]) K hw (nf_invS hx hb K.2.2.2.1 (nf_Kg K nw_553) (nf_Kg K nw_554) (nf_Kg K nw_1) (nf_Kg K nw_555) ⟨by decide, by decide⟩ rfl nl_F_over rfl d_F_exactOrder_25) (c_F_over l hfl (mg_U M4 v1) r5) nw_555 nw_1 rfl ⟨by decide, by decide⟩ (Nat.le_of_ble_eq_true rfl) hl.1 ⟨Nat.le_of_ble_eq_true rfl, Nat.le_of_ble_eq_true rfl⟩ h (fun _ _ h => h.elim) (fun r7 M8 H locs h hw => ?_)
  refine W.eq (g2 := F0 m 28 ls [.long r7, .long r3]) rfl ?_
  refine nf_callW (ex := (fun _ _ => False)) (As := [.long r3, .long r7]) (st0 := [.long r7, .long r3]) (rest := []) K hw (nf_invS hx hb K.2.2.2.1 (nf_Kg K nw_700) (nf_Kg K nw_701) (nf_Kg K nw_18) (nf_Kg K nw_702) ⟨by decide, by decide⟩ rfl nl_JL_compare rfl d_F_exactOrder_28) (c_JL_compare l hfl r3 r7) nw_702 nw_18 rfl ⟨by decide, by decide⟩ (Nat.le_of_ble_eq_true rfl) hl.1 ⟨Nat.le_of_ble_eq_true rfl, Nat.le_of_ble_eq_true rfl⟩ h (fun _ _ h => h.elim) (fun r9 M10 H locs h hw => ?_)
  refine W.eq (g2 := F0 m 31 ls [.int r9]) rfl ?_
  refine lv_istore_n (lv' := [(2, .int r9), (0, .ref (a (10 + (v0 : Fin 9).val))), (1, .ref (a (10 + (v1 : Fin 9).val)))]) hx hb d_F_exactOrder_31 rfl hl (by decide) rfl (fun ls hl => ?_)
  refine lv_iload_n hx hb d_F_exactOrder_32 rfl (lv_at hl 0 rfl) ?_
  refine nf_if_eq hx hb d_F_exactOrder_33 (tgt := 40) (by decide) (fun hc => ?_) (fun hc => ?_)
  · have h := h.1 hc
    refine lv_aload_n hx hb d_F_exactOrder_40 rfl (lv_at hl 1 rfl) ?_
    refine nf_callW (ex := (fun _ _ => False)) (As := [.ref (a (10 + (v0 : Fin 9).val))]) (st0 := [.ref (a (10 + (v0 : Fin 9).val))]) (rest := []) K hw (nf_invS hx hb K.2.2.2.1 (nf_Kg K nw_703) (nf_Kg K nw_704) (nf_Kg K nw_1) (nf_Kg K nw_705) ⟨by decide, by decide⟩ rfl nl_F_fraction rfl d_F_exactOrder_41) (c_F_fraction l hfl v0) nw_705 nw_1 rfl ⟨by decide, by decide⟩ (Nat.le_of_ble_eq_true rfl) hl.1 ⟨Nat.le_of_ble_eq_true rfl, Nat.le_of_ble_eq_true rfl⟩ h (fun _ _ h => h.elim) (fun r11 M12 H locs h hw => ?_)
    refine W.eq (g2 := F0 m 44 ls [.long r11]) rfl ?_
    refine lv_aload_n hx hb d_F_exactOrder_44 rfl (lv_at hl 2 rfl) ?_
    refine nf_callW (ex := (fun _ _ => False)) (As := [.ref (a (10 + (v1 : Fin 9).val))]) (st0 := [.ref (a (10 + (v1 : Fin 9).val)), .long r11]) (rest := [.long r11]) K hw (nf_invS hx hb K.2.2.2.1 (nf_Kg K nw_703) (nf_Kg K nw_704) (nf_Kg K nw_1) (nf_Kg K nw_705) ⟨by decide, by decide⟩ rfl nl_F_fraction rfl d_F_exactOrder_45) (c_F_fraction l hfl v1) nw_705 nw_1 rfl ⟨by decide, by decide⟩ (Nat.le_of_ble_eq_true rfl) hl.1 ⟨Nat.le_of_ble_eq_true rfl, Nat.le_of_ble_eq_true rfl⟩ h (fun _ _ h => h.elim) (fun r13 M14 H locs h hw => ?_)
    refine W.eq (g2 := F0 m 48 ls [.long r13, .long r11]) rfl ?_
    refine nf_callW (ex := (fun _ _ => False)) (As := [.long r11, .long r13]) (st0 := [.long r13, .long r11]) (rest := []) K hw (nf_invS hx hb K.2.2.2.1 (nf_Kg K nw_700) (nf_Kg K nw_701) (nf_Kg K nw_18) (nf_Kg K nw_702) ⟨by decide, by decide⟩ rfl nl_JL_compare rfl d_F_exactOrder_48) (c_JL_compare l hfl r11 r13) nw_702 nw_18 rfl ⟨by decide, by decide⟩ (Nat.le_of_ble_eq_true rfl) hl.1 ⟨Nat.le_of_ble_eq_true rfl, Nat.le_of_ble_eq_true rfl⟩ h (fun _ _ h => h.elim) (fun r15 M16 H locs h hw => ?_)
    refine W.eq (g2 := F0 m 51 ls [.int r15]) rfl ?_
    exact w_F_exactOrder_51 hfl K r15 M16 _ _ _ h (lv_sub hl [] rfl) hw
  · have h := h.2 hc
    refine lv_iload_n hx hb d_F_exactOrder_36 rfl (lv_at hl 0 rfl) ?_
    refine lv_goto hx hb d_F_exactOrder_37 (tgt := 51) (by decide) ?_
    exact w_F_exactOrder_51 hfl K r9 M10 _ _ _ h (lv_sub hl [] rfl) hw
theorem d_F_compare_0 : decode nb_F_compare 0 = .ok (.aload_n 0, 1) := by decide +kernel
theorem d_F_compare_1 : decode nb_F_compare 1 = .ok (.iload_n 1, 1) := by decide +kernel
theorem d_F_compare_2 : decode nb_F_compare 2 = .ok (.invokevirtual 71, 3) := by decide +kernel
theorem d_F_compare_5 : decode nb_F_compare 5 = .ok (.astore_n 3, 1) := by decide +kernel
theorem d_F_compare_6 : decode nb_F_compare 6 = .ok (.aload_n 0, 1) := by decide +kernel
theorem d_F_compare_7 : decode nb_F_compare 7 = .ok (.iload_n 2, 1) := by decide +kernel
theorem d_F_compare_8 : decode nb_F_compare 8 = .ok (.invokevirtual 71, 3) := by decide +kernel
theorem d_F_compare_11 : decode nb_F_compare 11 = .ok (.astore 4, 2) := by decide +kernel
theorem d_F_compare_13 : decode nb_F_compare 13 = .ok (.aload_n 3, 1) := by decide +kernel
theorem d_F_compare_14 : decode nb_F_compare 14 = .ok (.invokestatic 121, 3) := by decide +kernel
theorem d_F_compare_17 : decode nb_F_compare 17 = .ok (.aload 4, 2) := by decide +kernel
theorem d_F_compare_19 : decode nb_F_compare 19 = .ok (.invokestatic 121, 3) := by decide +kernel
theorem d_F_compare_22 : decode nb_F_compare 22 = .ok (.aload_n 3, 1) := by decide +kernel
theorem d_F_compare_23 : decode nb_F_compare 23 = .ok (.getfield 135, 3) := by decide +kernel
theorem d_F_compare_26 : decode nb_F_compare 26 = .ok (.bipush 9, 2) := by decide +kernel
theorem d_F_compare_28 : decode nb_F_compare 28 = .ok (.if_icmp .eq 13, 3) := by decide +kernel
theorem d_F_compare_31 : decode nb_F_compare 31 = .ok (.aload 4, 2) := by decide +kernel
theorem d_F_compare_33 : decode nb_F_compare 33 = .ok (.getfield 135, 3) := by decide +kernel
theorem d_F_compare_36 : decode nb_F_compare 36 = .ok (.bipush 9, 2) := by decide +kernel
theorem d_F_compare_38 : decode nb_F_compare 38 = .ok (.if_icmp .ne 16, 3) := by decide +kernel
theorem d_F_compare_41 : decode nb_F_compare 41 = .ok (.aload_n 3, 1) := by decide +kernel
theorem d_F_compare_42 : decode nb_F_compare 42 = .ok (.invokevirtual 154, 3) := by decide +kernel
theorem d_F_compare_45 : decode nb_F_compare 45 = .ok (.aload 4, 2) := by decide +kernel
theorem d_F_compare_47 : decode nb_F_compare 47 = .ok (.invokevirtual 154, 3) := by decide +kernel
theorem d_F_compare_50 : decode nb_F_compare 50 = .ok (.invokestatic 157, 3) := by decide +kernel
theorem d_F_compare_53 : decode nb_F_compare 53 = .ok (.ireturn, 1) := by decide +kernel
theorem d_F_compare_54 : decode nb_F_compare 54 = .ok (.aload_n 3, 1) := by decide +kernel
theorem d_F_compare_55 : decode nb_F_compare 55 = .ok (.getfield 135, 3) := by decide +kernel
theorem d_F_compare_58 : decode nb_F_compare 58 = .ok (.bipush 8, 2) := by decide +kernel
theorem d_F_compare_60 : decode nb_F_compare 60 = .ok (.if_icmp .eq 13, 3) := by decide +kernel
theorem d_F_compare_63 : decode nb_F_compare 63 = .ok (.aload 4, 2) := by decide +kernel
theorem d_F_compare_65 : decode nb_F_compare 65 = .ok (.getfield 135, 3) := by decide +kernel
theorem d_F_compare_68 : decode nb_F_compare 68 = .ok (.bipush 8, 2) := by decide +kernel
theorem d_F_compare_70 : decode nb_F_compare 70 = .ok (.if_icmp .ne 18, 3) := by decide +kernel
theorem d_F_compare_73 : decode nb_F_compare 73 = .ok (.aload_n 3, 1) := by decide +kernel
theorem d_F_compare_74 : decode nb_F_compare 74 = .ok (.invokevirtual 161, 3) := by decide +kernel
theorem d_F_compare_77 : decode nb_F_compare 77 = .ok (.f2d, 1) := by decide +kernel
theorem d_F_compare_78 : decode nb_F_compare 78 = .ok (.aload 4, 2) := by decide +kernel
theorem d_F_compare_80 : decode nb_F_compare 80 = .ok (.invokevirtual 161, 3) := by decide +kernel
theorem d_F_compare_83 : decode nb_F_compare 83 = .ok (.f2d, 1) := by decide +kernel
theorem d_F_compare_84 : decode nb_F_compare 84 = .ok (.invokestatic 157, 3) := by decide +kernel
theorem d_F_compare_87 : decode nb_F_compare 87 = .ok (.ireturn, 1) := by decide +kernel
theorem d_F_compare_88 : decode nb_F_compare 88 = .ok (.aload_n 3, 1) := by decide +kernel
theorem d_F_compare_89 : decode nb_F_compare 89 = .ok (.aload 4, 2) := by decide +kernel
theorem d_F_compare_91 : decode nb_F_compare 91 = .ok (.invokestatic 165, 3) := by decide +kernel
theorem d_F_compare_94 : decode nb_F_compare 94 = .ok (.ireturn, 1) := by decide +kernel
abbrev rm_F_compare : Room := ({ frames := 7, cells := 4, slots := 24, locals := 121 })
theorem w_F_compare_41 {post : Int32 → nf_M → Prop} (hfl : l.flags = flags0) (K : nf_K p s m args meth c "NumberForge" nb_F_compare 5 (some FieldType.int) D a sz) : ∀ (v3 : Fin 9) (v4 : Fin 9) (M : nf_M) (H : Heap) (locs : List Loc) (ls : Array Slot), B_F_compare_41 post ex v3 v4 M → lv_has ls 5 [(3, .ref (a (10 + (v3 : Fin 9).val))), (4, .ref (a (10 + (v4 : Fin 9).val)))] → nf_W D a s sz H locs M → W p l e rm_F_compare s m args below meth c H locs 4 24 (nf_MQ below (nf_Q nf_jI D a post ex (nf_A a sz)) args s rm_F_compare.cells rm_F_compare.slots (nf_A a sz)) (F0 m 41 ls []) := by
  have hx := K.1
  have hb := K.2.1
  intro v3 v4 M H locs ls h hl hw
  refine lv_aload_n hx hb d_F_compare_41 rfl (lv_at hl 0 rfl) ?_
  refine nf_callW (ex := (fun _ _ => False)) (As := [.ref (a (10 + (v3 : Fin 9).val))]) (st0 := [.ref (a (10 + (v3 : Fin 9).val))]) (rest := []) K hw (nf_invVN hx hb K.2.2.2.1 ((nf_Kr K nv_476).use rfl) (nf_Kg K nw_478) (nf_Kg K nx_V_asDouble) (nf_Kg K nw_479) ⟨by decide, by decide⟩ (nf_rcv K hw (10 + (v3 : Fin 9).val) 4 (nf_heV _ _ _) rfl) rfl nl_V_asDouble rfl d_F_compare_42) (c_V_asDouble l hfl v3) nw_479 nw_2 rfl ⟨by decide, by decide⟩ (Nat.le_of_ble_eq_true rfl) hl.1 ⟨Nat.le_of_ble_eq_true rfl, Nat.le_of_ble_eq_true rfl⟩ h (fun _ _ h => h.elim) (fun r1 M2 H locs h hw => ?_)
  refine W.eq (g2 := F0 m 45 ls [.double r1]) rfl ?_
  refine lv_aload hx hb d_F_compare_45 (lv_at hl 1 rfl) ?_
  refine nf_callW (ex := (fun _ _ => False)) (As := [.ref (a (10 + (v4 : Fin 9).val))]) (st0 := [.ref (a (10 + (v4 : Fin 9).val)), .double r1]) (rest := [.double r1]) K hw (nf_invVN hx hb K.2.2.2.1 ((nf_Kr K nv_476).use rfl) (nf_Kg K nw_478) (nf_Kg K nx_V_asDouble) (nf_Kg K nw_479) ⟨by decide, by decide⟩ (nf_rcv K hw (10 + (v4 : Fin 9).val) 4 (nf_heV _ _ _) rfl) rfl nl_V_asDouble rfl d_F_compare_47) (c_V_asDouble l hfl v4) nw_479 nw_2 rfl ⟨by decide, by decide⟩ (Nat.le_of_ble_eq_true rfl) hl.1 ⟨Nat.le_of_ble_eq_true rfl, Nat.le_of_ble_eq_true rfl⟩ h (fun _ _ h => h.elim) (fun r3 M4 H locs h hw => ?_)
  refine W.eq (g2 := F0 m 50 ls [.double r3, .double r1]) rfl ?_
  refine nf_callW (ex := (fun _ _ => False)) (As := [.double r1, .double r3]) (st0 := [.double r3, .double r1]) (rest := []) K hw (nf_invS hx hb K.2.2.2.1 (nf_Kg K nw_694) (nf_Kg K nw_695) (nf_Kg K nw_1) (nf_Kg K nw_696) ⟨by decide, by decide⟩ rfl nl_F_order rfl d_F_compare_50) (c_F_order l hfl r1 r3) nw_696 nw_1 rfl ⟨by decide, by decide⟩ (Nat.le_of_ble_eq_true rfl) hl.1 ⟨Nat.le_of_ble_eq_true rfl, Nat.le_of_ble_eq_true rfl⟩ h (fun _ _ h => h.elim) (fun r5 M6 H locs h hw => ?_)
  refine W.eq (g2 := F0 m 53 ls [.int r5]) rfl ?_
  exact nf_iret K hw d_F_compare_53 rfl (Nat.le_of_ble_eq_true rfl) (Nat.le_of_ble_eq_true rfl) (r := r5) rfl h
theorem w_F_compare_73 {post : Int32 → nf_M → Prop} (hfl : l.flags = flags0) (K : nf_K p s m args meth c "NumberForge" nb_F_compare 5 (some FieldType.int) D a sz) : ∀ (v3 : Fin 9) (v4 : Fin 9) (M : nf_M) (H : Heap) (locs : List Loc) (ls : Array Slot), B_F_compare_73 post ex v3 v4 M → lv_has ls 5 [(3, .ref (a (10 + (v3 : Fin 9).val))), (4, .ref (a (10 + (v4 : Fin 9).val)))] → nf_W D a s sz H locs M → W p l e rm_F_compare s m args below meth c H locs 4 24 (nf_MQ below (nf_Q nf_jI D a post ex (nf_A a sz)) args s rm_F_compare.cells rm_F_compare.slots (nf_A a sz)) (F0 m 73 ls []) := by
  have hx := K.1
  have hb := K.2.1
  intro v3 v4 M H locs ls h hl hw
  refine lv_aload_n hx hb d_F_compare_73 rfl (lv_at hl 0 rfl) ?_
  refine nf_callW (ex := (fun _ _ => False)) (As := [.ref (a (10 + (v3 : Fin 9).val))]) (st0 := [.ref (a (10 + (v3 : Fin 9).val))]) (rest := []) K hw (nf_invVN hx hb K.2.2.2.1 ((nf_Kr K nv_482).use rfl) (nf_Kg K nw_484) (nf_Kg K nx_V_asFloat) (nf_Kg K nw_485) ⟨by decide, by decide⟩ (nf_rcv K hw (10 + (v3 : Fin 9).val) 4 (nf_heV _ _ _) rfl) rfl nl_V_asFloat rfl d_F_compare_74) (c_V_asFloat l hfl v3) nw_485 nw_2 rfl ⟨by decide, by decide⟩ (Nat.le_of_ble_eq_true rfl) hl.1 ⟨Nat.le_of_ble_eq_true rfl, Nat.le_of_ble_eq_true rfl⟩ h (fun _ _ h => h.elim) (fun r1 M2 H locs h hw => ?_)
  refine W.eq (g2 := F0 m 77 ls [.float r1]) rfl ?_
  obtain ⟨g3, h⟩ := h
  refine lv_f2d hx hb d_F_compare_77 g3 ?_
  refine lv_aload hx hb d_F_compare_78 (lv_at hl 1 rfl) ?_
  refine nf_callW (ex := (fun _ _ => False)) (As := [.ref (a (10 + (v4 : Fin 9).val))]) (st0 := [.ref (a (10 + (v4 : Fin 9).val)), .double (FP.f2d r1)]) (rest := [.double (FP.f2d r1)]) K hw (nf_invVN hx hb K.2.2.2.1 ((nf_Kr K nv_482).use rfl) (nf_Kg K nw_484) (nf_Kg K nx_V_asFloat) (nf_Kg K nw_485) ⟨by decide, by decide⟩ (nf_rcv K hw (10 + (v4 : Fin 9).val) 4 (nf_heV _ _ _) rfl) rfl nl_V_asFloat rfl d_F_compare_80) (c_V_asFloat l hfl v4) nw_485 nw_2 rfl ⟨by decide, by decide⟩ (Nat.le_of_ble_eq_true rfl) hl.1 ⟨Nat.le_of_ble_eq_true rfl, Nat.le_of_ble_eq_true rfl⟩ h (fun _ _ h => h.elim) (fun r4 M5 H locs h hw => ?_)
  refine W.eq (g2 := F0 m 83 ls [.float r4, .double (FP.f2d r1)]) rfl ?_
  obtain ⟨g6, h⟩ := h
  refine lv_f2d hx hb d_F_compare_83 g6 ?_
  refine nf_callW (ex := (fun _ _ => False)) (As := [.double (FP.f2d r1), .double (FP.f2d r4)]) (st0 := [.double (FP.f2d r4), .double (FP.f2d r1)]) (rest := []) K hw (nf_invS hx hb K.2.2.2.1 (nf_Kg K nw_694) (nf_Kg K nw_695) (nf_Kg K nw_1) (nf_Kg K nw_696) ⟨by decide, by decide⟩ rfl nl_F_order rfl d_F_compare_84) (c_F_order l hfl (FP.f2d r1) (FP.f2d r4)) nw_696 nw_1 rfl ⟨by decide, by decide⟩ (Nat.le_of_ble_eq_true rfl) hl.1 ⟨Nat.le_of_ble_eq_true rfl, Nat.le_of_ble_eq_true rfl⟩ h (fun _ _ h => h.elim) (fun r7 M8 H locs h hw => ?_)
  refine W.eq (g2 := F0 m 87 ls [.int r7]) rfl ?_
  exact nf_iret K hw d_F_compare_87 rfl (Nat.le_of_ble_eq_true rfl) (Nat.le_of_ble_eq_true rfl) (r := r7) rfl h
theorem c_F_compare (l : Launch) (hfl : l.flags = flags0) (x1 : Int32) (x2 : Int32) : nf_C nf_jI l nm_F_compare nb_F_compare 5 (some FieldType.int) rm_F_compare (fun a => [.ref (a 0), .int x1, .int x2]) (fun M post ex => P_F_compare x1 x2 M post ex) := by
  refine nf_start (plainFor_of_name (by decide +kernel)) (fun a => Nat.le_of_ble_eq_true rfl) ?_
  intro D a sz M post ex p e s m below meth c ls h K hl hw
  have hx := K.1
  have hb := K.2.1
  have hl : lv_has ls 5 [(0, .ref (a 0)), (1, .int x1), (2, .int x2)] := hl
  refine lv_aload_n hx hb d_F_compare_0 rfl (lv_at hl 0 rfl) ?_
  refine lv_iload_n hx hb d_F_compare_1 rfl (lv_at hl 1 rfl) ?_
  refine nf_callW (ex := ex) (As := [.ref (a 0), .int x1]) (st0 := [.int x1, .ref (a 0)]) (rest := []) K hw (nf_invV hx hb K.2.2.2.1 (nf_Kg K nw_243) (nf_Kg K nw_245) (nf_Kg K nx_F_register) (nf_Kg K nw_246) ⟨by decide, by decide⟩ (nf_rcv K hw 0 6 rfl rfl) rfl nl_F_register rfl d_F_compare_2) (c_F_register l hfl x1) nw_246 nw_1 rfl ⟨by decide, by decide⟩ (Nat.le_of_ble_eq_true rfl) hl.1 ⟨Nat.le_of_ble_eq_true rfl, Nat.le_of_ble_eq_true rfl⟩ h (fun _ _ h => h) (fun r1 M2 H locs h hw => ?_)
  refine W.eq (g2 := F0 m 5 ls [.ref (a (10 + (r1 : Fin 9).val))]) rfl ?_
  refine W.widen (k := 1) (n := 6) (by decide) (by decide) ?_
  refine lv_astore_n (lv' := [(3, .ref (a (10 + (r1 : Fin 9).val))), (0, .ref (a 0)), (1, .int x1), (2, .int x2)]) hx hb d_F_compare_5 rfl hl (by decide) rfl (fun ls hl => ?_)
  refine lv_aload_n hx hb d_F_compare_6 rfl (lv_at hl 1 rfl) ?_
  refine lv_iload_n hx hb d_F_compare_7 rfl (lv_at hl 3 rfl) ?_
  refine nf_callW (ex := ex) (As := [.ref (a 0), .int x2]) (st0 := [.int x2, .ref (a 0)]) (rest := []) K hw (nf_invV hx hb K.2.2.2.1 (nf_Kg K nw_243) (nf_Kg K nw_245) (nf_Kg K nx_F_register) (nf_Kg K nw_246) ⟨by decide, by decide⟩ (nf_rcv K hw 0 6 rfl rfl) rfl nl_F_register rfl d_F_compare_8) (c_F_register l hfl x2) nw_246 nw_1 rfl ⟨by decide, by decide⟩ (Nat.le_of_ble_eq_true rfl) hl.1 ⟨Nat.le_of_ble_eq_true rfl, Nat.le_of_ble_eq_true rfl⟩ h (fun _ _ h => h) (fun r3 M4 H locs h hw => ?_)
  refine W.eq (g2 := F0 m 11 ls [.ref (a (10 + (r3 : Fin 9).val))]) rfl ?_
  refine W.widen (k := 2) (n := 12) (by decide) (by decide) ?_
  refine lv_astore (lv' := [(4, .ref (a (10 + (r3 : Fin 9).val))), (3, .ref (a (10 + (r1 : Fin 9).val))), (0, .ref (a 0)), (1, .int x1), (2, .int x2)]) hx hb d_F_compare_11 hl (by decide) rfl (fun ls hl => ?_)
  refine lv_aload_n hx hb d_F_compare_13 rfl (lv_at hl 1 rfl) ?_
  refine nf_callW (ex := ex) (As := [.ref (a (10 + (r1 : Fin 9).val))]) (st0 := [.ref (a (10 + (r1 : Fin 9).val))]) (rest := []) K hw (nf_invS hx hb K.2.2.2.1 (nf_Kg K nw_449) (nf_Kg K nw_450) (nf_Kg K nw_1) (nf_Kg K nw_451) ⟨by decide, by decide⟩ rfl nl_F_checkFull rfl d_F_compare_14) (c_F_checkFull l hfl r1) nw_451 nw_1 rfl ⟨by decide, by decide⟩ (Nat.le_of_ble_eq_true rfl) hl.1 ⟨Nat.le_of_ble_eq_true rfl, Nat.le_of_ble_eq_true rfl⟩ h (fun _ _ h => h) (fun r5 M6 H locs h hw => ?_)
  refine W.eq (g2 := F0 m 17 ls []) rfl ?_
  refine W.widen (k := 3) (n := 18) (by decide) (by decide) ?_
  refine lv_aload hx hb d_F_compare_17 (lv_at hl 0 rfl) ?_
  refine nf_callW (ex := ex) (As := [.ref (a (10 + (r3 : Fin 9).val))]) (st0 := [.ref (a (10 + (r3 : Fin 9).val))]) (rest := []) K hw (nf_invS hx hb K.2.2.2.1 (nf_Kg K nw_449) (nf_Kg K nw_450) (nf_Kg K nw_1) (nf_Kg K nw_451) ⟨by decide, by decide⟩ rfl nl_F_checkFull rfl d_F_compare_19) (c_F_checkFull l hfl r3) nw_451 nw_1 rfl ⟨by decide, by decide⟩ (Nat.le_of_ble_eq_true rfl) hl.1 ⟨Nat.le_of_ble_eq_true rfl, Nat.le_of_ble_eq_true rfl⟩ h (fun _ _ h => h) (fun r7 M8 H locs h hw => ?_)
  refine W.eq (g2 := F0 m 22 ls []) rfl ?_
  refine W.widen (k := 4) (n := 24) (by decide) (by decide) ?_
  refine lv_aload_n hx hb d_F_compare_22 rfl (lv_at hl 1 rfl) ?_
  refine nf_getN (v := .int (mg_T M8 r1)) K hw (10 + (r1 : Fin 9).val) 4 0 nv_39 (nf_heV _ _ _) rfl ni_V (by decide) rfl rfl d_F_compare_23 ?_
  refine lv_bipush (v := (9 : Int32)) hx hb d_F_compare_26 (by decide) ?_
  refine nf_ic_eq hx hb d_F_compare_28 (tgt := 41) (by decide) (fun hc => ?_) (fun hc => ?_)
  · have h := h.1 hc
    exact w_F_compare_41 hfl K r1 r3 M8 _ _ _ h (lv_sub hl [1, 0] rfl) hw
  · have h := h.2 hc
    refine lv_aload hx hb d_F_compare_31 (lv_at hl 0 rfl) ?_
    refine nf_getN (v := .int (mg_T M8 r3)) K hw (10 + (r3 : Fin 9).val) 4 0 nv_39 (nf_heV _ _ _) rfl ni_V (by decide) rfl rfl d_F_compare_33 ?_
    refine lv_bipush (v := (9 : Int32)) hx hb d_F_compare_36 (by decide) ?_
    refine nf_ic_ne hx hb d_F_compare_38 (tgt := 54) (by decide) (fun hc => ?_) (fun hc => ?_)
    · have h := h.1 hc
      exact w_F_compare_41 hfl K r1 r3 M8 _ _ _ h (lv_sub hl [1, 0] rfl) hw
    · have h := h.2 hc
      refine lv_aload_n hx hb d_F_compare_54 rfl (lv_at hl 1 rfl) ?_
      refine nf_getN (v := .int (mg_T M8 r1)) K hw (10 + (r1 : Fin 9).val) 4 0 nv_39 (nf_heV _ _ _) rfl ni_V (by decide) rfl rfl d_F_compare_55 ?_
      refine lv_bipush (v := (8 : Int32)) hx hb d_F_compare_58 (by decide) ?_
      refine nf_ic_eq hx hb d_F_compare_60 (tgt := 73) (by decide) (fun hc => ?_) (fun hc => ?_)
      · have h := h.1 hc
        exact w_F_compare_73 hfl K r1 r3 M8 _ _ _ h (lv_sub hl [1, 0] rfl) hw
      · have h := h.2 hc
        refine lv_aload hx hb d_F_compare_63 (lv_at hl 0 rfl) ?_
        refine nf_getN (v := .int (mg_T M8 r3)) K hw (10 + (r3 : Fin 9).val) 4 0 nv_39 (nf_heV _ _ _) rfl ni_V (by decide) rfl rfl d_F_compare_65 ?_
        refine lv_bipush (v := (8 : Int32)) hx hb d_F_compare_68 (by decide) ?_
        refine nf_ic_ne hx hb d_F_compare_70 (tgt := 88) (by decide) (fun hc => ?_) (fun hc => ?_)
        · have h := h.1 hc
          exact w_F_compare_73 hfl K r1 r3 M8 _ _ _ h (lv_sub hl [1, 0] rfl) hw
        · have h := h.2 hc
          refine lv_aload_n hx hb d_F_compare_88 rfl (lv_at hl 1 rfl) ?_
          refine lv_aload hx hb d_F_compare_89 (lv_at hl 0 rfl) ?_
          refine nf_callW (ex := (fun _ _ => False)) (As := [.ref (a (10 + (r1 : Fin 9).val)), .ref (a (10 + (r3 : Fin 9).val))]) (st0 := [.ref (a (10 + (r3 : Fin 9).val)), .ref (a (10 + (r1 : Fin 9).val))]) (rest := []) K hw (nf_invS hx hb K.2.2.2.1 (nf_Kg K nw_697) (nf_Kg K nw_698) (nf_Kg K nw_1) (nf_Kg K nw_699) ⟨by decide, by decide⟩ rfl nl_F_exactOrder rfl d_F_compare_91) (c_F_exactOrder l hfl r1 r3) nw_699 nw_1 rfl ⟨by decide, by decide⟩ (Nat.le_of_ble_eq_true rfl) hl.1 ⟨Nat.le_of_ble_eq_true rfl, Nat.le_of_ble_eq_true rfl⟩ h (fun _ _ h => h.elim) (fun r9 M10 H locs h hw => ?_)
          refine W.eq (g2 := F0 m 94 ls [.int r9]) rfl ?_
          exact nf_iret K hw d_F_compare_94 rfl (Nat.le_of_ble_eq_true rfl) (Nat.le_of_ble_eq_true rfl) (r := r9) rfl h
theorem d_F_real_0 : decode nb_F_real 0 = .ok (.aload_n 0, 1) := by decide +kernel
theorem d_F_real_1 : decode nb_F_real 1 = .ok (.iload_n 1, 1) := by decide +kernel
theorem d_F_real_2 : decode nb_F_real 2 = .ok (.invokevirtual 71, 3) := by decide +kernel
theorem d_F_real_5 : decode nb_F_real 5 = .ok (.astore_n 2, 1) := by decide +kernel
theorem d_F_real_6 : decode nb_F_real 6 = .ok (.aload_n 2, 1) := by decide +kernel
theorem d_F_real_7 : decode nb_F_real 7 = .ok (.invokestatic 121, 3) := by decide +kernel
theorem d_F_real_10 : decode nb_F_real 10 = .ok (.aload_n 2, 1) := by decide +kernel
theorem d_F_real_11 : decode nb_F_real 11 = .ok (.invokevirtual 154, 3) := by decide +kernel
theorem d_F_real_14 : decode nb_F_real 14 = .ok (.dreturn, 1) := by decide +kernel
abbrev rm_F_real : Room := ({ frames := 7, cells := 2, slots := 12, locals := 121 })
theorem c_F_real (l : Launch) (hfl : l.flags = flags0) (x1 : Int32) : nf_C nf_jD l nm_F_real nb_F_real 3 (some FieldType.double) rm_F_real (fun a => [.ref (a 0), .int x1]) (fun M post ex => P_F_real x1 M post ex) := by
  refine nf_start (plainFor_of_name (by decide +kernel)) (fun a => Nat.le_of_ble_eq_true rfl) ?_
  intro D a sz M post ex p e s m below meth c ls h K hl hw
  have hx := K.1
  have hb := K.2.1
  have hl : lv_has ls 3 [(0, .ref (a 0)), (1, .int x1)] := hl
  refine lv_aload_n hx hb d_F_real_0 rfl (lv_at hl 0 rfl) ?_
  refine lv_iload_n hx hb d_F_real_1 rfl (lv_at hl 1 rfl) ?_
  refine nf_callW (ex := ex) (As := [.ref (a 0), .int x1]) (st0 := [.int x1, .ref (a 0)]) (rest := []) K hw (nf_invV hx hb K.2.2.2.1 (nf_Kg K nw_243) (nf_Kg K nw_245) (nf_Kg K nx_F_register) (nf_Kg K nw_246) ⟨by decide, by decide⟩ (nf_rcv K hw 0 6 rfl rfl) rfl nl_F_register rfl d_F_real_2) (c_F_register l hfl x1) nw_246 nw_1 rfl ⟨by decide, by decide⟩ (Nat.le_of_ble_eq_true rfl) hl.1 ⟨Nat.le_of_ble_eq_true rfl, Nat.le_of_ble_eq_true rfl⟩ h (fun _ _ h => h) (fun r1 M2 H locs h hw => ?_)
  refine W.eq (g2 := F0 m 5 ls [.ref (a (10 + (r1 : Fin 9).val))]) rfl ?_
  refine W.widen (k := 1) (n := 6) (by decide) (by decide) ?_
  refine lv_astore_n (lv' := [(2, .ref (a (10 + (r1 : Fin 9).val))), (0, .ref (a 0)), (1, .int x1)]) hx hb d_F_real_5 rfl hl (by decide) rfl (fun ls hl => ?_)
  refine lv_aload_n hx hb d_F_real_6 rfl (lv_at hl 0 rfl) ?_
  refine nf_callW (ex := ex) (As := [.ref (a (10 + (r1 : Fin 9).val))]) (st0 := [.ref (a (10 + (r1 : Fin 9).val))]) (rest := []) K hw (nf_invS hx hb K.2.2.2.1 (nf_Kg K nw_449) (nf_Kg K nw_450) (nf_Kg K nw_1) (nf_Kg K nw_451) ⟨by decide, by decide⟩ rfl nl_F_checkFull rfl d_F_real_7) (c_F_checkFull l hfl r1) nw_451 nw_1 rfl ⟨by decide, by decide⟩ (Nat.le_of_ble_eq_true rfl) hl.1 ⟨Nat.le_of_ble_eq_true rfl, Nat.le_of_ble_eq_true rfl⟩ h (fun _ _ h => h) (fun r3 M4 H locs h hw => ?_)
  refine W.eq (g2 := F0 m 10 ls []) rfl ?_
  refine W.widen (k := 2) (n := 12) (by decide) (by decide) ?_
  refine lv_aload_n hx hb d_F_real_10 rfl (lv_at hl 0 rfl) ?_
  refine nf_callW (ex := (fun _ _ => False)) (As := [.ref (a (10 + (r1 : Fin 9).val))]) (st0 := [.ref (a (10 + (r1 : Fin 9).val))]) (rest := []) K hw (nf_invVN hx hb K.2.2.2.1 ((nf_Kr K nv_476).use rfl) (nf_Kg K nw_478) (nf_Kg K nx_V_asDouble) (nf_Kg K nw_479) ⟨by decide, by decide⟩ (nf_rcv K hw (10 + (r1 : Fin 9).val) 4 (nf_heV _ _ _) rfl) rfl nl_V_asDouble rfl d_F_real_11) (c_V_asDouble l hfl r1) nw_479 nw_2 rfl ⟨by decide, by decide⟩ (Nat.le_of_ble_eq_true rfl) hl.1 ⟨Nat.le_of_ble_eq_true rfl, Nat.le_of_ble_eq_true rfl⟩ h (fun _ _ h => h.elim) (fun r5 M6 H locs h hw => ?_)
  refine W.eq (g2 := F0 m 14 ls [.double r5]) rfl ?_
  exact nf_dret K hw d_F_real_14 (Nat.le_of_ble_eq_true rfl) (Nat.le_of_ble_eq_true rfl) (r := r5) rfl h
theorem d_F_isMinusZero_0 : decode nb_F_isMinusZero 0 = .ok (.dload_n 0, 1) := by decide +kernel
theorem d_F_isMinusZero_1 : decode nb_F_isMinusZero 1 = .ok (.dconst 0, 1) := by decide +kernel
theorem d_F_isMinusZero_2 : decode nb_F_isMinusZero 2 = .ok (.dcmp .l, 1) := by decide +kernel
theorem d_F_isMinusZero_3 : decode nb_F_isMinusZero 3 = .ok (.ifCond .ne 15, 3) := by decide +kernel
theorem d_F_isMinusZero_6 : decode nb_F_isMinusZero 6 = .ok (.dconst 1, 1) := by decide +kernel
theorem d_F_isMinusZero_7 : decode nb_F_isMinusZero 7 = .ok (.dload_n 0, 1) := by decide +kernel
theorem d_F_isMinusZero_8 : decode nb_F_isMinusZero 8 = .ok (.ddiv, 1) := by decide +kernel
theorem d_F_isMinusZero_9 : decode nb_F_isMinusZero 9 = .ok (.dconst 0, 1) := by decide +kernel
theorem d_F_isMinusZero_10 : decode nb_F_isMinusZero 10 = .ok (.dcmp .g, 1) := by decide +kernel
theorem d_F_isMinusZero_11 : decode nb_F_isMinusZero 11 = .ok (.ifCond .ge 7, 3) := by decide +kernel
theorem d_F_isMinusZero_14 : decode nb_F_isMinusZero 14 = .ok (.iconst 1, 1) := by decide +kernel
theorem d_F_isMinusZero_15 : decode nb_F_isMinusZero 15 = .ok (.goto 4, 3) := by decide +kernel
theorem d_F_isMinusZero_18 : decode nb_F_isMinusZero 18 = .ok (.iconst 0, 1) := by decide +kernel
theorem d_F_isMinusZero_19 : decode nb_F_isMinusZero 19 = .ok (.ireturn, 1) := by decide +kernel
abbrev rm_F_isMinusZero : Room := ({ frames := 0, cells := 0, slots := 0, locals := 0 })
theorem w_F_isMinusZero_19 {post : Int32 → nf_M → Prop} (hfl : l.flags = flags0) (K : nf_K p s m args meth c "NumberForge" nb_F_isMinusZero 2 (some FieldType.boolean) D a sz) : ∀ (xy0 : Int32) (M : nf_M) (H : Heap) (locs : List Loc) (ls : Array Slot), B_F_isMinusZero_19 post xy0 M → lv_has ls 2 [] → nf_W D a s sz H locs M → W p l e rm_F_isMinusZero s m args below meth c H locs 0 0 (nf_MQ below (nf_Q nf_jI D a post ex (nf_A a sz)) args s rm_F_isMinusZero.cells rm_F_isMinusZero.slots (nf_A a sz)) (F0 m 19 ls [.int xy0]) := by
  have hx := K.1
  have hb := K.2.1
  intro xy0 M H locs ls h hl hw
  obtain ⟨g1, h⟩ := h
  exact nf_iret K hw d_F_isMinusZero_19 g1 (Nat.le_of_ble_eq_true rfl) (Nat.le_of_ble_eq_true rfl) (r := xy0) rfl h
theorem w_F_isMinusZero_18 {post : Int32 → nf_M → Prop} (hfl : l.flags = flags0) (K : nf_K p s m args meth c "NumberForge" nb_F_isMinusZero 2 (some FieldType.boolean) D a sz) : ∀ (M : nf_M) (H : Heap) (locs : List Loc) (ls : Array Slot), B_F_isMinusZero_18 post  M → lv_has ls 2 [] → nf_W D a s sz H locs M → W p l e rm_F_isMinusZero s m args below meth c H locs 0 0 (nf_MQ below (nf_Q nf_jI D a post ex (nf_A a sz)) args s rm_F_isMinusZero.cells rm_F_isMinusZero.slots (nf_A a sz)) (F0 m 18 ls []) := by
  have hx := K.1
  have hb := K.2.1
  intro  M H locs ls h hl hw
  refine lv_iconst (v := (0 : Int32)) hx hb d_F_isMinusZero_18 (by decide) ?_
  exact w_F_isMinusZero_19 hfl K (0 : Int32) M _ _ _ h (lv_sub hl [] rfl) hw
theorem c_F_isMinusZero (l : Launch) (hfl : l.flags = flags0) (x0 : UInt64) : nf_C nf_jI l nm_F_isMinusZero nb_F_isMinusZero 2 (some FieldType.boolean) rm_F_isMinusZero (fun a => [.double x0]) (fun M post ex => P_F_isMinusZero x0 M post) := by
  refine nf_start (plainFor_of_name (by decide +kernel)) (fun a => Nat.le_of_ble_eq_true rfl) ?_
  intro D a sz M post ex p e s m below meth c ls h K hl hw
  have hx := K.1
  have hb := K.2.1
  have hl : lv_has ls 2 [(0, .double x0)] := hl
  refine lv_dload_n hx hb d_F_isMinusZero_0 rfl (lv_at hl 0 rfl) ?_
  refine lv_dconst0 hx hb d_F_isMinusZero_1 ?_
  refine nf_dl_ne hx hb d_F_isMinusZero_2 d_F_isMinusZero_3 (tgt := 18) (by decide) (fun hc => ?_) (fun hc => ?_)
  · have h := h.1 hc
    refine lv_dconst1 hx hb d_F_isMinusZero_6 ?_
    refine lv_dload_n hx hb d_F_isMinusZero_7 rfl (lv_at hl 0 rfl) ?_
    obtain ⟨g1, h⟩ := h
    refine lv_ddiv hx hb d_F_isMinusZero_8 g1 ?_
    refine lv_dconst0 hx hb d_F_isMinusZero_9 ?_
    refine nf_dg_ge hx hb d_F_isMinusZero_10 d_F_isMinusZero_11 (tgt := 18) (by decide) (fun hc => ?_) (fun hc => ?_)
    · have h := h.1 hc
      refine lv_iconst (v := (1 : Int32)) hx hb d_F_isMinusZero_14 (by decide) ?_
      refine lv_goto hx hb d_F_isMinusZero_15 (tgt := 19) (by decide) ?_
      exact w_F_isMinusZero_19 hfl K (1 : Int32) M _ _ _ h (lv_sub hl [] rfl) hw
    · have h := h.2 hc
      exact w_F_isMinusZero_18 hfl K  M _ _ _ h (lv_sub hl [] rfl) hw
  · have h := h.2 hc
    exact w_F_isMinusZero_18 hfl K  M _ _ _ h (lv_sub hl [] rfl) hw
theorem d_R_addText_0 : decode nb_R_addText 0 = .ok (.iconst 0, 1) := by decide +kernel
theorem d_R_addText_1 : decode nb_R_addText 1 = .ok (.istore_n 2, 1) := by decide +kernel
theorem d_R_addText_2 : decode nb_R_addText 2 = .ok (.iload_n 2, 1) := by decide +kernel
theorem d_R_addText_3 : decode nb_R_addText 3 = .ok (.aload_n 1, 1) := by decide +kernel
theorem d_R_addText_4 : decode nb_R_addText 4 = .ok (.invokevirtual 23, 3) := by decide +kernel
theorem d_R_addText_7 : decode nb_R_addText 7 = .ok (.if_icmp .ge 18, 3) := by decide +kernel
theorem d_R_addText_10 : decode nb_R_addText 10 = .ok (.aload_n 0, 1) := by decide +kernel
theorem d_R_addText_11 : decode nb_R_addText 11 = .ok (.aload_n 1, 1) := by decide +kernel
theorem d_R_addText_12 : decode nb_R_addText 12 = .ok (.iload_n 2, 1) := by decide +kernel
theorem d_R_addText_13 : decode nb_R_addText 13 = .ok (.invokevirtual 28, 3) := by decide +kernel
theorem d_R_addText_16 : decode nb_R_addText 16 = .ok (.invokevirtual 32, 3) := by decide +kernel
theorem d_R_addText_19 : decode nb_R_addText 19 = .ok (.iinc 2 1, 3) := by decide +kernel
theorem d_R_addText_22 : decode nb_R_addText 22 = .ok (.goto (-20), 3) := by decide +kernel
theorem d_R_addText_25 : decode nb_R_addText 25 = .ok (.return_, 1) := by decide +kernel
abbrev rm_R_addText : Room := ({ frames := 6, cells := 0, slots := 0, locals := 161 })
theorem w_R_addText_2 {post : Unit → nf_M → Prop} (hfl : l.flags = flags0) (K : nf_K p s m args meth c "NumberForge$Row" nb_R_addText 3 none D a sz) : ∀ (n : Nat) (b0 : Bool) (q1 : Fin 5) (x2 : Int32) (M : nf_M) (H : Heap) (locs : List Loc) (ls : Array Slot), B_R_addText_2 post n b0 q1 x2 M → lv_has ls 3 [(0, .ref (a (nf_ro b0))), (1, .ref (a (100 + (q1 : Fin 5).val))), (2, .int x2)] → nf_W D a s sz H locs M → W p l e rm_R_addText s m args below meth c H locs 0 0 (nf_MQ below (nf_Q nf_jN D a post ex (nf_A a sz)) args s rm_R_addText.cells rm_R_addText.slots (nf_A a sz)) (F0 m 2 ls []) := by
  have hx := K.1
  have hb := K.2.1
  intro n
  induction n with
  | zero => intro b0 q1 x2 M H locs ls h hl hw; exact h.elim
  | succ n ih =>
    intro b0 q1 x2 M H locs ls h hl hw
    refine lv_iload_n hx hb d_R_addText_2 rfl (lv_at hl 2 rfl) ?_
    refine lv_aload_n hx hb d_R_addText_3 rfl (lv_at hl 1 rfl) ?_
    refine nf_callW (ex := (fun _ _ => False)) (As := [.ref (a (100 + (q1 : Fin 5).val))]) (st0 := [.ref (a (100 + (q1 : Fin 5).val)), .int x2]) (rest := [.int x2]) K hw (nf_invV hx hb K.2.2.2.1 (nf_Kg K nw_735) (nf_Kg K nw_736) (nf_Kg K nw_737) (nf_Kg K nw_738) ⟨by decide, by decide⟩ (nf_rcvS K hw q1) rfl nl_JS_length rfl d_R_addText_4) (c_JS_length l hfl q1) nw_738 nw_19 rfl ⟨by decide, by decide⟩ (Nat.le_of_ble_eq_true rfl) hl.1 ⟨Nat.le_of_ble_eq_true rfl, Nat.le_of_ble_eq_true rfl⟩ h (fun _ _ h => h.elim) (fun r1 M2 H locs h hw => ?_)
    refine W.eq (g2 := F0 m 7 ls [.int r1, .int x2]) rfl ?_
    refine nf_ic_ge hx hb d_R_addText_7 (tgt := 25) (by decide) (fun hc => ?_) (fun hc => ?_)
    · have h := h.1 hc
      refine lv_aload_n hx hb d_R_addText_10 rfl (lv_at hl 0 rfl) ?_
      refine lv_aload_n hx hb d_R_addText_11 rfl (lv_at hl 1 rfl) ?_
      refine lv_iload_n hx hb d_R_addText_12 rfl (lv_at hl 2 rfl) ?_
      refine nf_callW (ex := (fun _ _ => False)) (As := [.ref (a (100 + (q1 : Fin 5).val)), .int x2]) (st0 := [.int x2, .ref (a (100 + (q1 : Fin 5).val)), .ref (a (nf_ro b0))]) (rest := [.ref (a (nf_ro b0))]) K hw (nf_invV hx hb K.2.2.2.1 (nf_Kg K nw_745) (nf_Kg K nw_746) (nf_Kg K nw_747) (nf_Kg K nw_748) ⟨by decide, by decide⟩ (nf_rcvS K hw q1) rfl nl_JS_charAt rfl d_R_addText_13) (c_JS_charAt l hfl q1 x2) nw_748 nw_19 rfl ⟨by decide, by decide⟩ (Nat.le_of_ble_eq_true rfl) hl.1 ⟨Nat.le_of_ble_eq_true rfl, Nat.le_of_ble_eq_true rfl⟩ h (fun _ _ h => h.elim) (fun r3 M4 H locs h hw => ?_)
      refine W.eq (g2 := F0 m 16 ls [.int r3, .ref (a (nf_ro b0))]) rfl ?_
      refine nf_callW (ex := (fun _ _ => False)) (As := [.ref (a (nf_ro b0)), .int r3]) (st0 := [.int r3, .ref (a (nf_ro b0))]) (rest := []) K hw (nf_invV hx hb K.2.2.2.1 (nf_Kg K nw_783) (nf_Kg K nw_199) (nf_Kg K nx_R_add) (nf_Kg K nw_200) ⟨by decide, by decide⟩ (nf_rcv K hw (nf_ro b0) 3 (nf_heR _ _ _) rfl) rfl nl_R_add rfl d_R_addText_16) (c_R_add l hfl b0 r3) nw_200 nw_3 rfl ⟨by decide, by decide⟩ (Nat.le_of_ble_eq_true rfl) hl.1 ⟨Nat.le_of_ble_eq_true rfl, Nat.le_of_ble_eq_true rfl⟩ h (fun _ _ h => h.elim) (fun r5 M6 H locs h hw => ?_)
      refine W.eq (g2 := F0 m 19 ls []) rfl ?_
      refine lv_iinc (k := 2) (v := x2 + (1 : Int32)) (lv' := [(2, .int (x2 + (1 : Int32))), (0, .ref (a (nf_ro b0))), (1, .ref (a (100 + (q1 : Fin 5).val)))]) hx hb d_R_addText_19 hl rfl (nf_inc (by decide)) (by decide) rfl (fun ls hl => ?_)
      refine lv_goto hx hb d_R_addText_22 (tgt := 2) (by decide) ?_
      exact ih b0 q1 (x2 + (1 : Int32)) M6 _ _ _ h (lv_sub hl [1, 2, 0] rfl) hw
    · have h := h.2 hc
      exact nf_vret K hw d_R_addText_25 (Nat.le_of_ble_eq_true rfl) (Nat.le_of_ble_eq_true rfl) (r := ()) rfl h
theorem c_R_addText (l : Launch) (hfl : l.flags = flags0) (b0 : Bool) (q1 : Fin 5) : nf_C nf_jN l nm_R_addText nb_R_addText 3 none rm_R_addText (fun a => [.ref (a (nf_ro b0)), .ref (a (100 + (q1 : Fin 5).val))]) (fun M post ex => P_R_addText b0 q1 M post) := by
  refine nf_start (plainFor_of_name (by decide +kernel)) (fun a => Nat.le_of_ble_eq_true rfl) ?_
  intro D a sz M post ex p e s m below meth c ls h K hl hw
  have hx := K.1
  have hb := K.2.1
  have hl : lv_has ls 3 [(0, .ref (a (nf_ro b0))), (1, .ref (a (100 + (q1 : Fin 5).val)))] := hl
  refine lv_iconst (v := (0 : Int32)) hx hb d_R_addText_0 (by decide) ?_
  refine lv_istore_n (lv' := [(2, .int (0 : Int32)), (0, .ref (a (nf_ro b0))), (1, .ref (a (100 + (q1 : Fin 5).val)))]) hx hb d_R_addText_1 rfl hl (by decide) rfl (fun ls hl => ?_)
  obtain ⟨n, h⟩ := h
  exact w_R_addText_2 hfl K n b0 q1 (0 : Int32) M _ _ _ h (lv_sub hl [1, 2, 0] rfl) hw
theorem d_D_leadingPower_0 : decode nb_D_leadingPower 0 = .ok (.bipush 14, 2) := by decide +kernel
theorem d_D_leadingPower_2 : decode nb_D_leadingPower 2 = .ok (.istore_n 2, 1) := by decide +kernel
theorem d_D_leadingPower_3 : decode nb_D_leadingPower 3 = .ok (.iload_n 2, 1) := by decide +kernel
theorem d_D_leadingPower_4 : decode nb_D_leadingPower 4 = .ok (.bipush (-8), 2) := by decide +kernel
theorem d_D_leadingPower_6 : decode nb_D_leadingPower 6 = .ok (.if_icmp .le 19, 3) := by decide +kernel
theorem d_D_leadingPower_9 : decode nb_D_leadingPower 9 = .ok (.dconst 1, 1) := by decide +kernel
theorem d_D_leadingPower_10 : decode nb_D_leadingPower 10 = .ok (.iload_n 2, 1) := by decide +kernel
theorem d_D_leadingPower_11 : decode nb_D_leadingPower 11 = .ok (.invokestatic 30, 3) := by decide +kernel
theorem d_D_leadingPower_14 : decode nb_D_leadingPower 14 = .ok (.dload_n 0, 1) := by decide +kernel
theorem d_D_leadingPower_15 : decode nb_D_leadingPower 15 = .ok (.dcmp .l, 1) := by decide +kernel
theorem d_D_leadingPower_16 : decode nb_D_leadingPower 16 = .ok (.ifCond .le 9, 3) := by decide +kernel
theorem d_D_leadingPower_19 : decode nb_D_leadingPower 19 = .ok (.iinc 2 (-1), 3) := by decide +kernel
theorem d_D_leadingPower_22 : decode nb_D_leadingPower 22 = .ok (.goto (-19), 3) := by decide +kernel
theorem d_D_leadingPower_25 : decode nb_D_leadingPower 25 = .ok (.iload_n 2, 1) := by decide +kernel
theorem d_D_leadingPower_26 : decode nb_D_leadingPower 26 = .ok (.ireturn, 1) := by decide +kernel
abbrev rm_D_leadingPower : Room := ({ frames := 2, cells := 0, slots := 0, locals := 45 })
theorem w_D_leadingPower_25 {post : Int32 → nf_M → Prop} (hfl : l.flags = flags0) (K : nf_K p s m args meth c "NumberForge$Digits" nb_D_leadingPower 3 (some FieldType.int) D a sz) : ∀ (x2 : Int32) (M : nf_M) (H : Heap) (locs : List Loc) (ls : Array Slot), B_D_leadingPower_25 post x2 M → lv_has ls 3 [(2, .int x2)] → nf_W D a s sz H locs M → W p l e rm_D_leadingPower s m args below meth c H locs 0 0 (nf_MQ below (nf_Q nf_jI D a post ex (nf_A a sz)) args s rm_D_leadingPower.cells rm_D_leadingPower.slots (nf_A a sz)) (F0 m 25 ls []) := by
  have hx := K.1
  have hb := K.2.1
  intro x2 M H locs ls h hl hw
  refine lv_iload_n hx hb d_D_leadingPower_25 rfl (lv_at hl 0 rfl) ?_
  exact nf_iret K hw d_D_leadingPower_26 rfl (Nat.le_of_ble_eq_true rfl) (Nat.le_of_ble_eq_true rfl) (r := x2) rfl h
theorem w_D_leadingPower_3 {post : Int32 → nf_M → Prop} (hfl : l.flags = flags0) (K : nf_K p s m args meth c "NumberForge$Digits" nb_D_leadingPower 3 (some FieldType.int) D a sz) : ∀ (n : Nat) (x0 : UInt64) (x2 : Int32) (M : nf_M) (H : Heap) (locs : List Loc) (ls : Array Slot), B_D_leadingPower_3 post n x0 x2 M → lv_has ls 3 [(0, .double x0), (2, .int x2)] → nf_W D a s sz H locs M → W p l e rm_D_leadingPower s m args below meth c H locs 0 0 (nf_MQ below (nf_Q nf_jI D a post ex (nf_A a sz)) args s rm_D_leadingPower.cells rm_D_leadingPower.slots (nf_A a sz)) (F0 m 3 ls []) := by
  have hx := K.1
  have hb := K.2.1
  intro n
  induction n with
  | zero => intro x0 x2 M H locs ls h hl hw; exact h.elim
  | succ n ih =>
    intro x0 x2 M H locs ls h hl hw
    refine lv_iload_n hx hb d_D_leadingPower_3 rfl (lv_at hl 1 rfl) ?_
    refine lv_bipush (v := (-8 : Int32)) hx hb d_D_leadingPower_4 (by decide) ?_
    refine nf_ic_le hx hb d_D_leadingPower_6 (tgt := 25) (by decide) (fun hc => ?_) (fun hc => ?_)
    · have h := h.1 hc
      refine lv_dconst1 hx hb d_D_leadingPower_9 ?_
      refine lv_iload_n hx hb d_D_leadingPower_10 rfl (lv_at hl 1 rfl) ?_
      refine nf_callW (ex := (fun _ _ => False)) (As := [.double (FP.dconst1), .int x2]) (st0 := [.int x2, .double (FP.dconst1)]) (rest := []) K hw (nf_invSN hx hb K.2.2.2.1 ((nf_Kr K nv_795).use rfl) (nf_Kg K nw_398) (nf_Kg K nw_1) (nf_Kg K nw_399) ⟨by decide, by decide⟩ rfl nl_F_timesTen rfl d_D_leadingPower_11) (c_F_timesTen l hfl (FP.dconst1) x2) nw_399 nw_1 rfl ⟨by decide, by decide⟩ (Nat.le_of_ble_eq_true rfl) hl.1 ⟨Nat.le_of_ble_eq_true rfl, Nat.le_of_ble_eq_true rfl⟩ h (fun _ _ h => h.elim) (fun r1 M2 H locs h hw => ?_)
      refine W.eq (g2 := F0 m 14 ls [.double r1]) rfl ?_
      refine lv_dload_n hx hb d_D_leadingPower_14 rfl (lv_at hl 0 rfl) ?_
      refine nf_dl_le hx hb d_D_leadingPower_15 d_D_leadingPower_16 (tgt := 25) (by decide) (fun hc => ?_) (fun hc => ?_)
      · have h := h.1 hc
        refine lv_iinc (k := 1) (v := x2 + (-1 : Int32)) (lv' := [(2, .int (x2 + (-1 : Int32))), (0, .double x0)]) hx hb d_D_leadingPower_19 hl rfl (nf_inc (by decide)) (by decide) rfl (fun ls hl => ?_)
        refine lv_goto hx hb d_D_leadingPower_22 (tgt := 3) (by decide) ?_
        exact ih x0 (x2 + (-1 : Int32)) M2 _ _ _ h (lv_sub hl [1, 0] rfl) hw
      · have h := h.2 hc
        exact w_D_leadingPower_25 hfl K x2 M2 _ _ _ h (lv_sub hl [1] rfl) hw
    · have h := h.2 hc
      exact w_D_leadingPower_25 hfl K x2 M _ _ _ h (lv_sub hl [1] rfl) hw
theorem c_D_leadingPower (l : Launch) (hfl : l.flags = flags0) (x0 : UInt64) : nf_C nf_jI l nm_D_leadingPower nb_D_leadingPower 3 (some FieldType.int) rm_D_leadingPower (fun a => [.double x0]) (fun M post ex => P_D_leadingPower x0 M post) := by
  refine nf_start (plainFor_of_name (by decide +kernel)) (fun a => Nat.le_of_ble_eq_true rfl) ?_
  intro D a sz M post ex p e s m below meth c ls h K hl hw
  have hx := K.1
  have hb := K.2.1
  have hl : lv_has ls 3 [(0, .double x0)] := hl
  refine lv_bipush (v := (14 : Int32)) hx hb d_D_leadingPower_0 (by decide) ?_
  refine lv_istore_n (lv' := [(2, .int (14 : Int32)), (0, .double x0)]) hx hb d_D_leadingPower_2 rfl hl (by decide) rfl (fun ls hl => ?_)
  obtain ⟨n, h⟩ := h
  exact w_D_leadingPower_3 hfl K n x0 (14 : Int32) M _ _ _ h (lv_sub hl [1, 0] rfl) hw
theorem d_D_dropZeros_0 : decode nb_D_dropZeros 0 = .ok (.iconst 0, 1) := by decide +kernel
theorem d_D_dropZeros_1 : decode nb_D_dropZeros 1 = .ok (.istore_n 1, 1) := by decide +kernel
theorem d_D_dropZeros_2 : decode nb_D_dropZeros 2 = .ok (.iload_n 1, 1) := by decide +kernel
theorem d_D_dropZeros_3 : decode nb_D_dropZeros 3 = .ok (.getstatic 45, 3) := by decide +kernel
theorem d_D_dropZeros_6 : decode nb_D_dropZeros 6 = .ok (.arraylength, 1) := by decide +kernel
theorem d_D_dropZeros_7 : decode nb_D_dropZeros 7 = .ok (.if_icmp .ge 53, 3) := by decide +kernel
theorem d_D_dropZeros_10 : decode nb_D_dropZeros 10 = .ok (.aload_n 0, 1) := by decide +kernel
theorem d_D_dropZeros_11 : decode nb_D_dropZeros 11 = .ok (.getfield 38, 3) := by decide +kernel
theorem d_D_dropZeros_14 : decode nb_D_dropZeros 14 = .ok (.lconst 0, 1) := by decide +kernel
theorem d_D_dropZeros_15 : decode nb_D_dropZeros 15 = .ok (.lcmp, 1) := by decide +kernel
theorem d_D_dropZeros_16 : decode nb_D_dropZeros 16 = .ok (.ifCond .le 44, 3) := by decide +kernel
theorem d_D_dropZeros_19 : decode nb_D_dropZeros 19 = .ok (.aload_n 0, 1) := by decide +kernel
theorem d_D_dropZeros_20 : decode nb_D_dropZeros 20 = .ok (.getfield 38, 3) := by decide +kernel
theorem d_D_dropZeros_23 : decode nb_D_dropZeros 23 = .ok (.ldc2_w 49, 3) := by decide +kernel
theorem d_D_dropZeros_26 : decode nb_D_dropZeros 26 = .ok (.lrem, 1) := by decide +kernel
theorem d_D_dropZeros_27 : decode nb_D_dropZeros 27 = .ok (.lconst 0, 1) := by decide +kernel
theorem d_D_dropZeros_28 : decode nb_D_dropZeros 28 = .ok (.lcmp, 1) := by decide +kernel
theorem d_D_dropZeros_29 : decode nb_D_dropZeros 29 = .ok (.ifCond .ne 31, 3) := by decide +kernel
theorem d_D_dropZeros_32 : decode nb_D_dropZeros 32 = .ok (.aload_n 0, 1) := by decide +kernel
theorem d_D_dropZeros_33 : decode nb_D_dropZeros 33 = .ok (.aload_n 0, 1) := by decide +kernel
theorem d_D_dropZeros_34 : decode nb_D_dropZeros 34 = .ok (.getfield 38, 3) := by decide +kernel
theorem d_D_dropZeros_37 : decode nb_D_dropZeros 37 = .ok (.ldc2_w 49, 3) := by decide +kernel
theorem d_D_dropZeros_40 : decode nb_D_dropZeros 40 = .ok (.ldiv, 1) := by decide +kernel
theorem d_D_dropZeros_41 : decode nb_D_dropZeros 41 = .ok (.putfield 38, 3) := by decide +kernel
theorem d_D_dropZeros_44 : decode nb_D_dropZeros 44 = .ok (.aload_n 0, 1) := by decide +kernel
theorem d_D_dropZeros_45 : decode nb_D_dropZeros 45 = .ok (.dup, 1) := by decide +kernel
theorem d_D_dropZeros_46 : decode nb_D_dropZeros 46 = .ok (.getfield 26, 3) := by decide +kernel
theorem d_D_dropZeros_49 : decode nb_D_dropZeros 49 = .ok (.iconst 1, 1) := by decide +kernel
theorem d_D_dropZeros_50 : decode nb_D_dropZeros 50 = .ok (.iadd, 1) := by decide +kernel
theorem d_D_dropZeros_51 : decode nb_D_dropZeros 51 = .ok (.putfield 26, 3) := by decide +kernel
theorem d_D_dropZeros_54 : decode nb_D_dropZeros 54 = .ok (.iinc 1 1, 3) := by decide +kernel
theorem d_D_dropZeros_57 : decode nb_D_dropZeros 57 = .ok (.goto (-55), 3) := by decide +kernel
theorem d_D_dropZeros_60 : decode nb_D_dropZeros 60 = .ok (.return_, 1) := by decide +kernel
abbrev rm_D_dropZeros : Room := ({ frames := 0, cells := 0, slots := 0, locals := 0 })
theorem w_D_dropZeros_60 {post : Unit → nf_M → Prop} (hfl : l.flags = flags0) (K : nf_K p s m args meth c "NumberForge$Digits" nb_D_dropZeros 2 none D a sz) : ∀ (M : nf_M) (H : Heap) (locs : List Loc) (ls : Array Slot), B_D_dropZeros_60 post  M → lv_has ls 2 [] → nf_W D a s sz H locs M → W p l e rm_D_dropZeros s m args below meth c H locs 0 0 (nf_MQ below (nf_Q nf_jN D a post ex (nf_A a sz)) args s rm_D_dropZeros.cells rm_D_dropZeros.slots (nf_A a sz)) (F0 m 60 ls []) := by
  have hx := K.1
  have hb := K.2.1
  intro  M H locs ls h hl hw
  exact nf_vret K hw d_D_dropZeros_60 (Nat.le_of_ble_eq_true rfl) (Nat.le_of_ble_eq_true rfl) (r := ()) rfl h
theorem w_D_dropZeros_2 {post : Unit → nf_M → Prop} (hfl : l.flags = flags0) (K : nf_K p s m args meth c "NumberForge$Digits" nb_D_dropZeros 2 none D a sz) : ∀ (n : Nat) (x1 : Int32) (M : nf_M) (H : Heap) (locs : List Loc) (ls : Array Slot), B_D_dropZeros_2 post n x1 M → lv_has ls 2 [(0, .ref (a 8)), (1, .int x1)] → nf_W D a s sz H locs M → W p l e rm_D_dropZeros s m args below meth c H locs 0 0 (nf_MQ below (nf_Q nf_jN D a post ex (nf_A a sz)) args s rm_D_dropZeros.cells rm_D_dropZeros.slots (nf_A a sz)) (F0 m 2 ls []) := by
  have hx := K.1
  have hb := K.2.1
  intro n
  induction n with
  | zero => intro x1 M H locs ls h hl hw; exact h.elim
  | succ n ih =>
    intro x1 M H locs ls h hl hw
    refine lv_iload_n hx hb d_D_dropZeros_2 rfl (lv_at hl 1 rfl) ?_
    refine nf_getsN K hw (nf_st0 K).1 nv_801 d_D_dropZeros_3 ?_
    refine va_tlen (v := (16 : Int32)) hx hb (nf_st0 K).2.1 hw.2.2 (by decide) d_D_dropZeros_6 ?_
    refine nf_ic_ge hx hb d_D_dropZeros_7 (tgt := 60) (by decide) (fun hc => ?_) (fun hc => ?_)
    · have h := h.1 hc
      refine lv_aload_n hx hb d_D_dropZeros_10 rfl (lv_at hl 0 rfl) ?_
      refine nf_get (v := .long (mg_L M 8 0)) K hw 8 0 0 nw_145 rfl rfl ni_D (by decide) rfl rfl d_D_dropZeros_11 ?_
      refine lv_lconst (v := (0 : Int64)) hx hb d_D_dropZeros_14 (by decide) ?_
      refine nf_lc_le hx hb d_D_dropZeros_15 d_D_dropZeros_16 (tgt := 60) (by decide) (fun hc => ?_) (fun hc => ?_)
      · have h := h.1 hc
        refine lv_aload_n hx hb d_D_dropZeros_19 rfl (lv_at hl 0 rfl) ?_
        refine nf_get (v := .long (mg_L M 8 0)) K hw 8 0 0 nw_145 rfl rfl ni_D (by decide) rfl rfl d_D_dropZeros_20 ?_
        refine lv_ldc2 (v := (10 : Int64)) hx hb K.2.2.2.1 (nf_Kg K nw_802) d_D_dropZeros_23 ?_
        refine lv_lrem hx hb d_D_dropZeros_26 (by decide) ?_
        refine lv_lconst (v := (0 : Int64)) hx hb d_D_dropZeros_27 (by decide) ?_
        refine nf_lc_ne hx hb d_D_dropZeros_28 d_D_dropZeros_29 (tgt := 60) (by decide) (fun hc => ?_) (fun hc => ?_)
        · have h := h.1 hc
          refine lv_aload_n hx hb d_D_dropZeros_32 rfl (lv_at hl 0 rfl) ?_
          refine lv_aload_n hx hb d_D_dropZeros_33 rfl (lv_at hl 0 rfl) ?_
          refine nf_get (v := .long (mg_L M 8 0)) K hw 8 0 0 nw_145 rfl rfl ni_D (by decide) rfl rfl d_D_dropZeros_34 ?_
          refine lv_ldc2 (v := (10 : Int64)) hx hb K.2.2.2.1 (nf_Kg K nw_802) d_D_dropZeros_37 ?_
          refine lv_ldiv hx hb d_D_dropZeros_40 (by decide) ?_
          refine lv_topl (fun t1 et1 => ?_)
          have h := h t1 et1
          refine nf_put (M' := ms_L M 8 0 t1) K hw 8 0 0 nw_145 rfl rfl rfl ni_D ny_D nq_D nn_D (by decide) rfl rfl rfl rfl (Nat.le_of_ble_eq_true rfl) d_D_dropZeros_41 (fun H locs hw => ?_)
          obtain ⟨M2, eM2⟩ : ∃ z, z = ms_L M 8 0 t1 := ⟨_, rfl⟩
          rw [← eM2] at hw
          have h := h M2 eM2
          refine lv_aload_n hx hb d_D_dropZeros_44 rfl (lv_at hl 0 rfl) ?_
          refine lv_dup hx hb d_D_dropZeros_45 rfl ?_
          refine nf_get (v := .int (mg_I M2 8 1)) K hw 8 0 1 nw_147 rfl rfl ni_D (by decide) rfl rfl d_D_dropZeros_46 ?_
          refine lv_iconst (v := (1 : Int32)) hx hb d_D_dropZeros_49 (by decide) ?_
          refine lv_iadd hx hb d_D_dropZeros_50 ?_
          refine lv_topi (fun t3 et3 => ?_)
          have h := h t3 et3
          refine nf_put (M' := ms_I M2 8 1 t3) K hw 8 0 1 nw_147 rfl rfl rfl ni_D ny_D nq_D nn_D (by decide) rfl rfl rfl rfl (Nat.le_of_ble_eq_true rfl) d_D_dropZeros_51 (fun H locs hw => ?_)
          obtain ⟨M4, eM4⟩ : ∃ z, z = ms_I M2 8 1 t3 := ⟨_, rfl⟩
          rw [← eM4] at hw
          have h := h M4 eM4
          refine lv_iinc (k := 1) (v := x1 + (1 : Int32)) (lv' := [(1, .int (x1 + (1 : Int32))), (0, .ref (a 8))]) hx hb d_D_dropZeros_54 hl rfl (nf_inc (by decide)) (by decide) rfl (fun ls hl => ?_)
          refine lv_goto hx hb d_D_dropZeros_57 (tgt := 2) (by decide) ?_
          exact ih (x1 + (1 : Int32)) M4 _ _ _ h (lv_sub hl [1, 0] rfl) hw
        · have h := h.2 hc
          exact w_D_dropZeros_60 hfl K  M _ _ _ h (lv_sub hl [] rfl) hw
      · have h := h.2 hc
        exact w_D_dropZeros_60 hfl K  M _ _ _ h (lv_sub hl [] rfl) hw
    · have h := h.2 hc
      exact w_D_dropZeros_60 hfl K  M _ _ _ h (lv_sub hl [] rfl) hw
theorem c_D_dropZeros (l : Launch) (hfl : l.flags = flags0) : nf_C nf_jN l nm_D_dropZeros nb_D_dropZeros 2 none rm_D_dropZeros (fun a => [.ref (a 8)]) (fun M post ex => P_D_dropZeros  M post) := by
  refine nf_start (plainFor_of_name (by decide +kernel)) (fun a => Nat.le_of_ble_eq_true rfl) ?_
  intro D a sz M post ex p e s m below meth c ls h K hl hw
  have hx := K.1
  have hb := K.2.1
  have hl : lv_has ls 2 [(0, .ref (a 8))] := hl
  refine lv_iconst (v := (0 : Int32)) hx hb d_D_dropZeros_0 (by decide) ?_
  refine lv_istore_n (lv' := [(1, .int (0 : Int32)), (0, .ref (a 8))]) hx hb d_D_dropZeros_1 rfl hl (by decide) rfl (fun ls hl => ?_)
  obtain ⟨n, h⟩ := h
  exact w_D_dropZeros_2 hfl K n (0 : Int32) M _ _ _ h (lv_sub hl [1, 0] rfl) hw
theorem d_D_find_0 : decode nb_D_find 0 = .ok (.dload_n 1, 1) := by decide +kernel
theorem d_D_find_1 : decode nb_D_find 1 = .ok (.dconst 1, 1) := by decide +kernel
theorem d_D_find_2 : decode nb_D_find 2 = .ok (.bipush 8, 2) := by decide +kernel
theorem d_D_find_4 : decode nb_D_find 4 = .ok (.invokestatic 9, 3) := by decide +kernel
theorem d_D_find_7 : decode nb_D_find 7 = .ok (.ddiv, 1) := by decide +kernel
theorem d_D_find_8 : decode nb_D_find 8 = .ok (.dcmp .g, 1) := by decide +kernel
theorem d_D_find_9 : decode nb_D_find 9 = .ok (.ifCond .lt 13, 3) := by decide +kernel
theorem d_D_find_12 : decode nb_D_find 12 = .ok (.dload_n 1, 1) := by decide +kernel
theorem d_D_find_13 : decode nb_D_find 13 = .ok (.bipush 15, 2) := by decide +kernel
theorem d_D_find_15 : decode nb_D_find 15 = .ok (.invokestatic 9, 3) := by decide +kernel
theorem d_D_find_18 : decode nb_D_find 18 = .ok (.dcmp .l, 1) := by decide +kernel
theorem d_D_find_19 : decode nb_D_find 19 = .ok (.ifCond .lt 13, 3) := by decide +kernel
theorem d_D_find_22 : decode nb_D_find 22 = .ok (.new 13, 3) := by decide +kernel
theorem d_D_find_25 : decode nb_D_find 25 = .ok (.dup, 1) := by decide +kernel
theorem d_D_find_26 : decode nb_D_find 26 = .ok (.ldc 15, 2) := by decide +kernel
theorem d_D_find_28 : decode nb_D_find 28 = .ok (.invokespecial 17, 3) := by decide +kernel
theorem d_D_find_31 : decode nb_D_find 31 = .ok (.athrow, 1) := by decide +kernel
theorem d_D_find_32 : decode nb_D_find 32 = .ok (.dload_n 1, 1) := by decide +kernel
theorem d_D_find_33 : decode nb_D_find 33 = .ok (.invokestatic 20, 3) := by decide +kernel
theorem d_D_find_36 : decode nb_D_find 36 = .ok (.istore 4, 2) := by decide +kernel
theorem d_D_find_38 : decode nb_D_find 38 = .ok (.iload_n 3, 1) := by decide +kernel
theorem d_D_find_39 : decode nb_D_find 39 = .ok (.ifCond .eq 8, 3) := by decide +kernel
theorem d_D_find_42 : decode nb_D_find 42 = .ok (.bipush 8, 2) := by decide +kernel
theorem d_D_find_44 : decode nb_D_find 44 = .ok (.goto 5, 3) := by decide +kernel
theorem d_D_find_47 : decode nb_D_find 47 = .ok (.bipush 15, 2) := by decide +kernel
theorem d_D_find_49 : decode nb_D_find 49 = .ok (.istore 5, 2) := by decide +kernel
theorem d_D_find_51 : decode nb_D_find 51 = .ok (.iconst 0, 1) := by decide +kernel
theorem d_D_find_52 : decode nb_D_find 52 = .ok (.istore 6, 2) := by decide +kernel
theorem d_D_find_54 : decode nb_D_find 54 = .ok (.iconst 1, 1) := by decide +kernel
theorem d_D_find_55 : decode nb_D_find 55 = .ok (.istore 7, 2) := by decide +kernel
theorem d_D_find_57 : decode nb_D_find 57 = .ok (.iload 7, 2) := by decide +kernel
theorem d_D_find_59 : decode nb_D_find 59 = .ok (.iload 5, 2) := by decide +kernel
theorem d_D_find_61 : decode nb_D_find 61 = .ok (.if_icmp .gt 80, 3) := by decide +kernel
theorem d_D_find_64 : decode nb_D_find 64 = .ok (.iload 6, 2) := by decide +kernel
theorem d_D_find_66 : decode nb_D_find 66 = .ok (.ifCond .ne 75, 3) := by decide +kernel
theorem d_D_find_69 : decode nb_D_find 69 = .ok (.aload_n 0, 1) := by decide +kernel
theorem d_D_find_70 : decode nb_D_find 70 = .ok (.iload 4, 2) := by decide +kernel
theorem d_D_find_72 : decode nb_D_find 72 = .ok (.iload 7, 2) := by decide +kernel
theorem d_D_find_74 : decode nb_D_find 74 = .ok (.isub, 1) := by decide +kernel
theorem d_D_find_75 : decode nb_D_find 75 = .ok (.iconst 1, 1) := by decide +kernel
theorem d_D_find_76 : decode nb_D_find 76 = .ok (.iadd, 1) := by decide +kernel
theorem d_D_find_77 : decode nb_D_find 77 = .ok (.putfield 26, 3) := by decide +kernel
theorem d_D_find_80 : decode nb_D_find 80 = .ok (.aload_n 0, 1) := by decide +kernel
theorem d_D_find_81 : decode nb_D_find 81 = .ok (.dload_n 1, 1) := by decide +kernel
theorem d_D_find_82 : decode nb_D_find 82 = .ok (.aload_n 0, 1) := by decide +kernel
theorem d_D_find_83 : decode nb_D_find 83 = .ok (.getfield 26, 3) := by decide +kernel
theorem d_D_find_86 : decode nb_D_find 86 = .ok (.ineg, 1) := by decide +kernel
theorem d_D_find_87 : decode nb_D_find 87 = .ok (.invokestatic 30, 3) := by decide +kernel
theorem d_D_find_90 : decode nb_D_find 90 = .ok (.invokestatic 34, 3) := by decide +kernel
theorem d_D_find_93 : decode nb_D_find 93 = .ok (.putfield 38, 3) := by decide +kernel
theorem d_D_find_96 : decode nb_D_find 96 = .ok (.aload_n 0, 1) := by decide +kernel
theorem d_D_find_97 : decode nb_D_find 97 = .ok (.getfield 38, 3) := by decide +kernel
theorem d_D_find_100 : decode nb_D_find 100 = .ok (.l2d, 1) := by decide +kernel
theorem d_D_find_101 : decode nb_D_find 101 = .ok (.aload_n 0, 1) := by decide +kernel
theorem d_D_find_102 : decode nb_D_find 102 = .ok (.getfield 26, 3) := by decide +kernel
theorem d_D_find_105 : decode nb_D_find 105 = .ok (.invokestatic 30, 3) := by decide +kernel
theorem d_D_find_108 : decode nb_D_find 108 = .ok (.dstore 8, 2) := by decide +kernel
theorem d_D_find_110 : decode nb_D_find 110 = .ok (.iload_n 3, 1) := by decide +kernel
theorem d_D_find_111 : decode nb_D_find 111 = .ok (.ifCond .eq 10, 3) := by decide +kernel
theorem d_D_find_114 : decode nb_D_find 114 = .ok (.dload 8, 2) := by decide +kernel
theorem d_D_find_116 : decode nb_D_find 116 = .ok (.d2f, 1) := by decide +kernel
theorem d_D_find_117 : decode nb_D_find 117 = .ok (.f2d, 1) := by decide +kernel
theorem d_D_find_118 : decode nb_D_find 118 = .ok (.goto 5, 3) := by decide +kernel
theorem d_D_find_121 : decode nb_D_find 121 = .ok (.dload 8, 2) := by decide +kernel
theorem d_D_find_123 : decode nb_D_find 123 = .ok (.dload_n 1, 1) := by decide +kernel
theorem d_D_find_124 : decode nb_D_find 124 = .ok (.dcmp .l, 1) := by decide +kernel
theorem d_D_find_125 : decode nb_D_find 125 = .ok (.ifCond .ne 7, 3) := by decide +kernel
theorem d_D_find_128 : decode nb_D_find 128 = .ok (.iconst 1, 1) := by decide +kernel
theorem d_D_find_129 : decode nb_D_find 129 = .ok (.goto 4, 3) := by decide +kernel
theorem d_D_find_132 : decode nb_D_find 132 = .ok (.iconst 0, 1) := by decide +kernel
theorem d_D_find_133 : decode nb_D_find 133 = .ok (.istore 6, 2) := by decide +kernel
theorem d_D_find_135 : decode nb_D_find 135 = .ok (.iinc 7 1, 3) := by decide +kernel
theorem d_D_find_138 : decode nb_D_find 138 = .ok (.goto (-81), 3) := by decide +kernel
theorem d_D_find_141 : decode nb_D_find 141 = .ok (.aload_n 0, 1) := by decide +kernel
theorem d_D_find_142 : decode nb_D_find 142 = .ok (.invokevirtual 42, 3) := by decide +kernel
theorem d_D_find_145 : decode nb_D_find 145 = .ok (.return_, 1) := by decide +kernel
abbrev rm_D_find : Room := ({ frames := 6, cells := 1, slots := 6, locals := 100 })
theorem w_D_find_22 {post : Unit → nf_M → Prop} (hfl : l.flags = flags0) (K : nf_K p s m args meth c "NumberForge$Digits" nb_D_find 10 none D a sz) : ∀ (M : nf_M) (H : Heap) (locs : List Loc) (ls : Array Slot), B_D_find_22 post ex  M → lv_has ls 10 [] → nf_W D a s sz H locs M → W p l e rm_D_find s m args below meth c H locs 0 0 (nf_MQ below (nf_Q nf_jN D a post ex (nf_A a sz)) args s rm_D_find.cells rm_D_find.slots (nf_A a sz)) (F0 m 22 ls []) := by
  have hx := K.1
  have hb := K.2.1
  intro  M H locs ls h hl hw
  exact nf_throw (i := 17) 4 hfl K hw rfl (by decide) na_D_17 nw_789 nw_382 nw_15 rfl d_D_find_22 d_D_find_25 d_D_find_26 d_D_find_28 d_D_find_31 hl.1 ⟨by decide, by decide⟩ ⟨Nat.le_of_ble_eq_true rfl, Nat.le_of_ble_eq_true rfl⟩ h
theorem w_D_find_133 {post : Unit → nf_M → Prop} (hfl : l.flags = flags0) (K : nf_K p s m args meth c "NumberForge$Digits" nb_D_find 10 none D a sz) (k57 : UInt64 → Int32 → Int32 → Int32 → Int32 → Int32 → nf_M → Prop) (hk57 : ∀ (x1 : UInt64) (x3 : Int32) (x4 : Int32) (x5 : Int32) (x6 : Int32) (x7 : Int32) (M : nf_M) (H : Heap) (locs : List Loc) (ls : Array Slot), k57 x1 x3 x4 x5 x6 x7 M → lv_has ls 10 [(0, .ref (a 8)), (1, .double x1), (3, .int x3), (4, .int x4), (5, .int x5), (6, .int x6), (7, .int x7)] → nf_W D a s sz H locs M → W p l e rm_D_find s m args below meth c H locs 0 0 (nf_MQ below (nf_Q nf_jN D a post ex (nf_A a sz)) args s rm_D_find.cells rm_D_find.slots (nf_A a sz)) (F0 m 57 ls [])) : ∀ (x1 : UInt64) (x3 : Int32) (x4 : Int32) (x5 : Int32) (x7 : Int32) (xy0 : Int32) (M : nf_M) (H : Heap) (locs : List Loc) (ls : Array Slot), B_D_find_133 k57 post ex x1 x3 x4 x5 x7 xy0 M → lv_has ls 10 [(0, .ref (a 8)), (1, .double x1), (3, .int x3), (4, .int x4), (5, .int x5), (7, .int x7)] → nf_W D a s sz H locs M → W p l e rm_D_find s m args below meth c H locs 0 0 (nf_MQ below (nf_Q nf_jN D a post ex (nf_A a sz)) args s rm_D_find.cells rm_D_find.slots (nf_A a sz)) (F0 m 133 ls [.int xy0]) := by
  have hx := K.1
  have hb := K.2.1
  intro x1 x3 x4 x5 x7 xy0 M H locs ls h hl hw
  refine lv_istore (lv' := [(6, .int xy0), (0, .ref (a 8)), (1, .double x1), (3, .int x3), (4, .int x4), (5, .int x5), (7, .int x7)]) hx hb d_D_find_133 hl (by decide) rfl (fun ls hl => ?_)
  refine lv_iinc (k := 6) (v := x7 + (1 : Int32)) (lv' := [(7, .int (x7 + (1 : Int32))), (6, .int xy0), (0, .ref (a 8)), (1, .double x1), (3, .int x3), (4, .int x4), (5, .int x5)]) hx hb d_D_find_135 hl rfl (nf_inc (by decide)) (by decide) rfl (fun ls hl => ?_)
  refine lv_goto hx hb d_D_find_138 (tgt := 57) (by decide) ?_
  exact hk57 x1 x3 x4 x5 xy0 (x7 + (1 : Int32)) M _ _ _ h (lv_sub hl [2, 3, 4, 5, 6, 1, 0] rfl) hw
theorem w_D_find_123 {post : Unit → nf_M → Prop} (hfl : l.flags = flags0) (K : nf_K p s m args meth c "NumberForge$Digits" nb_D_find 10 none D a sz) (k57 : UInt64 → Int32 → Int32 → Int32 → Int32 → Int32 → nf_M → Prop) (hk57 : ∀ (x1 : UInt64) (x3 : Int32) (x4 : Int32) (x5 : Int32) (x6 : Int32) (x7 : Int32) (M : nf_M) (H : Heap) (locs : List Loc) (ls : Array Slot), k57 x1 x3 x4 x5 x6 x7 M → lv_has ls 10 [(0, .ref (a 8)), (1, .double x1), (3, .int x3), (4, .int x4), (5, .int x5), (6, .int x6), (7, .int x7)] → nf_W D a s sz H locs M → W p l e rm_D_find s m args below meth c H locs 0 0 (nf_MQ below (nf_Q nf_jN D a post ex (nf_A a sz)) args s rm_D_find.cells rm_D_find.slots (nf_A a sz)) (F0 m 57 ls [])) : ∀ (x1 : UInt64) (x3 : Int32) (x4 : Int32) (x5 : Int32) (x7 : Int32) (xy0 : UInt64) (M : nf_M) (H : Heap) (locs : List Loc) (ls : Array Slot), B_D_find_123 k57 post ex x1 x3 x4 x5 x7 xy0 M → lv_has ls 10 [(0, .ref (a 8)), (1, .double x1), (3, .int x3), (4, .int x4), (5, .int x5), (7, .int x7)] → nf_W D a s sz H locs M → W p l e rm_D_find s m args below meth c H locs 0 0 (nf_MQ below (nf_Q nf_jN D a post ex (nf_A a sz)) args s rm_D_find.cells rm_D_find.slots (nf_A a sz)) (F0 m 123 ls [.double xy0]) := by
  have hx := K.1
  have hb := K.2.1
  intro x1 x3 x4 x5 x7 xy0 M H locs ls h hl hw
  refine lv_dload_n hx hb d_D_find_123 rfl (lv_at hl 1 rfl) ?_
  refine nf_dl_ne hx hb d_D_find_124 d_D_find_125 (tgt := 132) (by decide) (fun hc => ?_) (fun hc => ?_)
  · have h := h.1 hc
    refine lv_iconst (v := (1 : Int32)) hx hb d_D_find_128 (by decide) ?_
    refine lv_goto hx hb d_D_find_129 (tgt := 133) (by decide) ?_
    exact w_D_find_133 hfl K k57 hk57 x1 x3 x4 x5 x7 (1 : Int32) M _ _ _ h (lv_sub hl [0, 1, 2, 3, 4, 5] rfl) hw
  · have h := h.2 hc
    refine lv_iconst (v := (0 : Int32)) hx hb d_D_find_132 (by decide) ?_
    exact w_D_find_133 hfl K k57 hk57 x1 x3 x4 x5 x7 (0 : Int32) M _ _ _ h (lv_sub hl [0, 1, 2, 3, 4, 5] rfl) hw
theorem w_D_find_141 {post : Unit → nf_M → Prop} (hfl : l.flags = flags0) (K : nf_K p s m args meth c "NumberForge$Digits" nb_D_find 10 none D a sz) : ∀ (M : nf_M) (H : Heap) (locs : List Loc) (ls : Array Slot), B_D_find_141 post ex  M → lv_has ls 10 [(0, .ref (a 8))] → nf_W D a s sz H locs M → W p l e rm_D_find s m args below meth c H locs 0 0 (nf_MQ below (nf_Q nf_jN D a post ex (nf_A a sz)) args s rm_D_find.cells rm_D_find.slots (nf_A a sz)) (F0 m 141 ls []) := by
  have hx := K.1
  have hb := K.2.1
  intro  M H locs ls h hl hw
  refine lv_aload_n hx hb d_D_find_141 rfl (lv_at hl 0 rfl) ?_
  refine nf_callW (ex := (fun _ _ => False)) (As := [.ref (a 8)]) (st0 := [.ref (a 8)]) (rest := []) K hw (nf_invV hx hb K.2.2.2.1 (nf_Kg K nw_797) (nf_Kg K nw_799) (nf_Kg K nx_D_dropZeros) (nf_Kg K nw_800) ⟨by decide, by decide⟩ (nf_rcv K hw 8 0 rfl rfl) rfl nl_D_dropZeros rfl d_D_find_142) (c_D_dropZeros l hfl ) nw_800 nw_7 rfl ⟨by decide, by decide⟩ (Nat.le_of_ble_eq_true rfl) hl.1 ⟨Nat.le_of_ble_eq_true rfl, Nat.le_of_ble_eq_true rfl⟩ h (fun _ _ h => h.elim) (fun r1 M2 H locs h hw => ?_)
  refine W.eq (g2 := F0 m 145 ls []) rfl ?_
  exact nf_vret K hw d_D_find_145 (Nat.le_of_ble_eq_true rfl) (Nat.le_of_ble_eq_true rfl) (r := ()) rfl h
theorem w_D_find_57 {post : Unit → nf_M → Prop} (hfl : l.flags = flags0) (K : nf_K p s m args meth c "NumberForge$Digits" nb_D_find 10 none D a sz) : ∀ (n : Nat) (x1 : UInt64) (x3 : Int32) (x4 : Int32) (x5 : Int32) (x6 : Int32) (x7 : Int32) (M : nf_M) (H : Heap) (locs : List Loc) (ls : Array Slot), B_D_find_57 post ex n x1 x3 x4 x5 x6 x7 M → lv_has ls 10 [(0, .ref (a 8)), (1, .double x1), (3, .int x3), (4, .int x4), (5, .int x5), (6, .int x6), (7, .int x7)] → nf_W D a s sz H locs M → W p l e rm_D_find s m args below meth c H locs 0 0 (nf_MQ below (nf_Q nf_jN D a post ex (nf_A a sz)) args s rm_D_find.cells rm_D_find.slots (nf_A a sz)) (F0 m 57 ls []) := by
  have hx := K.1
  have hb := K.2.1
  intro n
  induction n with
  | zero => intro x1 x3 x4 x5 x6 x7 M H locs ls h hl hw; exact h.elim
  | succ n ih =>
    intro x1 x3 x4 x5 x6 x7 M H locs ls h hl hw
    refine lv_iload hx hb d_D_find_57 (lv_at hl 6 rfl) ?_
    refine lv_iload hx hb d_D_find_59 (lv_at hl 4 rfl) ?_
    refine nf_ic_gt hx hb d_D_find_61 (tgt := 141) (by decide) (fun hc => ?_) (fun hc => ?_)
    · have h := h.1 hc
      exact w_D_find_141 hfl K  M _ _ _ h (lv_sub hl [0] rfl) hw
    · have h := h.2 hc
      refine lv_iload hx hb d_D_find_64 (lv_at hl 5 rfl) ?_
      refine nf_if_ne hx hb d_D_find_66 (tgt := 141) (by decide) (fun hc => ?_) (fun hc => ?_)
      · have h := h.1 hc
        refine lv_aload_n hx hb d_D_find_69 rfl (lv_at hl 0 rfl) ?_
        refine lv_iload hx hb d_D_find_70 (lv_at hl 3 rfl) ?_
        refine lv_iload hx hb d_D_find_72 (lv_at hl 6 rfl) ?_
        refine lv_isub hx hb d_D_find_74 ?_
        refine lv_iconst (v := (1 : Int32)) hx hb d_D_find_75 (by decide) ?_
        refine lv_iadd hx hb d_D_find_76 ?_
        refine lv_topi (fun t1 et1 => ?_)
        have h := h t1 et1
        refine nf_put (M' := ms_I M 8 1 t1) K hw 8 0 1 nw_147 rfl rfl rfl ni_D ny_D nq_D nn_D (by decide) rfl rfl rfl rfl (Nat.le_of_ble_eq_true rfl) d_D_find_77 (fun H locs hw => ?_)
        obtain ⟨M2, eM2⟩ : ∃ z, z = ms_I M 8 1 t1 := ⟨_, rfl⟩
        rw [← eM2] at hw
        have h := h M2 eM2
        refine lv_aload_n hx hb d_D_find_80 rfl (lv_at hl 0 rfl) ?_
        refine lv_dload_n hx hb d_D_find_81 rfl (lv_at hl 1 rfl) ?_
        refine lv_aload_n hx hb d_D_find_82 rfl (lv_at hl 0 rfl) ?_
        refine nf_get (v := .int (mg_I M2 8 1)) K hw 8 0 1 nw_147 rfl rfl ni_D (by decide) rfl rfl d_D_find_83 ?_
        refine lv_ineg hx hb d_D_find_86 ?_
        refine nf_callW (ex := (fun _ _ => False)) (As := [.double x1, .int (-(mg_I M2 8 1))]) (st0 := [.int (-(mg_I M2 8 1)), .double x1, .ref (a 8)]) (rest := [.ref (a 8)]) K hw (nf_invSN hx hb K.2.2.2.1 ((nf_Kr K nv_795).use rfl) (nf_Kg K nw_398) (nf_Kg K nw_1) (nf_Kg K nw_399) ⟨by decide, by decide⟩ rfl nl_F_timesTen rfl d_D_find_87) (c_F_timesTen l hfl x1 (-(mg_I M2 8 1))) nw_399 nw_1 rfl ⟨by decide, by decide⟩ (Nat.le_of_ble_eq_true rfl) hl.1 ⟨Nat.le_of_ble_eq_true rfl, Nat.le_of_ble_eq_true rfl⟩ h (fun _ _ h => h.elim) (fun r3 M4 H locs h hw => ?_)
        refine W.eq (g2 := F0 m 90 ls [.double r3, .ref (a 8)]) rfl ?_
        refine nf_callW (ex := (fun _ _ => False)) (As := [.double r3]) (st0 := [.double r3, .ref (a 8)]) (rest := [.ref (a 8)]) K hw (nf_invSN hx hb K.2.2.2.1 ((nf_Kr K nv_796).use rfl) (nf_Kg K nw_685) (nf_Kg K nw_1) (nf_Kg K nw_686) ⟨by decide, by decide⟩ rfl nl_F_nearestEven rfl d_D_find_90) (c_F_nearestEven l hfl r3) nw_686 nw_1 rfl ⟨by decide, by decide⟩ (Nat.le_of_ble_eq_true rfl) hl.1 ⟨Nat.le_of_ble_eq_true rfl, Nat.le_of_ble_eq_true rfl⟩ h (fun _ _ h => h.elim) (fun r5 M6 H locs h hw => ?_)
        refine W.eq (g2 := F0 m 93 ls [.long r5, .ref (a 8)]) rfl ?_
        refine nf_put (M' := ms_L M6 8 0 r5) K hw 8 0 0 nw_145 rfl rfl rfl ni_D ny_D nq_D nn_D (by decide) rfl rfl rfl rfl (Nat.le_of_ble_eq_true rfl) d_D_find_93 (fun H locs hw => ?_)
        obtain ⟨M7, eM7⟩ : ∃ z, z = ms_L M6 8 0 r5 := ⟨_, rfl⟩
        rw [← eM7] at hw
        have h := h M7 eM7
        refine lv_aload_n hx hb d_D_find_96 rfl (lv_at hl 0 rfl) ?_
        refine nf_get (v := .long (mg_L M7 8 0)) K hw 8 0 0 nw_145 rfl rfl ni_D (by decide) rfl rfl d_D_find_97 ?_
        refine lv_l2d hx hb d_D_find_100 ?_
        refine lv_aload_n hx hb d_D_find_101 rfl (lv_at hl 0 rfl) ?_
        refine nf_get (v := .int (mg_I M7 8 1)) K hw 8 0 1 nw_147 rfl rfl ni_D (by decide) rfl rfl d_D_find_102 ?_
        refine nf_callW (ex := (fun _ _ => False)) (As := [.double (FP.l2d (mg_L M7 8 0)), .int (mg_I M7 8 1)]) (st0 := [.int (mg_I M7 8 1), .double (FP.l2d (mg_L M7 8 0))]) (rest := []) K hw (nf_invSN hx hb K.2.2.2.1 ((nf_Kr K nv_795).use rfl) (nf_Kg K nw_398) (nf_Kg K nw_1) (nf_Kg K nw_399) ⟨by decide, by decide⟩ rfl nl_F_timesTen rfl d_D_find_105) (c_F_timesTen l hfl (FP.l2d (mg_L M7 8 0)) (mg_I M7 8 1)) nw_399 nw_1 rfl ⟨by decide, by decide⟩ (Nat.le_of_ble_eq_true rfl) hl.1 ⟨Nat.le_of_ble_eq_true rfl, Nat.le_of_ble_eq_true rfl⟩ h (fun _ _ h => h.elim) (fun r8 M9 H locs h hw => ?_)
        refine W.eq (g2 := F0 m 108 ls [.double r8]) rfl ?_
        refine lv_dstore (lv' := [(8, .double r8), (0, .ref (a 8)), (1, .double x1), (3, .int x3), (4, .int x4), (5, .int x5), (6, .int x6), (7, .int x7)]) hx hb d_D_find_108 hl (by decide) rfl (fun ls hl => ?_)
        refine lv_iload_n hx hb d_D_find_110 rfl (lv_at hl 3 rfl) ?_
        refine nf_if_eq hx hb d_D_find_111 (tgt := 121) (by decide) (fun hc => ?_) (fun hc => ?_)
        · have h := h.1 hc
          refine lv_dload hx hb d_D_find_121 (lv_at hl 0 rfl) ?_
          exact w_D_find_123 hfl K (fun x1 x3 x4 x5 x6 x7 z => B_D_find_57 post ex n x1 x3 x4 x5 x6 x7 z) (fun x1 x3 x4 x5 x6 x7 z H locs ls hh hll hww => ih x1 x3 x4 x5 x6 x7 z H locs ls hh hll hww) x1 x3 x4 x5 x7 r8 M9 _ _ _ h (lv_sub hl [1, 2, 3, 4, 5, 7] rfl) hw
        · have h := h.2 hc
          refine lv_dload hx hb d_D_find_114 (lv_at hl 0 rfl) ?_
          obtain ⟨g10, h⟩ := h
          refine lv_d2f hx hb d_D_find_116 g10 ?_
          obtain ⟨g11, h⟩ := h
          refine lv_f2d hx hb d_D_find_117 g11 ?_
          refine lv_goto hx hb d_D_find_118 (tgt := 123) (by decide) ?_
          exact w_D_find_123 hfl K (fun x1 x3 x4 x5 x6 x7 z => B_D_find_57 post ex n x1 x3 x4 x5 x6 x7 z) (fun x1 x3 x4 x5 x6 x7 z H locs ls hh hll hww => ih x1 x3 x4 x5 x6 x7 z H locs ls hh hll hww) x1 x3 x4 x5 x7 (FP.f2d (FP.d2f r8)) M9 _ _ _ h (lv_sub hl [1, 2, 3, 4, 5, 7] rfl) hw
      · have h := h.2 hc
        exact w_D_find_141 hfl K  M _ _ _ h (lv_sub hl [0] rfl) hw
theorem w_D_find_49 {post : Unit → nf_M → Prop} (hfl : l.flags = flags0) (K : nf_K p s m args meth c "NumberForge$Digits" nb_D_find 10 none D a sz) : ∀ (x1 : UInt64) (x3 : Int32) (x4 : Int32) (xy0 : Int32) (M : nf_M) (H : Heap) (locs : List Loc) (ls : Array Slot), B_D_find_49 post ex x1 x3 x4 xy0 M → lv_has ls 10 [(0, .ref (a 8)), (1, .double x1), (3, .int x3), (4, .int x4)] → nf_W D a s sz H locs M → W p l e rm_D_find s m args below meth c H locs 0 0 (nf_MQ below (nf_Q nf_jN D a post ex (nf_A a sz)) args s rm_D_find.cells rm_D_find.slots (nf_A a sz)) (F0 m 49 ls [.int xy0]) := by
  have hx := K.1
  have hb := K.2.1
  intro x1 x3 x4 xy0 M H locs ls h hl hw
  refine lv_istore (lv' := [(5, .int xy0), (0, .ref (a 8)), (1, .double x1), (3, .int x3), (4, .int x4)]) hx hb d_D_find_49 hl (by decide) rfl (fun ls hl => ?_)
  refine lv_iconst (v := (0 : Int32)) hx hb d_D_find_51 (by decide) ?_
  refine lv_istore (lv' := [(6, .int (0 : Int32)), (5, .int xy0), (0, .ref (a 8)), (1, .double x1), (3, .int x3), (4, .int x4)]) hx hb d_D_find_52 hl (by decide) rfl (fun ls hl => ?_)
  refine lv_iconst (v := (1 : Int32)) hx hb d_D_find_54 (by decide) ?_
  refine lv_istore (lv' := [(7, .int (1 : Int32)), (6, .int (0 : Int32)), (5, .int xy0), (0, .ref (a 8)), (1, .double x1), (3, .int x3), (4, .int x4)]) hx hb d_D_find_55 hl (by decide) rfl (fun ls hl => ?_)
  obtain ⟨n, h⟩ := h
  exact w_D_find_57 hfl K n x1 x3 x4 xy0 (0 : Int32) (1 : Int32) M _ _ _ h (lv_sub hl [3, 4, 5, 6, 2, 1, 0] rfl) hw
theorem c_D_find (l : Launch) (hfl : l.flags = flags0) (x1 : UInt64) (x3 : Int32) : nf_C nf_jN l nm_D_find nb_D_find 10 none rm_D_find (fun a => [.ref (a 8), .double x1, .int x3]) (fun M post ex => P_D_find x1 x3 M post ex) := by
  refine nf_start (plainFor_of_name (by decide +kernel)) (fun a => Nat.le_of_ble_eq_true rfl) ?_
  intro D a sz M post ex p e s m below meth c ls h K hl hw
  have hx := K.1
  have hb := K.2.1
  have hl : lv_has ls 10 [(0, .ref (a 8)), (1, .double x1), (3, .int x3)] := hl
  refine lv_dload_n hx hb d_D_find_0 rfl (lv_at hl 1 rfl) ?_
  refine lv_dconst1 hx hb d_D_find_1 ?_
  refine lv_bipush (v := (8 : Int32)) hx hb d_D_find_2 (by decide) ?_
  refine nf_callW (ex := (fun _ _ => False)) (As := [.int (8 : Int32)]) (st0 := [.int (8 : Int32), .double (FP.dconst1), .double x1]) (rest := [.double (FP.dconst1), .double x1]) K hw (nf_invSN hx hb K.2.2.2.1 ((nf_Kr K nv_788).use rfl) (nf_Kg K nw_401) (nf_Kg K nw_1) (nf_Kg K nw_402) ⟨by decide, by decide⟩ rfl nl_F_ten rfl d_D_find_4) (c_F_ten l hfl (8 : Int32)) nw_402 nw_1 rfl ⟨by decide, by decide⟩ (Nat.le_of_ble_eq_true rfl) hl.1 ⟨Nat.le_of_ble_eq_true rfl, Nat.le_of_ble_eq_true rfl⟩ h (fun _ _ h => h.elim) (fun r1 M2 H locs h hw => ?_)
  refine W.eq (g2 := F0 m 7 ls [.double r1, .double (FP.dconst1), .double x1]) rfl ?_
  obtain ⟨g3, h⟩ := h
  refine lv_ddiv hx hb d_D_find_7 g3 ?_
  refine nf_dg_lt hx hb d_D_find_8 d_D_find_9 (tgt := 22) (by decide) (fun hc => ?_) (fun hc => ?_)
  · have h := h.1 hc
    exact w_D_find_22 hfl K  M2 _ _ _ h (lv_sub hl [] rfl) hw
  · have h := h.2 hc
    refine lv_dload_n hx hb d_D_find_12 rfl (lv_at hl 1 rfl) ?_
    refine lv_bipush (v := (15 : Int32)) hx hb d_D_find_13 (by decide) ?_
    refine nf_callW (ex := (fun _ _ => False)) (As := [.int (15 : Int32)]) (st0 := [.int (15 : Int32), .double x1]) (rest := [.double x1]) K hw (nf_invSN hx hb K.2.2.2.1 ((nf_Kr K nv_788).use rfl) (nf_Kg K nw_401) (nf_Kg K nw_1) (nf_Kg K nw_402) ⟨by decide, by decide⟩ rfl nl_F_ten rfl d_D_find_15) (c_F_ten l hfl (15 : Int32)) nw_402 nw_1 rfl ⟨by decide, by decide⟩ (Nat.le_of_ble_eq_true rfl) hl.1 ⟨Nat.le_of_ble_eq_true rfl, Nat.le_of_ble_eq_true rfl⟩ h (fun _ _ h => h.elim) (fun r4 M5 H locs h hw => ?_)
    refine W.eq (g2 := F0 m 18 ls [.double r4, .double x1]) rfl ?_
    refine nf_dl_lt hx hb d_D_find_18 d_D_find_19 (tgt := 32) (by decide) (fun hc => ?_) (fun hc => ?_)
    · have h := h.1 hc
      exact w_D_find_22 hfl K  M5 _ _ _ h (lv_sub hl [] rfl) hw
    · have h := h.2 hc
      refine lv_dload_n hx hb d_D_find_32 rfl (lv_at hl 1 rfl) ?_
      refine nf_callW (ex := (fun _ _ => False)) (As := [.double x1]) (st0 := [.double x1]) (rest := []) K hw (nf_invS hx hb K.2.2.2.1 (nf_Kg K nw_792) (nf_Kg K nw_793) (nf_Kg K nw_7) (nf_Kg K nw_794) ⟨by decide, by decide⟩ rfl nl_D_leadingPower rfl d_D_find_33) (c_D_leadingPower l hfl x1) nw_794 nw_7 rfl ⟨by decide, by decide⟩ (Nat.le_of_ble_eq_true rfl) hl.1 ⟨Nat.le_of_ble_eq_true rfl, Nat.le_of_ble_eq_true rfl⟩ h (fun _ _ h => h.elim) (fun r6 M7 H locs h hw => ?_)
      refine W.eq (g2 := F0 m 36 ls [.int r6]) rfl ?_
      refine lv_istore (lv' := [(4, .int r6), (0, .ref (a 8)), (1, .double x1), (3, .int x3)]) hx hb d_D_find_36 hl (by decide) rfl (fun ls hl => ?_)
      refine lv_iload_n hx hb d_D_find_38 rfl (lv_at hl 3 rfl) ?_
      refine nf_if_eq hx hb d_D_find_39 (tgt := 47) (by decide) (fun hc => ?_) (fun hc => ?_)
      · have h := h.1 hc
        refine lv_bipush (v := (15 : Int32)) hx hb d_D_find_47 (by decide) ?_
        exact w_D_find_49 hfl K x1 x3 r6 (15 : Int32) M7 _ _ _ h (lv_sub hl [1, 2, 3, 0] rfl) hw
      · have h := h.2 hc
        refine lv_bipush (v := (8 : Int32)) hx hb d_D_find_42 (by decide) ?_
        refine lv_goto hx hb d_D_find_44 (tgt := 49) (by decide) ?_
        exact w_D_find_49 hfl K x1 x3 r6 (8 : Int32) M7 _ _ _ h (lv_sub hl [1, 2, 3, 0] rfl) hw
theorem d_F_digitCount_0 : decode nb_F_digitCount 0 = .ok (.iconst 1, 1) := by decide +kernel
theorem d_F_digitCount_1 : decode nb_F_digitCount 1 = .ok (.istore_n 2, 1) := by decide +kernel
theorem d_F_digitCount_2 : decode nb_F_digitCount 2 = .ok (.iload_n 2, 1) := by decide +kernel
theorem d_F_digitCount_3 : decode nb_F_digitCount 3 = .ok (.getstatic 257, 3) := by decide +kernel
theorem d_F_digitCount_6 : decode nb_F_digitCount 6 = .ok (.arraylength, 1) := by decide +kernel
theorem d_F_digitCount_7 : decode nb_F_digitCount 7 = .ok (.if_icmp .ge 19, 3) := by decide +kernel
theorem d_F_digitCount_10 : decode nb_F_digitCount 10 = .ok (.lload_n 0, 1) := by decide +kernel
theorem d_F_digitCount_11 : decode nb_F_digitCount 11 = .ok (.getstatic 257, 3) := by decide +kernel
theorem d_F_digitCount_14 : decode nb_F_digitCount 14 = .ok (.iload_n 2, 1) := by decide +kernel
theorem d_F_digitCount_15 : decode nb_F_digitCount 15 = .ok (.laload, 1) := by decide +kernel
theorem d_F_digitCount_16 : decode nb_F_digitCount 16 = .ok (.lcmp, 1) := by decide +kernel
theorem d_F_digitCount_17 : decode nb_F_digitCount 17 = .ok (.ifCond .lt 9, 3) := by decide +kernel
theorem d_F_digitCount_20 : decode nb_F_digitCount 20 = .ok (.iinc 2 1, 3) := by decide +kernel
theorem d_F_digitCount_23 : decode nb_F_digitCount 23 = .ok (.goto (-21), 3) := by decide +kernel
theorem d_F_digitCount_26 : decode nb_F_digitCount 26 = .ok (.iload_n 2, 1) := by decide +kernel
theorem d_F_digitCount_27 : decode nb_F_digitCount 27 = .ok (.ireturn, 1) := by decide +kernel
abbrev rm_F_digitCount : Room := ({ frames := 0, cells := 0, slots := 0, locals := 0 })
theorem w_F_digitCount_26 {post : Int32 → nf_M → Prop} (hfl : l.flags = flags0) (K : nf_K p s m args meth c "NumberForge" nb_F_digitCount 3 (some FieldType.int) D a sz) : ∀ (x2 : Int32) (M : nf_M) (H : Heap) (locs : List Loc) (ls : Array Slot), B_F_digitCount_26 post x2 M → lv_has ls 3 [(2, .int x2)] → nf_W D a s sz H locs M → W p l e rm_F_digitCount s m args below meth c H locs 0 0 (nf_MQ below (nf_Q nf_jI D a post ex (nf_A a sz)) args s rm_F_digitCount.cells rm_F_digitCount.slots (nf_A a sz)) (F0 m 26 ls []) := by
  have hx := K.1
  have hb := K.2.1
  intro x2 M H locs ls h hl hw
  refine lv_iload_n hx hb d_F_digitCount_26 rfl (lv_at hl 0 rfl) ?_
  exact nf_iret K hw d_F_digitCount_27 rfl (Nat.le_of_ble_eq_true rfl) (Nat.le_of_ble_eq_true rfl) (r := x2) rfl h
theorem w_F_digitCount_2 {post : Int32 → nf_M → Prop} (hfl : l.flags = flags0) (K : nf_K p s m args meth c "NumberForge" nb_F_digitCount 3 (some FieldType.int) D a sz) : ∀ (n : Nat) (x0 : Int64) (x2 : Int32) (M : nf_M) (H : Heap) (locs : List Loc) (ls : Array Slot), B_F_digitCount_2 post n x0 x2 M → lv_has ls 3 [(0, .long x0), (2, .int x2)] → nf_W D a s sz H locs M → W p l e rm_F_digitCount s m args below meth c H locs 0 0 (nf_MQ below (nf_Q nf_jI D a post ex (nf_A a sz)) args s rm_F_digitCount.cells rm_F_digitCount.slots (nf_A a sz)) (F0 m 2 ls []) := by
  have hx := K.1
  have hb := K.2.1
  intro n
  induction n with
  | zero => intro x0 x2 M H locs ls h hl hw; exact h.elim
  | succ n ih =>
    intro x0 x2 M H locs ls h hl hw
    refine lv_iload_n hx hb d_F_digitCount_2 rfl (lv_at hl 1 rfl) ?_
    refine nf_gets K hw (nf_st0 K).1 nw_354 d_F_digitCount_3 ?_
    refine va_tlen (v := (16 : Int32)) hx hb (nf_st0 K).2.1 hw.2.2 (by decide) d_F_digitCount_6 ?_
    refine nf_ic_ge hx hb d_F_digitCount_7 (tgt := 26) (by decide) (fun hc => ?_) (fun hc => ?_)
    · have h := h.1 hc
      refine lv_lload_n hx hb d_F_digitCount_10 rfl (lv_at hl 0 rfl) ?_
      refine nf_gets K hw (nf_st0 K).1 nw_354 d_F_digitCount_11 ?_
      refine lv_iload_n hx hb d_F_digitCount_14 rfl (lv_at hl 1 rfl) ?_
      obtain ⟨g1, h⟩ := h
      refine va_tl (v := .long (nf_POW.getD x2.toNatClampNeg 0)) hx hb (nf_st0 K).2.1 hw.2.2 g1 rfl d_F_digitCount_15 ?_
      refine nf_lc_lt hx hb d_F_digitCount_16 d_F_digitCount_17 (tgt := 26) (by decide) (fun hc => ?_) (fun hc => ?_)
      · have h := h.1 hc
        exact w_F_digitCount_26 hfl K x2 M _ _ _ h (lv_sub hl [1] rfl) hw
      · have h := h.2 hc
        refine lv_iinc (k := 1) (v := x2 + (1 : Int32)) (lv' := [(2, .int (x2 + (1 : Int32))), (0, .long x0)]) hx hb d_F_digitCount_20 hl rfl (nf_inc (by decide)) (by decide) rfl (fun ls hl => ?_)
        refine lv_goto hx hb d_F_digitCount_23 (tgt := 2) (by decide) ?_
        exact ih x0 (x2 + (1 : Int32)) M _ _ _ h (lv_sub hl [1, 0] rfl) hw
    · have h := h.2 hc
      exact w_F_digitCount_26 hfl K x2 M _ _ _ h (lv_sub hl [1] rfl) hw
theorem c_F_digitCount (l : Launch) (hfl : l.flags = flags0) (x0 : Int64) : nf_C nf_jI l nm_F_digitCount nb_F_digitCount 3 (some FieldType.int) rm_F_digitCount (fun a => [.long x0]) (fun M post ex => P_F_digitCount x0 M post) := by
  refine nf_start (plainFor_of_name (by decide +kernel)) (fun a => Nat.le_of_ble_eq_true rfl) ?_
  intro D a sz M post ex p e s m below meth c ls h K hl hw
  have hx := K.1
  have hb := K.2.1
  have hl : lv_has ls 3 [(0, .long x0)] := hl
  refine lv_iconst (v := (1 : Int32)) hx hb d_F_digitCount_0 (by decide) ?_
  refine lv_istore_n (lv' := [(2, .int (1 : Int32)), (0, .long x0)]) hx hb d_F_digitCount_1 rfl hl (by decide) rfl (fun ls hl => ?_)
  obtain ⟨n, h⟩ := h
  exact w_F_digitCount_2 hfl K n x0 (1 : Int32) M _ _ _ h (lv_sub hl [1, 0] rfl) hw
theorem d_F_digitAt_0 : decode nb_F_digitAt 0 = .ok (.ldc2_w 273, 3) := by decide +kernel
theorem d_F_digitAt_3 : decode nb_F_digitAt 3 = .ok (.iload_n 2, 1) := by decide +kernel
theorem d_F_digitAt_4 : decode nb_F_digitAt 4 = .ok (.getstatic 257, 3) := by decide +kernel
theorem d_F_digitAt_7 : decode nb_F_digitAt 7 = .ok (.arraylength, 1) := by decide +kernel
theorem d_F_digitAt_8 : decode nb_F_digitAt 8 = .ok (.if_icmp .ge 18, 3) := by decide +kernel
theorem d_F_digitAt_11 : decode nb_F_digitAt 11 = .ok (.lload_n 0, 1) := by decide +kernel
theorem d_F_digitAt_12 : decode nb_F_digitAt 12 = .ok (.iload_n 2, 1) := by decide +kernel
theorem d_F_digitAt_13 : decode nb_F_digitAt 13 = .ok (.invokestatic 275, 3) := by decide +kernel
theorem d_F_digitAt_16 : decode nb_F_digitAt 16 = .ok (.invokestatic 260, 3) := by decide +kernel
theorem d_F_digitAt_19 : decode nb_F_digitAt 19 = .ok (.ldc2_w 279, 3) := by decide +kernel
theorem d_F_digitAt_22 : decode nb_F_digitAt 22 = .ok (.lrem, 1) := by decide +kernel
theorem d_F_digitAt_23 : decode nb_F_digitAt 23 = .ok (.goto 4, 3) := by decide +kernel
theorem d_F_digitAt_26 : decode nb_F_digitAt 26 = .ok (.lconst 0, 1) := by decide +kernel
theorem d_F_digitAt_27 : decode nb_F_digitAt 27 = .ok (.ladd, 1) := by decide +kernel
theorem d_F_digitAt_28 : decode nb_F_digitAt 28 = .ok (.l2i, 1) := by decide +kernel
theorem d_F_digitAt_29 : decode nb_F_digitAt 29 = .ok (.i2c, 1) := by decide +kernel
theorem d_F_digitAt_30 : decode nb_F_digitAt 30 = .ok (.ireturn, 1) := by decide +kernel
abbrev rm_F_digitAt : Room := ({ frames := 1, cells := 0, slots := 0, locals := 23 })
theorem w_F_digitAt_27 {post : Int32 → nf_M → Prop} (hfl : l.flags = flags0) (K : nf_K p s m args meth c "NumberForge" nb_F_digitAt 3 (some FieldType.char) D a sz) : ∀ (xy0 : Int64) (xy1 : Int64) (M : nf_M) (H : Heap) (locs : List Loc) (ls : Array Slot), B_F_digitAt_27 post xy0 xy1 M → lv_has ls 3 [] → nf_W D a s sz H locs M → W p l e rm_F_digitAt s m args below meth c H locs 0 0 (nf_MQ below (nf_Q nf_jI D a post ex (nf_A a sz)) args s rm_F_digitAt.cells rm_F_digitAt.slots (nf_A a sz)) (F0 m 27 ls [.long xy0, .long xy1]) := by
  have hx := K.1
  have hb := K.2.1
  intro xy0 xy1 M H locs ls h hl hw
  refine lv_ladd hx hb d_F_digitAt_27 ?_
  refine lv_l2i hx hb d_F_digitAt_28 rfl ?_
  refine lv_i2c hx hb d_F_digitAt_29 rfl ?_
  obtain ⟨g1, h⟩ := h
  exact nf_iret K hw d_F_digitAt_30 g1 (Nat.le_of_ble_eq_true rfl) (Nat.le_of_ble_eq_true rfl) (r := (((xy1 + xy0).toInt32).toUInt32 % 65536).toInt32) rfl h
theorem c_F_digitAt (l : Launch) (hfl : l.flags = flags0) (x0 : Int64) (x2 : Int32) : nf_C nf_jI l nm_F_digitAt nb_F_digitAt 3 (some FieldType.char) rm_F_digitAt (fun a => [.long x0, .int x2]) (fun M post ex => P_F_digitAt x0 x2 M post) := by
  refine nf_start (plainFor_of_name (by decide +kernel)) (fun a => Nat.le_of_ble_eq_true rfl) ?_
  intro D a sz M post ex p e s m below meth c ls h K hl hw
  have hx := K.1
  have hb := K.2.1
  have hl : lv_has ls 3 [(0, .long x0), (2, .int x2)] := hl
  refine lv_ldc2 (v := (48 : Int64)) hx hb K.2.2.2.1 (nf_Kg K nw_813) d_F_digitAt_0 ?_
  refine lv_iload_n hx hb d_F_digitAt_3 rfl (lv_at hl 1 rfl) ?_
  refine nf_gets K hw (nf_st0 K).1 nw_354 d_F_digitAt_4 ?_
  refine va_tlen (v := (16 : Int32)) hx hb (nf_st0 K).2.1 hw.2.2 (by decide) d_F_digitAt_7 ?_
  refine nf_ic_ge hx hb d_F_digitAt_8 (tgt := 26) (by decide) (fun hc => ?_) (fun hc => ?_)
  · have h := h.1 hc
    refine lv_lload_n hx hb d_F_digitAt_11 rfl (lv_at hl 0 rfl) ?_
    refine lv_iload_n hx hb d_F_digitAt_12 rfl (lv_at hl 1 rfl) ?_
    refine nf_callW (ex := (fun _ _ => False)) (As := [.int x2]) (st0 := [.int x2, .long x0, .long (48 : Int64)]) (rest := [.long x0, .long (48 : Int64)]) K hw (nf_invS hx hb K.2.2.2.1 (nf_Kg K nw_548) (nf_Kg K nw_352) (nf_Kg K nw_1) (nf_Kg K nw_353) ⟨by decide, by decide⟩ rfl nl_F_power rfl d_F_digitAt_13) (c_F_power l hfl x2) nw_353 nw_1 rfl ⟨by decide, by decide⟩ (Nat.le_of_ble_eq_true rfl) hl.1 ⟨Nat.le_of_ble_eq_true rfl, Nat.le_of_ble_eq_true rfl⟩ h (fun _ _ h => h.elim) (fun r1 M2 H locs h hw => ?_)
    refine W.eq (g2 := F0 m 16 ls [.long r1, .long x0, .long (48 : Int64)]) rfl ?_
    refine nf_callW (ex := (fun _ _ => False)) (As := [.long x0, .long r1]) (st0 := [.long r1, .long x0, .long (48 : Int64)]) (rest := [.long (48 : Int64)]) K hw (nf_invS hx hb K.2.2.2.1 (nf_Kg K nw_553) (nf_Kg K nw_554) (nf_Kg K nw_1) (nf_Kg K nw_555) ⟨by decide, by decide⟩ rfl nl_F_over rfl d_F_digitAt_16) (c_F_over l hfl x0 r1) nw_555 nw_1 rfl ⟨by decide, by decide⟩ (Nat.le_of_ble_eq_true rfl) hl.1 ⟨Nat.le_of_ble_eq_true rfl, Nat.le_of_ble_eq_true rfl⟩ h (fun _ _ h => h.elim) (fun r3 M4 H locs h hw => ?_)
    refine W.eq (g2 := F0 m 19 ls [.long r3, .long (48 : Int64)]) rfl ?_
    refine lv_ldc2 (v := (10 : Int64)) hx hb K.2.2.2.1 (nf_Kg K nw_814) d_F_digitAt_19 ?_
    refine lv_lrem hx hb d_F_digitAt_22 (by decide) ?_
    refine lv_goto hx hb d_F_digitAt_23 (tgt := 27) (by decide) ?_
    exact w_F_digitAt_27 hfl K (r3 - r3 / (10 : Int64) * (10 : Int64)) (48 : Int64) M4 _ _ _ h (lv_sub hl [] rfl) hw
  · have h := h.2 hc
    refine lv_lconst (v := (0 : Int64)) hx hb d_F_digitAt_26 (by decide) ?_
    exact w_F_digitAt_27 hfl K (0 : Int64) (48 : Int64) M _ _ _ h (lv_sub hl [] rfl) hw
theorem d_R_addNumber_0 : decode nb_R_addNumber 0 = .ok (.lload_n 1, 1) := by decide +kernel
theorem d_R_addNumber_1 : decode nb_R_addNumber 1 = .ok (.invokestatic 36, 3) := by decide +kernel
theorem d_R_addNumber_4 : decode nb_R_addNumber 4 = .ok (.iconst 1, 1) := by decide +kernel
theorem d_R_addNumber_5 : decode nb_R_addNumber 5 = .ok (.isub, 1) := by decide +kernel
theorem d_R_addNumber_6 : decode nb_R_addNumber 6 = .ok (.iload_n 3, 1) := by decide +kernel
theorem d_R_addNumber_7 : decode nb_R_addNumber 7 = .ok (.invokestatic 7, 3) := by decide +kernel
theorem d_R_addNumber_10 : decode nb_R_addNumber 10 = .ok (.istore 4, 2) := by decide +kernel
theorem d_R_addNumber_12 : decode nb_R_addNumber 12 = .ok (.iload 4, 2) := by decide +kernel
theorem d_R_addNumber_14 : decode nb_R_addNumber 14 = .ok (.ifCond .lt 35, 3) := by decide +kernel
theorem d_R_addNumber_17 : decode nb_R_addNumber 17 = .ok (.aload_n 0, 1) := by decide +kernel
theorem d_R_addNumber_18 : decode nb_R_addNumber 18 = .ok (.lload_n 1, 1) := by decide +kernel
theorem d_R_addNumber_19 : decode nb_R_addNumber 19 = .ok (.iload 4, 2) := by decide +kernel
theorem d_R_addNumber_21 : decode nb_R_addNumber 21 = .ok (.invokestatic 42, 3) := by decide +kernel
theorem d_R_addNumber_24 : decode nb_R_addNumber 24 = .ok (.invokevirtual 32, 3) := by decide +kernel
theorem d_R_addNumber_27 : decode nb_R_addNumber 27 = .ok (.iload 4, 2) := by decide +kernel
theorem d_R_addNumber_29 : decode nb_R_addNumber 29 = .ok (.iload_n 3, 1) := by decide +kernel
theorem d_R_addNumber_30 : decode nb_R_addNumber 30 = .ok (.if_icmp .ne 13, 3) := by decide +kernel
theorem d_R_addNumber_33 : decode nb_R_addNumber 33 = .ok (.iload_n 3, 1) := by decide +kernel
theorem d_R_addNumber_34 : decode nb_R_addNumber 34 = .ok (.ifCond .le 9, 3) := by decide +kernel
theorem d_R_addNumber_37 : decode nb_R_addNumber 37 = .ok (.aload_n 0, 1) := by decide +kernel
theorem d_R_addNumber_38 : decode nb_R_addNumber 38 = .ok (.bipush 46, 2) := by decide +kernel
theorem d_R_addNumber_40 : decode nb_R_addNumber 40 = .ok (.invokevirtual 32, 3) := by decide +kernel
theorem d_R_addNumber_43 : decode nb_R_addNumber 43 = .ok (.iinc 4 (-1), 3) := by decide +kernel
theorem d_R_addNumber_46 : decode nb_R_addNumber 46 = .ok (.goto (-34), 3) := by decide +kernel
theorem d_R_addNumber_49 : decode nb_R_addNumber 49 = .ok (.return_, 1) := by decide +kernel
abbrev rm_R_addNumber : Room := ({ frames := 2, cells := 0, slots := 0, locals := 45 })
theorem w_R_addNumber_43 {post : Unit → nf_M → Prop} (hfl : l.flags = flags0) (K : nf_K p s m args meth c "NumberForge$Row" nb_R_addNumber 5 none D a sz) (k12 : Bool → Int64 → Int32 → Int32 → nf_M → Prop) (hk12 : ∀ (b0 : Bool) (x1 : Int64) (x3 : Int32) (x4 : Int32) (M : nf_M) (H : Heap) (locs : List Loc) (ls : Array Slot), k12 b0 x1 x3 x4 M → lv_has ls 5 [(0, .ref (a (nf_ro b0))), (1, .long x1), (3, .int x3), (4, .int x4)] → nf_W D a s sz H locs M → W p l e rm_R_addNumber s m args below meth c H locs 0 0 (nf_MQ below (nf_Q nf_jN D a post ex (nf_A a sz)) args s rm_R_addNumber.cells rm_R_addNumber.slots (nf_A a sz)) (F0 m 12 ls [])) : ∀ (b0 : Bool) (x1 : Int64) (x3 : Int32) (x4 : Int32) (M : nf_M) (H : Heap) (locs : List Loc) (ls : Array Slot), B_R_addNumber_43 k12 post b0 x1 x3 x4 M → lv_has ls 5 [(0, .ref (a (nf_ro b0))), (1, .long x1), (3, .int x3), (4, .int x4)] → nf_W D a s sz H locs M → W p l e rm_R_addNumber s m args below meth c H locs 0 0 (nf_MQ below (nf_Q nf_jN D a post ex (nf_A a sz)) args s rm_R_addNumber.cells rm_R_addNumber.slots (nf_A a sz)) (F0 m 43 ls []) := by
  have hx := K.1
  have hb := K.2.1
  intro b0 x1 x3 x4 M H locs ls h hl hw
  refine lv_iinc (k := 3) (v := x4 + (-1 : Int32)) (lv' := [(4, .int (x4 + (-1 : Int32))), (0, .ref (a (nf_ro b0))), (1, .long x1), (3, .int x3)]) hx hb d_R_addNumber_43 hl rfl (nf_inc (by decide)) (by decide) rfl (fun ls hl => ?_)
  refine lv_goto hx hb d_R_addNumber_46 (tgt := 12) (by decide) ?_
  exact hk12 b0 x1 x3 (x4 + (-1 : Int32)) M _ _ _ h (lv_sub hl [1, 2, 3, 0] rfl) hw
theorem w_R_addNumber_12 {post : Unit → nf_M → Prop} (hfl : l.flags = flags0) (K : nf_K p s m args meth c "NumberForge$Row" nb_R_addNumber 5 none D a sz) : ∀ (n : Nat) (b0 : Bool) (x1 : Int64) (x3 : Int32) (x4 : Int32) (M : nf_M) (H : Heap) (locs : List Loc) (ls : Array Slot), B_R_addNumber_12 post n b0 x1 x3 x4 M → lv_has ls 5 [(0, .ref (a (nf_ro b0))), (1, .long x1), (3, .int x3), (4, .int x4)] → nf_W D a s sz H locs M → W p l e rm_R_addNumber s m args below meth c H locs 0 0 (nf_MQ below (nf_Q nf_jN D a post ex (nf_A a sz)) args s rm_R_addNumber.cells rm_R_addNumber.slots (nf_A a sz)) (F0 m 12 ls []) := by
  have hx := K.1
  have hb := K.2.1
  intro n
  induction n with
  | zero => intro b0 x1 x3 x4 M H locs ls h hl hw; exact h.elim
  | succ n ih =>
    intro b0 x1 x3 x4 M H locs ls h hl hw
    refine lv_iload hx hb d_R_addNumber_12 (lv_at hl 3 rfl) ?_
    refine nf_if_lt hx hb d_R_addNumber_14 (tgt := 49) (by decide) (fun hc => ?_) (fun hc => ?_)
    · have h := h.1 hc
      exact nf_vret K hw d_R_addNumber_49 (Nat.le_of_ble_eq_true rfl) (Nat.le_of_ble_eq_true rfl) (r := ()) rfl h
    · have h := h.2 hc
      refine lv_aload_n hx hb d_R_addNumber_17 rfl (lv_at hl 0 rfl) ?_
      refine lv_lload_n hx hb d_R_addNumber_18 rfl (lv_at hl 1 rfl) ?_
      refine lv_iload hx hb d_R_addNumber_19 (lv_at hl 3 rfl) ?_
      refine nf_callW (ex := (fun _ _ => False)) (As := [.long x1, .int x4]) (st0 := [.int x4, .long x1, .ref (a (nf_ro b0))]) (rest := [.ref (a (nf_ro b0))]) K hw (nf_invSN hx hb K.2.2.2.1 ((nf_Kr K nv_810).use rfl) (nf_Kg K nw_811) (nf_Kg K nw_1) (nf_Kg K nw_812) ⟨by decide, by decide⟩ rfl nl_F_digitAt rfl d_R_addNumber_21) (c_F_digitAt l hfl x1 x4) nw_812 nw_1 rfl ⟨by decide, by decide⟩ (Nat.le_of_ble_eq_true rfl) hl.1 ⟨Nat.le_of_ble_eq_true rfl, Nat.le_of_ble_eq_true rfl⟩ h (fun _ _ h => h.elim) (fun r1 M2 H locs h hw => ?_)
      refine W.eq (g2 := F0 m 24 ls [.int r1, .ref (a (nf_ro b0))]) rfl ?_
      refine nf_callW (ex := (fun _ _ => False)) (As := [.ref (a (nf_ro b0)), .int r1]) (st0 := [.int r1, .ref (a (nf_ro b0))]) (rest := []) K hw (nf_invV hx hb K.2.2.2.1 (nf_Kg K nw_783) (nf_Kg K nw_199) (nf_Kg K nx_R_add) (nf_Kg K nw_200) ⟨by decide, by decide⟩ (nf_rcv K hw (nf_ro b0) 3 (nf_heR _ _ _) rfl) rfl nl_R_add rfl d_R_addNumber_24) (c_R_add l hfl b0 r1) nw_200 nw_3 rfl ⟨by decide, by decide⟩ (Nat.le_of_ble_eq_true rfl) hl.1 ⟨Nat.le_of_ble_eq_true rfl, Nat.le_of_ble_eq_true rfl⟩ h (fun _ _ h => h.elim) (fun r3 M4 H locs h hw => ?_)
      refine W.eq (g2 := F0 m 27 ls []) rfl ?_
      refine lv_iload hx hb d_R_addNumber_27 (lv_at hl 3 rfl) ?_
      refine lv_iload_n hx hb d_R_addNumber_29 rfl (lv_at hl 2 rfl) ?_
      refine nf_ic_ne hx hb d_R_addNumber_30 (tgt := 43) (by decide) (fun hc => ?_) (fun hc => ?_)
      · have h := h.1 hc
        refine lv_iload_n hx hb d_R_addNumber_33 rfl (lv_at hl 2 rfl) ?_
        refine nf_if_le hx hb d_R_addNumber_34 (tgt := 43) (by decide) (fun hc => ?_) (fun hc => ?_)
        · have h := h.1 hc
          refine lv_aload_n hx hb d_R_addNumber_37 rfl (lv_at hl 0 rfl) ?_
          refine lv_bipush (v := (46 : Int32)) hx hb d_R_addNumber_38 (by decide) ?_
          refine nf_callW (ex := (fun _ _ => False)) (As := [.ref (a (nf_ro b0)), .int (46 : Int32)]) (st0 := [.int (46 : Int32), .ref (a (nf_ro b0))]) (rest := []) K hw (nf_invV hx hb K.2.2.2.1 (nf_Kg K nw_783) (nf_Kg K nw_199) (nf_Kg K nx_R_add) (nf_Kg K nw_200) ⟨by decide, by decide⟩ (nf_rcv K hw (nf_ro b0) 3 (nf_heR _ _ _) rfl) rfl nl_R_add rfl d_R_addNumber_40) (c_R_add l hfl b0 (46 : Int32)) nw_200 nw_3 rfl ⟨by decide, by decide⟩ (Nat.le_of_ble_eq_true rfl) hl.1 ⟨Nat.le_of_ble_eq_true rfl, Nat.le_of_ble_eq_true rfl⟩ h (fun _ _ h => h.elim) (fun r5 M6 H locs h hw => ?_)
          refine W.eq (g2 := F0 m 43 ls []) rfl ?_
          exact w_R_addNumber_43 hfl K (fun b0 x1 x3 x4 z => B_R_addNumber_12 post n b0 x1 x3 x4 z) (fun b0 x1 x3 x4 z H locs ls hh hll hww => ih b0 x1 x3 x4 z H locs ls hh hll hww) b0 x1 x3 x4 M6 _ _ _ h (lv_sub hl [0, 1, 2, 3] rfl) hw
        · have h := h.2 hc
          exact w_R_addNumber_43 hfl K (fun b0 x1 x3 x4 z => B_R_addNumber_12 post n b0 x1 x3 x4 z) (fun b0 x1 x3 x4 z H locs ls hh hll hww => ih b0 x1 x3 x4 z H locs ls hh hll hww) b0 x1 x3 x4 M4 _ _ _ h (lv_sub hl [0, 1, 2, 3] rfl) hw
      · have h := h.2 hc
        exact w_R_addNumber_43 hfl K (fun b0 x1 x3 x4 z => B_R_addNumber_12 post n b0 x1 x3 x4 z) (fun b0 x1 x3 x4 z H locs ls hh hll hww => ih b0 x1 x3 x4 z H locs ls hh hll hww) b0 x1 x3 x4 M4 _ _ _ h (lv_sub hl [0, 1, 2, 3] rfl) hw
theorem c_R_addNumber (l : Launch) (hfl : l.flags = flags0) (b0 : Bool) (x1 : Int64) (x3 : Int32) : nf_C nf_jN l nm_R_addNumber nb_R_addNumber 5 none rm_R_addNumber (fun a => [.ref (a (nf_ro b0)), .long x1, .int x3]) (fun M post ex => P_R_addNumber b0 x1 x3 M post) := by
  refine nf_start (plainFor_of_name (by decide +kernel)) (fun a => Nat.le_of_ble_eq_true rfl) ?_
  intro D a sz M post ex p e s m below meth c ls h K hl hw
  have hx := K.1
  have hb := K.2.1
  have hl : lv_has ls 5 [(0, .ref (a (nf_ro b0))), (1, .long x1), (3, .int x3)] := hl
  refine lv_lload_n hx hb d_R_addNumber_0 rfl (lv_at hl 1 rfl) ?_
  refine nf_callW (ex := (fun _ _ => False)) (As := [.long x1]) (st0 := [.long x1]) (rest := []) K hw (nf_invSN hx hb K.2.2.2.1 ((nf_Kr K nv_807).use rfl) (nf_Kg K nw_808) (nf_Kg K nw_1) (nf_Kg K nw_809) ⟨by decide, by decide⟩ rfl nl_F_digitCount rfl d_R_addNumber_1) (c_F_digitCount l hfl x1) nw_809 nw_1 rfl ⟨by decide, by decide⟩ (Nat.le_of_ble_eq_true rfl) hl.1 ⟨Nat.le_of_ble_eq_true rfl, Nat.le_of_ble_eq_true rfl⟩ h (fun _ _ h => h.elim) (fun r1 M2 H locs h hw => ?_)
  refine W.eq (g2 := F0 m 4 ls [.int r1]) rfl ?_
  refine lv_iconst (v := (1 : Int32)) hx hb d_R_addNumber_4 (by decide) ?_
  refine lv_isub hx hb d_R_addNumber_5 ?_
  refine lv_iload_n hx hb d_R_addNumber_6 rfl (lv_at hl 2 rfl) ?_
  refine nf_callW (ex := (fun _ _ => False)) (As := [.int (r1 - (1 : Int32)), .int x3]) (st0 := [.int x3, .int (r1 - (1 : Int32))]) (rest := []) K hw (nf_invS hx hb K.2.2.2.1 (nf_Kg K nw_63) (nf_Kg K nw_64) (nf_Kg K nw_4) (nf_Kg K nw_65) ⟨by decide, by decide⟩ rfl nl_JM_max rfl d_R_addNumber_7) (c_JM_max l hfl (r1 - (1 : Int32)) x3) nw_65 nw_4 rfl ⟨by decide, by decide⟩ (Nat.le_of_ble_eq_true rfl) hl.1 ⟨Nat.le_of_ble_eq_true rfl, Nat.le_of_ble_eq_true rfl⟩ h (fun _ _ h => h.elim) (fun r3 M4 H locs h hw => ?_)
  refine W.eq (g2 := F0 m 10 ls [.int r3]) rfl ?_
  refine lv_istore (lv' := [(4, .int r3), (0, .ref (a (nf_ro b0))), (1, .long x1), (3, .int x3)]) hx hb d_R_addNumber_10 hl (by decide) rfl (fun ls hl => ?_)
  obtain ⟨n, h⟩ := h
  exact w_R_addNumber_12 hfl K n b0 x1 x3 r3 M4 _ _ _ h (lv_sub hl [1, 2, 3, 0] rfl) hw
theorem d_F_writeWithPower_0 : decode nb_F_writeWithPower 0 = .ok (.aload_n 0, 1) := by decide +kernel
theorem d_F_writeWithPower_1 : decode nb_F_writeWithPower 1 = .ok (.getfield 49, 3) := by decide +kernel
theorem d_F_writeWithPower_4 : decode nb_F_writeWithPower 4 = .ok (.getfield 454, 3) := by decide +kernel
theorem d_F_writeWithPower_7 : decode nb_F_writeWithPower 7 = .ok (.invokestatic 462, 3) := by decide +kernel
theorem d_F_writeWithPower_10 : decode nb_F_writeWithPower 10 = .ok (.iconst 1, 1) := by decide +kernel
theorem d_F_writeWithPower_11 : decode nb_F_writeWithPower 11 = .ok (.isub, 1) := by decide +kernel
theorem d_F_writeWithPower_12 : decode nb_F_writeWithPower 12 = .ok (.istore_n 1, 1) := by decide +kernel
theorem d_F_writeWithPower_13 : decode nb_F_writeWithPower 13 = .ok (.aload_n 0, 1) := by decide +kernel
theorem d_F_writeWithPower_14 : decode nb_F_writeWithPower 14 = .ok (.getfield 29, 3) := by decide +kernel
theorem d_F_writeWithPower_17 : decode nb_F_writeWithPower 17 = .ok (.aload_n 0, 1) := by decide +kernel
theorem d_F_writeWithPower_18 : decode nb_F_writeWithPower 18 = .ok (.getfield 49, 3) := by decide +kernel
theorem d_F_writeWithPower_21 : decode nb_F_writeWithPower 21 = .ok (.getfield 454, 3) := by decide +kernel
theorem d_F_writeWithPower_24 : decode nb_F_writeWithPower 24 = .ok (.iload_n 1, 1) := by decide +kernel
theorem d_F_writeWithPower_25 : decode nb_F_writeWithPower 25 = .ok (.invokestatic 466, 3) := by decide +kernel
theorem d_F_writeWithPower_28 : decode nb_F_writeWithPower 28 = .ok (.invokevirtual 64, 3) := by decide +kernel
theorem d_F_writeWithPower_31 : decode nb_F_writeWithPower 31 = .ok (.aload_n 0, 1) := by decide +kernel
theorem d_F_writeWithPower_32 : decode nb_F_writeWithPower 32 = .ok (.getfield 29, 3) := by decide +kernel
theorem d_F_writeWithPower_35 : decode nb_F_writeWithPower 35 = .ok (.bipush 46, 2) := by decide +kernel
theorem d_F_writeWithPower_37 : decode nb_F_writeWithPower 37 = .ok (.invokevirtual 64, 3) := by decide +kernel
theorem d_F_writeWithPower_40 : decode nb_F_writeWithPower 40 = .ok (.iload_n 1, 1) := by decide +kernel
theorem d_F_writeWithPower_41 : decode nb_F_writeWithPower 41 = .ok (.ifCond .ne 12, 3) := by decide +kernel
theorem d_F_writeWithPower_44 : decode nb_F_writeWithPower 44 = .ok (.aload_n 0, 1) := by decide +kernel
theorem d_F_writeWithPower_45 : decode nb_F_writeWithPower 45 = .ok (.getfield 29, 3) := by decide +kernel
theorem d_F_writeWithPower_48 : decode nb_F_writeWithPower 48 = .ok (.bipush 48, 2) := by decide +kernel
theorem d_F_writeWithPower_50 : decode nb_F_writeWithPower 50 = .ok (.invokevirtual 64, 3) := by decide +kernel
theorem d_F_writeWithPower_53 : decode nb_F_writeWithPower 53 = .ok (.iload_n 1, 1) := by decide +kernel
theorem d_F_writeWithPower_54 : decode nb_F_writeWithPower 54 = .ok (.iconst 1, 1) := by decide +kernel
theorem d_F_writeWithPower_55 : decode nb_F_writeWithPower 55 = .ok (.isub, 1) := by decide +kernel
theorem d_F_writeWithPower_56 : decode nb_F_writeWithPower 56 = .ok (.istore_n 2, 1) := by decide +kernel
theorem d_F_writeWithPower_57 : decode nb_F_writeWithPower 57 = .ok (.iload_n 2, 1) := by decide +kernel
theorem d_F_writeWithPower_58 : decode nb_F_writeWithPower 58 = .ok (.ifCond .lt 27, 3) := by decide +kernel
theorem d_F_writeWithPower_61 : decode nb_F_writeWithPower 61 = .ok (.aload_n 0, 1) := by decide +kernel
theorem d_F_writeWithPower_62 : decode nb_F_writeWithPower 62 = .ok (.getfield 29, 3) := by decide +kernel
theorem d_F_writeWithPower_65 : decode nb_F_writeWithPower 65 = .ok (.aload_n 0, 1) := by decide +kernel
theorem d_F_writeWithPower_66 : decode nb_F_writeWithPower 66 = .ok (.getfield 49, 3) := by decide +kernel
theorem d_F_writeWithPower_69 : decode nb_F_writeWithPower 69 = .ok (.getfield 454, 3) := by decide +kernel
theorem d_F_writeWithPower_72 : decode nb_F_writeWithPower 72 = .ok (.iload_n 2, 1) := by decide +kernel
theorem d_F_writeWithPower_73 : decode nb_F_writeWithPower 73 = .ok (.invokestatic 466, 3) := by decide +kernel
theorem d_F_writeWithPower_76 : decode nb_F_writeWithPower 76 = .ok (.invokevirtual 64, 3) := by decide +kernel
theorem d_F_writeWithPower_79 : decode nb_F_writeWithPower 79 = .ok (.iinc 2 (-1), 3) := by decide +kernel
theorem d_F_writeWithPower_82 : decode nb_F_writeWithPower 82 = .ok (.goto (-25), 3) := by decide +kernel
theorem d_F_writeWithPower_85 : decode nb_F_writeWithPower 85 = .ok (.aload_n 0, 1) := by decide +kernel
theorem d_F_writeWithPower_86 : decode nb_F_writeWithPower 86 = .ok (.getfield 29, 3) := by decide +kernel
theorem d_F_writeWithPower_89 : decode nb_F_writeWithPower 89 = .ok (.bipush 69, 2) := by decide +kernel
theorem d_F_writeWithPower_91 : decode nb_F_writeWithPower 91 = .ok (.invokevirtual 64, 3) := by decide +kernel
theorem d_F_writeWithPower_94 : decode nb_F_writeWithPower 94 = .ok (.aload_n 0, 1) := by decide +kernel
theorem d_F_writeWithPower_95 : decode nb_F_writeWithPower 95 = .ok (.getfield 49, 3) := by decide +kernel
theorem d_F_writeWithPower_98 : decode nb_F_writeWithPower 98 = .ok (.getfield 457, 3) := by decide +kernel
theorem d_F_writeWithPower_101 : decode nb_F_writeWithPower 101 = .ok (.iload_n 1, 1) := by decide +kernel
theorem d_F_writeWithPower_102 : decode nb_F_writeWithPower 102 = .ok (.iadd, 1) := by decide +kernel
theorem d_F_writeWithPower_103 : decode nb_F_writeWithPower 103 = .ok (.istore_n 2, 1) := by decide +kernel
theorem d_F_writeWithPower_104 : decode nb_F_writeWithPower 104 = .ok (.iload_n 2, 1) := by decide +kernel
theorem d_F_writeWithPower_105 : decode nb_F_writeWithPower 105 = .ok (.ifCond .ge 12, 3) := by decide +kernel
theorem d_F_writeWithPower_108 : decode nb_F_writeWithPower 108 = .ok (.aload_n 0, 1) := by decide +kernel
theorem d_F_writeWithPower_109 : decode nb_F_writeWithPower 109 = .ok (.getfield 29, 3) := by decide +kernel
theorem d_F_writeWithPower_112 : decode nb_F_writeWithPower 112 = .ok (.bipush 45, 2) := by decide +kernel
theorem d_F_writeWithPower_114 : decode nb_F_writeWithPower 114 = .ok (.invokevirtual 64, 3) := by decide +kernel
theorem d_F_writeWithPower_117 : decode nb_F_writeWithPower 117 = .ok (.aload_n 0, 1) := by decide +kernel
theorem d_F_writeWithPower_118 : decode nb_F_writeWithPower 118 = .ok (.getfield 29, 3) := by decide +kernel
theorem d_F_writeWithPower_121 : decode nb_F_writeWithPower 121 = .ok (.iload_n 2, 1) := by decide +kernel
theorem d_F_writeWithPower_122 : decode nb_F_writeWithPower 122 = .ok (.invokestatic 470, 3) := by decide +kernel
theorem d_F_writeWithPower_125 : decode nb_F_writeWithPower 125 = .ok (.i2l, 1) := by decide +kernel
theorem d_F_writeWithPower_126 : decode nb_F_writeWithPower 126 = .ok (.iconst 0, 1) := by decide +kernel
theorem d_F_writeWithPower_127 : decode nb_F_writeWithPower 127 = .ok (.invokevirtual 433, 3) := by decide +kernel
theorem d_F_writeWithPower_130 : decode nb_F_writeWithPower 130 = .ok (.return_, 1) := by decide +kernel
abbrev rm_F_writeWithPower : Room := ({ frames := 3, cells := 0, slots := 0, locals := 69 })
theorem w_F_writeWithPower_117 {post : Unit → nf_M → Prop} (hfl : l.flags = flags0) (K : nf_K p s m args meth c "NumberForge" nb_F_writeWithPower 3 none D a sz) : ∀ (x2 : Int32) (M : nf_M) (H : Heap) (locs : List Loc) (ls : Array Slot), B_F_writeWithPower_117 post x2 M → lv_has ls 3 [(0, .ref (a 0)), (2, .int x2)] → nf_W D a s sz H locs M → W p l e rm_F_writeWithPower s m args below meth c H locs 0 0 (nf_MQ below (nf_Q nf_jN D a post ex (nf_A a sz)) args s rm_F_writeWithPower.cells rm_F_writeWithPower.slots (nf_A a sz)) (F0 m 117 ls []) := by
  have hx := K.1
  have hb := K.2.1
  intro x2 M H locs ls h hl hw
  refine lv_aload_n hx hb d_F_writeWithPower_117 rfl (lv_at hl 0 rfl) ?_
  refine nf_get (v := .ref (a (nf_ro true))) K hw 0 6 3 nw_171 rfl rfl ni_F (by decide) rfl rfl d_F_writeWithPower_118 ?_
  refine lv_iload_n hx hb d_F_writeWithPower_121 rfl (lv_at hl 1 rfl) ?_
  refine nf_callW (ex := (fun _ _ => False)) (As := [.int x2]) (st0 := [.int x2, .ref (a (nf_ro true))]) (rest := [.ref (a (nf_ro true))]) K hw (nf_invS hx hb K.2.2.2.1 (nf_Kg K nw_821) (nf_Kg K nw_822) (nf_Kg K nw_4) (nf_Kg K nw_823) ⟨by decide, by decide⟩ rfl nl_JM_abs_II rfl d_F_writeWithPower_122) (c_JM_abs_II l hfl x2) nw_823 nw_4 rfl ⟨by decide, by decide⟩ (Nat.le_of_ble_eq_true rfl) hl.1 ⟨Nat.le_of_ble_eq_true rfl, Nat.le_of_ble_eq_true rfl⟩ h (fun _ _ h => h.elim) (fun r1 M2 H locs h hw => ?_)
  refine W.eq (g2 := F0 m 125 ls [.int r1, .ref (a (nf_ro true))]) rfl ?_
  refine lv_i2l hx hb d_F_writeWithPower_125 rfl ?_
  refine lv_iconst (v := (0 : Int32)) hx hb d_F_writeWithPower_126 (by decide) ?_
  refine nf_callW (ex := (fun _ _ => False)) (As := [.ref (a (nf_ro true)), .long (r1.toInt64), .int (0 : Int32)]) (st0 := [.int (0 : Int32), .long (r1.toInt64), .ref (a (nf_ro true))]) (rest := []) K hw (nf_invVN hx hb K.2.2.2.1 ((nf_Kr K nv_803).use rfl) (nf_Kg K nw_805) (nf_Kg K nx_R_addNumber) (nf_Kg K nw_806) ⟨by decide, by decide⟩ (nf_rcv K hw (nf_ro true) 3 (nf_heR _ _ _) rfl) rfl nl_R_addNumber rfl d_F_writeWithPower_127) (c_R_addNumber l hfl true (r1.toInt64) (0 : Int32)) nw_806 nw_3 rfl ⟨by decide, by decide⟩ (Nat.le_of_ble_eq_true rfl) hl.1 ⟨Nat.le_of_ble_eq_true rfl, Nat.le_of_ble_eq_true rfl⟩ h (fun _ _ h => h.elim) (fun r3 M4 H locs h hw => ?_)
  refine W.eq (g2 := F0 m 130 ls []) rfl ?_
  exact nf_vret K hw d_F_writeWithPower_130 (Nat.le_of_ble_eq_true rfl) (Nat.le_of_ble_eq_true rfl) (r := ()) rfl h
theorem w_F_writeWithPower_57 {post : Unit → nf_M → Prop} (hfl : l.flags = flags0) (K : nf_K p s m args meth c "NumberForge" nb_F_writeWithPower 3 none D a sz) : ∀ (n : Nat) (x1 : Int32) (x2 : Int32) (M : nf_M) (H : Heap) (locs : List Loc) (ls : Array Slot), B_F_writeWithPower_57 post n x1 x2 M → lv_has ls 3 [(0, .ref (a 0)), (1, .int x1), (2, .int x2)] → nf_W D a s sz H locs M → W p l e rm_F_writeWithPower s m args below meth c H locs 0 0 (nf_MQ below (nf_Q nf_jN D a post ex (nf_A a sz)) args s rm_F_writeWithPower.cells rm_F_writeWithPower.slots (nf_A a sz)) (F0 m 57 ls []) := by
  have hx := K.1
  have hb := K.2.1
  intro n
  induction n with
  | zero => intro x1 x2 M H locs ls h hl hw; exact h.elim
  | succ n ih =>
    intro x1 x2 M H locs ls h hl hw
    refine lv_iload_n hx hb d_F_writeWithPower_57 rfl (lv_at hl 2 rfl) ?_
    refine nf_if_lt hx hb d_F_writeWithPower_58 (tgt := 85) (by decide) (fun hc => ?_) (fun hc => ?_)
    · have h := h.1 hc
      refine lv_aload_n hx hb d_F_writeWithPower_85 rfl (lv_at hl 0 rfl) ?_
      refine nf_get (v := .ref (a (nf_ro true))) K hw 0 6 3 nw_171 rfl rfl ni_F (by decide) rfl rfl d_F_writeWithPower_86 ?_
      refine lv_bipush (v := (69 : Int32)) hx hb d_F_writeWithPower_89 (by decide) ?_
      refine nf_callW (ex := (fun _ _ => False)) (As := [.ref (a (nf_ro true)), .int (69 : Int32)]) (st0 := [.int (69 : Int32), .ref (a (nf_ro true))]) (rest := []) K hw (nf_invVN hx hb K.2.2.2.1 ((nf_Kr K nv_197).use rfl) (nf_Kg K nw_199) (nf_Kg K nx_R_add) (nf_Kg K nw_200) ⟨by decide, by decide⟩ (nf_rcv K hw (nf_ro true) 3 (nf_heR _ _ _) rfl) rfl nl_R_add rfl d_F_writeWithPower_91) (c_R_add l hfl true (69 : Int32)) nw_200 nw_3 rfl ⟨by decide, by decide⟩ (Nat.le_of_ble_eq_true rfl) hl.1 ⟨Nat.le_of_ble_eq_true rfl, Nat.le_of_ble_eq_true rfl⟩ h (fun _ _ h => h.elim) (fun r1 M2 H locs h hw => ?_)
      refine W.eq (g2 := F0 m 94 ls []) rfl ?_
      refine lv_aload_n hx hb d_F_writeWithPower_94 rfl (lv_at hl 0 rfl) ?_
      refine nf_get (v := .ref (a 8)) K hw 0 6 6 nw_174 rfl rfl ni_F (by decide) rfl rfl d_F_writeWithPower_95 ?_
      refine nf_getN (v := .int (mg_I M2 8 1)) K hw 8 0 1 nv_148 rfl rfl ni_D (by decide) rfl rfl d_F_writeWithPower_98 ?_
      refine lv_iload_n hx hb d_F_writeWithPower_101 rfl (lv_at hl 1 rfl) ?_
      refine lv_iadd hx hb d_F_writeWithPower_102 ?_
      refine lv_topi (fun t3 et3 => ?_)
      have h := h t3 et3
      refine lv_istore_n (lv' := [(2, .int t3), (0, .ref (a 0)), (1, .int x1)]) hx hb d_F_writeWithPower_103 rfl hl (by decide) rfl (fun ls hl => ?_)
      refine lv_iload_n hx hb d_F_writeWithPower_104 rfl (lv_at hl 0 rfl) ?_
      refine nf_if_ge hx hb d_F_writeWithPower_105 (tgt := 117) (by decide) (fun hc => ?_) (fun hc => ?_)
      · have h := h.1 hc
        refine lv_aload_n hx hb d_F_writeWithPower_108 rfl (lv_at hl 1 rfl) ?_
        refine nf_get (v := .ref (a (nf_ro true))) K hw 0 6 3 nw_171 rfl rfl ni_F (by decide) rfl rfl d_F_writeWithPower_109 ?_
        refine lv_bipush (v := (45 : Int32)) hx hb d_F_writeWithPower_112 (by decide) ?_
        refine nf_callW (ex := (fun _ _ => False)) (As := [.ref (a (nf_ro true)), .int (45 : Int32)]) (st0 := [.int (45 : Int32), .ref (a (nf_ro true))]) (rest := []) K hw (nf_invVN hx hb K.2.2.2.1 ((nf_Kr K nv_197).use rfl) (nf_Kg K nw_199) (nf_Kg K nx_R_add) (nf_Kg K nw_200) ⟨by decide, by decide⟩ (nf_rcv K hw (nf_ro true) 3 (nf_heR _ _ _) rfl) rfl nl_R_add rfl d_F_writeWithPower_114) (c_R_add l hfl true (45 : Int32)) nw_200 nw_3 rfl ⟨by decide, by decide⟩ (Nat.le_of_ble_eq_true rfl) hl.1 ⟨Nat.le_of_ble_eq_true rfl, Nat.le_of_ble_eq_true rfl⟩ h (fun _ _ h => h.elim) (fun r4 M5 H locs h hw => ?_)
        refine W.eq (g2 := F0 m 117 ls []) rfl ?_
        exact w_F_writeWithPower_117 hfl K t3 M5 _ _ _ h (lv_sub hl [1, 0] rfl) hw
      · have h := h.2 hc
        exact w_F_writeWithPower_117 hfl K t3 M2 _ _ _ h (lv_sub hl [1, 0] rfl) hw
    · have h := h.2 hc
      refine lv_aload_n hx hb d_F_writeWithPower_61 rfl (lv_at hl 0 rfl) ?_
      refine nf_get (v := .ref (a (nf_ro true))) K hw 0 6 3 nw_171 rfl rfl ni_F (by decide) rfl rfl d_F_writeWithPower_62 ?_
      refine lv_aload_n hx hb d_F_writeWithPower_65 rfl (lv_at hl 0 rfl) ?_
      refine nf_get (v := .ref (a 8)) K hw 0 6 6 nw_174 rfl rfl ni_F (by decide) rfl rfl d_F_writeWithPower_66 ?_
      refine nf_getN (v := .long (mg_L M 8 0)) K hw 8 0 0 nv_146 rfl rfl ni_D (by decide) rfl rfl d_F_writeWithPower_69 ?_
      refine lv_iload_n hx hb d_F_writeWithPower_72 rfl (lv_at hl 2 rfl) ?_
      refine nf_callW (ex := (fun _ _ => False)) (As := [.long (mg_L M 8 0), .int x2]) (st0 := [.int x2, .long (mg_L M 8 0), .ref (a (nf_ro true))]) (rest := [.ref (a (nf_ro true))]) K hw (nf_invS hx hb K.2.2.2.1 (nf_Kg K nw_820) (nf_Kg K nw_811) (nf_Kg K nw_1) (nf_Kg K nw_812) ⟨by decide, by decide⟩ rfl nl_F_digitAt rfl d_F_writeWithPower_73) (c_F_digitAt l hfl (mg_L M 8 0) x2) nw_812 nw_1 rfl ⟨by decide, by decide⟩ (Nat.le_of_ble_eq_true rfl) hl.1 ⟨Nat.le_of_ble_eq_true rfl, Nat.le_of_ble_eq_true rfl⟩ h (fun _ _ h => h.elim) (fun r6 M7 H locs h hw => ?_)
      refine W.eq (g2 := F0 m 76 ls [.int r6, .ref (a (nf_ro true))]) rfl ?_
      refine nf_callW (ex := (fun _ _ => False)) (As := [.ref (a (nf_ro true)), .int r6]) (st0 := [.int r6, .ref (a (nf_ro true))]) (rest := []) K hw (nf_invVN hx hb K.2.2.2.1 ((nf_Kr K nv_197).use rfl) (nf_Kg K nw_199) (nf_Kg K nx_R_add) (nf_Kg K nw_200) ⟨by decide, by decide⟩ (nf_rcv K hw (nf_ro true) 3 (nf_heR _ _ _) rfl) rfl nl_R_add rfl d_F_writeWithPower_76) (c_R_add l hfl true r6) nw_200 nw_3 rfl ⟨by decide, by decide⟩ (Nat.le_of_ble_eq_true rfl) hl.1 ⟨Nat.le_of_ble_eq_true rfl, Nat.le_of_ble_eq_true rfl⟩ h (fun _ _ h => h.elim) (fun r8 M9 H locs h hw => ?_)
      refine W.eq (g2 := F0 m 79 ls []) rfl ?_
      refine lv_iinc (k := 2) (v := x2 + (-1 : Int32)) (lv' := [(2, .int (x2 + (-1 : Int32))), (0, .ref (a 0)), (1, .int x1)]) hx hb d_F_writeWithPower_79 hl rfl (nf_inc (by decide)) (by decide) rfl (fun ls hl => ?_)
      refine lv_goto hx hb d_F_writeWithPower_82 (tgt := 57) (by decide) ?_
      exact ih x1 (x2 + (-1 : Int32)) M9 _ _ _ h (lv_sub hl [1, 2, 0] rfl) hw
theorem w_F_writeWithPower_53 {post : Unit → nf_M → Prop} (hfl : l.flags = flags0) (K : nf_K p s m args meth c "NumberForge" nb_F_writeWithPower 3 none D a sz) : ∀ (x1 : Int32) (M : nf_M) (H : Heap) (locs : List Loc) (ls : Array Slot), B_F_writeWithPower_53 post x1 M → lv_has ls 3 [(0, .ref (a 0)), (1, .int x1)] → nf_W D a s sz H locs M → W p l e rm_F_writeWithPower s m args below meth c H locs 0 0 (nf_MQ below (nf_Q nf_jN D a post ex (nf_A a sz)) args s rm_F_writeWithPower.cells rm_F_writeWithPower.slots (nf_A a sz)) (F0 m 53 ls []) := by
  have hx := K.1
  have hb := K.2.1
  intro x1 M H locs ls h hl hw
  refine lv_iload_n hx hb d_F_writeWithPower_53 rfl (lv_at hl 1 rfl) ?_
  refine lv_iconst (v := (1 : Int32)) hx hb d_F_writeWithPower_54 (by decide) ?_
  refine lv_isub hx hb d_F_writeWithPower_55 ?_
  refine lv_topi (fun t1 et1 => ?_)
  have h := h t1 et1
  refine lv_istore_n (lv' := [(2, .int t1), (0, .ref (a 0)), (1, .int x1)]) hx hb d_F_writeWithPower_56 rfl hl (by decide) rfl (fun ls hl => ?_)
  obtain ⟨n, h⟩ := h
  exact w_F_writeWithPower_57 hfl K n x1 t1 M _ _ _ h (lv_sub hl [1, 2, 0] rfl) hw
theorem c_F_writeWithPower (l : Launch) (hfl : l.flags = flags0) : nf_C nf_jN l nm_F_writeWithPower nb_F_writeWithPower 3 none rm_F_writeWithPower (fun a => [.ref (a 0)]) (fun M post ex => P_F_writeWithPower  M post) := by
  refine nf_start (plainFor_of_name (by decide +kernel)) (fun a => Nat.le_of_ble_eq_true rfl) ?_
  intro D a sz M post ex p e s m below meth c ls h K hl hw
  have hx := K.1
  have hb := K.2.1
  have hl : lv_has ls 3 [(0, .ref (a 0))] := hl
  refine lv_aload_n hx hb d_F_writeWithPower_0 rfl (lv_at hl 0 rfl) ?_
  refine nf_get (v := .ref (a 8)) K hw 0 6 6 nw_174 rfl rfl ni_F (by decide) rfl rfl d_F_writeWithPower_1 ?_
  refine nf_getN (v := .long (mg_L M 8 0)) K hw 8 0 0 nv_146 rfl rfl ni_D (by decide) rfl rfl d_F_writeWithPower_4 ?_
  refine nf_callW (ex := (fun _ _ => False)) (As := [.long (mg_L M 8 0)]) (st0 := [.long (mg_L M 8 0)]) (rest := []) K hw (nf_invS hx hb K.2.2.2.1 (nf_Kg K nw_819) (nf_Kg K nw_808) (nf_Kg K nw_1) (nf_Kg K nw_809) ⟨by decide, by decide⟩ rfl nl_F_digitCount rfl d_F_writeWithPower_7) (c_F_digitCount l hfl (mg_L M 8 0)) nw_809 nw_1 rfl ⟨by decide, by decide⟩ (Nat.le_of_ble_eq_true rfl) hl.1 ⟨Nat.le_of_ble_eq_true rfl, Nat.le_of_ble_eq_true rfl⟩ h (fun _ _ h => h.elim) (fun r1 M2 H locs h hw => ?_)
  refine W.eq (g2 := F0 m 10 ls [.int r1]) rfl ?_
  refine lv_iconst (v := (1 : Int32)) hx hb d_F_writeWithPower_10 (by decide) ?_
  refine lv_isub hx hb d_F_writeWithPower_11 ?_
  refine lv_topi (fun t3 et3 => ?_)
  have h := h t3 et3
  refine lv_istore_n (lv' := [(1, .int t3), (0, .ref (a 0))]) hx hb d_F_writeWithPower_12 rfl hl (by decide) rfl (fun ls hl => ?_)
  refine lv_aload_n hx hb d_F_writeWithPower_13 rfl (lv_at hl 1 rfl) ?_
  refine nf_get (v := .ref (a (nf_ro true))) K hw 0 6 3 nw_171 rfl rfl ni_F (by decide) rfl rfl d_F_writeWithPower_14 ?_
  refine lv_aload_n hx hb d_F_writeWithPower_17 rfl (lv_at hl 1 rfl) ?_
  refine nf_get (v := .ref (a 8)) K hw 0 6 6 nw_174 rfl rfl ni_F (by decide) rfl rfl d_F_writeWithPower_18 ?_
  refine nf_getN (v := .long (mg_L M2 8 0)) K hw 8 0 0 nv_146 rfl rfl ni_D (by decide) rfl rfl d_F_writeWithPower_21 ?_
  refine lv_iload_n hx hb d_F_writeWithPower_24 rfl (lv_at hl 0 rfl) ?_
  refine nf_callW (ex := (fun _ _ => False)) (As := [.long (mg_L M2 8 0), .int t3]) (st0 := [.int t3, .long (mg_L M2 8 0), .ref (a (nf_ro true))]) (rest := [.ref (a (nf_ro true))]) K hw (nf_invS hx hb K.2.2.2.1 (nf_Kg K nw_820) (nf_Kg K nw_811) (nf_Kg K nw_1) (nf_Kg K nw_812) ⟨by decide, by decide⟩ rfl nl_F_digitAt rfl d_F_writeWithPower_25) (c_F_digitAt l hfl (mg_L M2 8 0) t3) nw_812 nw_1 rfl ⟨by decide, by decide⟩ (Nat.le_of_ble_eq_true rfl) hl.1 ⟨Nat.le_of_ble_eq_true rfl, Nat.le_of_ble_eq_true rfl⟩ h (fun _ _ h => h.elim) (fun r4 M5 H locs h hw => ?_)
  refine W.eq (g2 := F0 m 28 ls [.int r4, .ref (a (nf_ro true))]) rfl ?_
  refine nf_callW (ex := (fun _ _ => False)) (As := [.ref (a (nf_ro true)), .int r4]) (st0 := [.int r4, .ref (a (nf_ro true))]) (rest := []) K hw (nf_invVN hx hb K.2.2.2.1 ((nf_Kr K nv_197).use rfl) (nf_Kg K nw_199) (nf_Kg K nx_R_add) (nf_Kg K nw_200) ⟨by decide, by decide⟩ (nf_rcv K hw (nf_ro true) 3 (nf_heR _ _ _) rfl) rfl nl_R_add rfl d_F_writeWithPower_28) (c_R_add l hfl true r4) nw_200 nw_3 rfl ⟨by decide, by decide⟩ (Nat.le_of_ble_eq_true rfl) hl.1 ⟨Nat.le_of_ble_eq_true rfl, Nat.le_of_ble_eq_true rfl⟩ h (fun _ _ h => h.elim) (fun r6 M7 H locs h hw => ?_)
  refine W.eq (g2 := F0 m 31 ls []) rfl ?_
  refine lv_aload_n hx hb d_F_writeWithPower_31 rfl (lv_at hl 1 rfl) ?_
  refine nf_get (v := .ref (a (nf_ro true))) K hw 0 6 3 nw_171 rfl rfl ni_F (by decide) rfl rfl d_F_writeWithPower_32 ?_
  refine lv_bipush (v := (46 : Int32)) hx hb d_F_writeWithPower_35 (by decide) ?_
  refine nf_callW (ex := (fun _ _ => False)) (As := [.ref (a (nf_ro true)), .int (46 : Int32)]) (st0 := [.int (46 : Int32), .ref (a (nf_ro true))]) (rest := []) K hw (nf_invVN hx hb K.2.2.2.1 ((nf_Kr K nv_197).use rfl) (nf_Kg K nw_199) (nf_Kg K nx_R_add) (nf_Kg K nw_200) ⟨by decide, by decide⟩ (nf_rcv K hw (nf_ro true) 3 (nf_heR _ _ _) rfl) rfl nl_R_add rfl d_F_writeWithPower_37) (c_R_add l hfl true (46 : Int32)) nw_200 nw_3 rfl ⟨by decide, by decide⟩ (Nat.le_of_ble_eq_true rfl) hl.1 ⟨Nat.le_of_ble_eq_true rfl, Nat.le_of_ble_eq_true rfl⟩ h (fun _ _ h => h.elim) (fun r8 M9 H locs h hw => ?_)
  refine W.eq (g2 := F0 m 40 ls []) rfl ?_
  refine lv_iload_n hx hb d_F_writeWithPower_40 rfl (lv_at hl 0 rfl) ?_
  refine nf_if_ne hx hb d_F_writeWithPower_41 (tgt := 53) (by decide) (fun hc => ?_) (fun hc => ?_)
  · have h := h.1 hc
    refine lv_aload_n hx hb d_F_writeWithPower_44 rfl (lv_at hl 1 rfl) ?_
    refine nf_get (v := .ref (a (nf_ro true))) K hw 0 6 3 nw_171 rfl rfl ni_F (by decide) rfl rfl d_F_writeWithPower_45 ?_
    refine lv_bipush (v := (48 : Int32)) hx hb d_F_writeWithPower_48 (by decide) ?_
    refine nf_callW (ex := (fun _ _ => False)) (As := [.ref (a (nf_ro true)), .int (48 : Int32)]) (st0 := [.int (48 : Int32), .ref (a (nf_ro true))]) (rest := []) K hw (nf_invVN hx hb K.2.2.2.1 ((nf_Kr K nv_197).use rfl) (nf_Kg K nw_199) (nf_Kg K nx_R_add) (nf_Kg K nw_200) ⟨by decide, by decide⟩ (nf_rcv K hw (nf_ro true) 3 (nf_heR _ _ _) rfl) rfl nl_R_add rfl d_F_writeWithPower_50) (c_R_add l hfl true (48 : Int32)) nw_200 nw_3 rfl ⟨by decide, by decide⟩ (Nat.le_of_ble_eq_true rfl) hl.1 ⟨Nat.le_of_ble_eq_true rfl, Nat.le_of_ble_eq_true rfl⟩ h (fun _ _ h => h.elim) (fun r10 M11 H locs h hw => ?_)
    refine W.eq (g2 := F0 m 53 ls []) rfl ?_
    exact w_F_writeWithPower_53 hfl K t3 M11 _ _ _ h (lv_sub hl [1, 0] rfl) hw
  · have h := h.2 hc
    exact w_F_writeWithPower_53 hfl K t3 M9 _ _ _ h (lv_sub hl [1, 0] rfl) hw
end NW3
