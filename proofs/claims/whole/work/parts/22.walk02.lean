/-! walks (printed by wip/whole/gen/drive.py) -/
section NW2
variable {p : Program} {l : Launch} {e : Env} {s : State} {m : MethodId} {args : Array Value} {below : List Frame} {meth : Method} {c : Code} {D : va_G} {a : Nat → Nat} {sz : Nat} {ex : Nat → nf_M → Prop}
theorem d_W_roundOff_0 : decode nb_W_roundOff 0 = .ok (.aload_n 0, 1) := by decide +kernel
theorem d_W_roundOff_1 : decode nb_W_roundOff 1 = .ok (.getfield 17, 3) := by decide +kernel
theorem d_W_roundOff_4 : decode nb_W_roundOff 4 = .ok (.iload_n 1, 1) := by decide +kernel
theorem d_W_roundOff_5 : decode nb_W_roundOff 5 = .ok (.invokestatic 42, 3) := by decide +kernel
theorem d_W_roundOff_8 : decode nb_W_roundOff 8 = .ok (.invokestatic 34, 3) := by decide +kernel
theorem d_W_roundOff_11 : decode nb_W_roundOff 11 = .ok (.lstore_n 2, 1) := by decide +kernel
theorem d_W_roundOff_12 : decode nb_W_roundOff 12 = .ok (.iconst 0, 1) := by decide +kernel
theorem d_W_roundOff_13 : decode nb_W_roundOff 13 = .ok (.istore 4, 2) := by decide +kernel
theorem d_W_roundOff_15 : decode nb_W_roundOff 15 = .ok (.iload 4, 2) := by decide +kernel
theorem d_W_roundOff_17 : decode nb_W_roundOff 17 = .ok (.iload_n 1, 1) := by decide +kernel
theorem d_W_roundOff_18 : decode nb_W_roundOff 18 = .ok (.if_icmp .ge 13, 3) := by decide +kernel
theorem d_W_roundOff_21 : decode nb_W_roundOff 21 = .ok (.aload_n 0, 1) := by decide +kernel
theorem d_W_roundOff_22 : decode nb_W_roundOff 22 = .ok (.invokevirtual 46, 3) := by decide +kernel
theorem d_W_roundOff_25 : decode nb_W_roundOff 25 = .ok (.iinc 4 1, 3) := by decide +kernel
theorem d_W_roundOff_28 : decode nb_W_roundOff 28 = .ok (.goto (-13), 3) := by decide +kernel
theorem d_W_roundOff_31 : decode nb_W_roundOff 31 = .ok (.aload_n 0, 1) := by decide +kernel
theorem d_W_roundOff_32 : decode nb_W_roundOff 32 = .ok (.getfield 17, 3) := by decide +kernel
theorem d_W_roundOff_35 : decode nb_W_roundOff 35 = .ok (.lload_n 2, 1) := by decide +kernel
theorem d_W_roundOff_36 : decode nb_W_roundOff 36 = .ok (.iload_n 1, 1) := by decide +kernel
theorem d_W_roundOff_37 : decode nb_W_roundOff 37 = .ok (.invokestatic 42, 3) := by decide +kernel
theorem d_W_roundOff_40 : decode nb_W_roundOff 40 = .ok (.invokestatic 49, 3) := by decide +kernel
theorem d_W_roundOff_43 : decode nb_W_roundOff 43 = .ok (.ifCond .eq 7, 3) := by decide +kernel
theorem d_W_roundOff_46 : decode nb_W_roundOff 46 = .ok (.aload_n 0, 1) := by decide +kernel
theorem d_W_roundOff_47 : decode nb_W_roundOff 47 = .ok (.invokevirtual 53, 3) := by decide +kernel
theorem d_W_roundOff_50 : decode nb_W_roundOff 50 = .ok (.return_, 1) := by decide +kernel
abbrev rm_W_roundOff : Room := ({ frames := 1, cells := 0, slots := 0, locals := 25 })
theorem w_W_roundOff_50 {post : Unit → nf_M → Prop} (hfl : l.flags = flags0) (K : nf_K p s m args meth c "NumberForge$Wide" nb_W_roundOff 5 none D a sz) : ∀ (M : nf_M) (H : Heap) (locs : List Loc) (ls : Array Slot), B_W_roundOff_50 post  M → lv_has ls 5 [] → nf_W D a s sz H locs M → W p l e rm_W_roundOff s m args below meth c H locs 0 0 (nf_MQ below (nf_Q nf_jN D a post ex (nf_A a sz)) args s rm_W_roundOff.cells rm_W_roundOff.slots (nf_A a sz)) (F0 m 50 ls []) := by
  have hx := K.1
  have hb := K.2.1
  intro  M H locs ls h hl hw
  exact nf_vret K hw d_W_roundOff_50 (Nat.le_of_ble_eq_true rfl) (Nat.le_of_ble_eq_true rfl) (r := ()) rfl h
theorem w_W_roundOff_15 {post : Unit → nf_M → Prop} (hfl : l.flags = flags0) (K : nf_K p s m args meth c "NumberForge$Wide" nb_W_roundOff 5 none D a sz) : ∀ (n : Nat) (x1 : Int32) (x2 : Int64) (x4 : Int32) (M : nf_M) (H : Heap) (locs : List Loc) (ls : Array Slot), B_W_roundOff_15 post n x1 x2 x4 M → lv_has ls 5 [(0, .ref (a 9)), (1, .int x1), (2, .long x2), (4, .int x4)] → nf_W D a s sz H locs M → W p l e rm_W_roundOff s m args below meth c H locs 0 0 (nf_MQ below (nf_Q nf_jN D a post ex (nf_A a sz)) args s rm_W_roundOff.cells rm_W_roundOff.slots (nf_A a sz)) (F0 m 15 ls []) := by
  have hx := K.1
  have hb := K.2.1
  intro n
  induction n with
  | zero => intro x1 x2 x4 M H locs ls h hl hw; exact h.elim
  | succ n ih =>
    intro x1 x2 x4 M H locs ls h hl hw
    refine lv_iload hx hb d_W_roundOff_15 (lv_at hl 3 rfl) ?_
    refine lv_iload_n hx hb d_W_roundOff_17 rfl (lv_at hl 1 rfl) ?_
    refine nf_ic_ge hx hb d_W_roundOff_18 (tgt := 31) (by decide) (fun hc => ?_) (fun hc => ?_)
    · have h := h.1 hc
      refine lv_aload_n hx hb d_W_roundOff_21 rfl (lv_at hl 0 rfl) ?_
      refine nf_callW (ex := (fun _ _ => False)) (As := [.ref (a 9)]) (st0 := [.ref (a 9)]) (rest := []) K hw (nf_invV hx hb K.2.2.2.1 (nf_Kg K nw_570) (nf_Kg K nw_572) (nf_Kg K nx_W_dropDigit) (nf_Kg K nw_573) ⟨by decide, by decide⟩ (nf_rcv K hw 9 5 rfl rfl) rfl nl_W_dropDigit rfl d_W_roundOff_22) (c_W_dropDigit l hfl ) nw_573 nw_8 rfl ⟨by decide, by decide⟩ (Nat.le_of_ble_eq_true rfl) hl.1 ⟨Nat.le_of_ble_eq_true rfl, Nat.le_of_ble_eq_true rfl⟩ h (fun _ _ h => h.elim) (fun r1 M2 H locs h hw => ?_)
      refine W.eq (g2 := F0 m 25 ls []) rfl ?_
      refine lv_iinc (k := 3) (v := x4 + (1 : Int32)) (lv' := [(4, .int (x4 + (1 : Int32))), (0, .ref (a 9)), (1, .int x1), (2, .long x2)]) hx hb d_W_roundOff_25 hl rfl (nf_inc (by decide)) (by decide) rfl (fun ls hl => ?_)
      refine lv_goto hx hb d_W_roundOff_28 (tgt := 15) (by decide) ?_
      exact ih x1 x2 (x4 + (1 : Int32)) M2 _ _ _ h (lv_sub hl [1, 2, 3, 0] rfl) hw
    · have h := h.2 hc
      refine lv_aload_n hx hb d_W_roundOff_31 rfl (lv_at hl 0 rfl) ?_
      refine nf_get (v := .long (mg_L M 9 1)) K hw 9 5 1 nw_161 rfl rfl ni_W (by decide) rfl rfl d_W_roundOff_32 ?_
      refine lv_lload_n hx hb d_W_roundOff_35 rfl (lv_at hl 2 rfl) ?_
      refine lv_iload_n hx hb d_W_roundOff_36 rfl (lv_at hl 1 rfl) ?_
      refine nf_callW (ex := (fun _ _ => False)) (As := [.int x1]) (st0 := [.int x1, .long x2, .long (mg_L M 9 1)]) (rest := [.long x2, .long (mg_L M 9 1)]) K hw (nf_invSN hx hb K.2.2.2.1 ((nf_Kr K nv_579).use rfl) (nf_Kg K nw_352) (nf_Kg K nw_1) (nf_Kg K nw_353) ⟨by decide, by decide⟩ rfl nl_F_power rfl d_W_roundOff_37) (c_F_power l hfl x1) nw_353 nw_1 rfl ⟨by decide, by decide⟩ (Nat.le_of_ble_eq_true rfl) hl.1 ⟨Nat.le_of_ble_eq_true rfl, Nat.le_of_ble_eq_true rfl⟩ h (fun _ _ h => h.elim) (fun r3 M4 H locs h hw => ?_)
      refine W.eq (g2 := F0 m 40 ls [.long r3, .long x2, .long (mg_L M 9 1)]) rfl ?_
      refine nf_callW (ex := (fun _ _ => False)) (As := [.long (mg_L M 9 1), .long x2, .long r3]) (st0 := [.long r3, .long x2, .long (mg_L M 9 1)]) (rest := []) K hw (nf_invSN hx hb K.2.2.2.1 ((nf_Kr K nv_583).use rfl) (nf_Kg K nw_584) (nf_Kg K nw_1) (nf_Kg K nw_585) ⟨by decide, by decide⟩ rfl nl_F_isRoundedUp rfl d_W_roundOff_40) (c_F_isRoundedUp l hfl (mg_L M 9 1) x2 r3) nw_585 nw_1 rfl ⟨by decide, by decide⟩ (Nat.le_of_ble_eq_true rfl) hl.1 ⟨Nat.le_of_ble_eq_true rfl, Nat.le_of_ble_eq_true rfl⟩ h (fun _ _ h => h.elim) (fun r5 M6 H locs h hw => ?_)
      refine W.eq (g2 := F0 m 43 ls [.int r5]) rfl ?_
      refine nf_if_eq hx hb d_W_roundOff_43 (tgt := 50) (by decide) (fun hc => ?_) (fun hc => ?_)
      · have h := h.1 hc
        exact w_W_roundOff_50 hfl K  M6 _ _ _ h (lv_sub hl [] rfl) hw
      · have h := h.2 hc
        refine lv_aload_n hx hb d_W_roundOff_46 rfl (lv_at hl 0 rfl) ?_
        refine nf_callW (ex := (fun _ _ => False)) (As := [.ref (a 9)]) (st0 := [.ref (a 9)]) (rest := []) K hw (nf_invV hx hb K.2.2.2.1 (nf_Kg K nw_587) (nf_Kg K nw_589) (nf_Kg K nx_W_increase) (nf_Kg K nw_590) ⟨by decide, by decide⟩ (nf_rcv K hw 9 5 rfl rfl) rfl nl_W_increase rfl d_W_roundOff_47) (c_W_increase l hfl ) nw_590 nw_8 rfl ⟨by decide, by decide⟩ (Nat.le_of_ble_eq_true rfl) hl.1 ⟨Nat.le_of_ble_eq_true rfl, Nat.le_of_ble_eq_true rfl⟩ h (fun _ _ h => h.elim) (fun r7 M8 H locs h hw => ?_)
        refine W.eq (g2 := F0 m 50 ls []) rfl ?_
        exact w_W_roundOff_50 hfl K  M8 _ _ _ h (lv_sub hl [] rfl) hw
theorem c_W_roundOff (l : Launch) (hfl : l.flags = flags0) (x1 : Int32) : nf_C nf_jN l nm_W_roundOff nb_W_roundOff 5 none rm_W_roundOff (fun a => [.ref (a 9), .int x1]) (fun M post ex => P_W_roundOff x1 M post) := by
  refine nf_start (plainFor_of_name (by decide +kernel)) (fun a => Nat.le_of_ble_eq_true rfl) ?_
  intro D a sz M post ex p e s m below meth c ls h K hl hw
  have hx := K.1
  have hb := K.2.1
  have hl : lv_has ls 5 [(0, .ref (a 9)), (1, .int x1)] := hl
  refine lv_aload_n hx hb d_W_roundOff_0 rfl (lv_at hl 0 rfl) ?_
  refine nf_get (v := .long (mg_L M 9 1)) K hw 9 5 1 nw_161 rfl rfl ni_W (by decide) rfl rfl d_W_roundOff_1 ?_
  refine lv_iload_n hx hb d_W_roundOff_4 rfl (lv_at hl 1 rfl) ?_
  refine nf_callW (ex := (fun _ _ => False)) (As := [.int x1]) (st0 := [.int x1, .long (mg_L M 9 1)]) (rest := [.long (mg_L M 9 1)]) K hw (nf_invSN hx hb K.2.2.2.1 ((nf_Kr K nv_579).use rfl) (nf_Kg K nw_352) (nf_Kg K nw_1) (nf_Kg K nw_353) ⟨by decide, by decide⟩ rfl nl_F_power rfl d_W_roundOff_5) (c_F_power l hfl x1) nw_353 nw_1 rfl ⟨by decide, by decide⟩ (Nat.le_of_ble_eq_true rfl) hl.1 ⟨Nat.le_of_ble_eq_true rfl, Nat.le_of_ble_eq_true rfl⟩ h (fun _ _ h => h.elim) (fun r1 M2 H locs h hw => ?_)
  refine W.eq (g2 := F0 m 8 ls [.long r1, .long (mg_L M 9 1)]) rfl ?_
  refine nf_callW (ex := (fun _ _ => False)) (As := [.long (mg_L M 9 1), .long r1]) (st0 := [.long r1, .long (mg_L M 9 1)]) (rest := []) K hw (nf_invSN hx hb K.2.2.2.1 ((nf_Kr K nv_580).use rfl) (nf_Kg K nw_581) (nf_Kg K nw_1) (nf_Kg K nw_582) ⟨by decide, by decide⟩ rfl nl_F_left rfl d_W_roundOff_8) (c_F_left l hfl (mg_L M 9 1) r1) nw_582 nw_1 rfl ⟨by decide, by decide⟩ (Nat.le_of_ble_eq_true rfl) hl.1 ⟨Nat.le_of_ble_eq_true rfl, Nat.le_of_ble_eq_true rfl⟩ h (fun _ _ h => h.elim) (fun r3 M4 H locs h hw => ?_)
  refine W.eq (g2 := F0 m 11 ls [.long r3]) rfl ?_
  refine lv_lstore_n (lv' := [(2, .long r3), (0, .ref (a 9)), (1, .int x1)]) hx hb d_W_roundOff_11 rfl hl (by decide) rfl (fun ls hl => ?_)
  refine lv_iconst (v := (0 : Int32)) hx hb d_W_roundOff_12 (by decide) ?_
  refine lv_istore (lv' := [(4, .int (0 : Int32)), (2, .long r3), (0, .ref (a 9)), (1, .int x1)]) hx hb d_W_roundOff_13 hl (by decide) rfl (fun ls hl => ?_)
  obtain ⟨n, h⟩ := h
  exact w_W_roundOff_15 hfl K n x1 r3 (0 : Int32) M4 _ _ _ h (lv_sub hl [2, 3, 1, 0] rfl) hw
theorem d_W_settle_0 : decode nb_W_settle 0 = .ok (.aload_n 0, 1) := by decide +kernel
theorem d_W_settle_1 : decode nb_W_settle 1 = .ok (.iload 4, 2) := by decide +kernel
theorem d_W_settle_3 : decode nb_W_settle 3 = .ok (.invokevirtual 56, 3) := by decide +kernel
theorem d_W_settle_6 : decode nb_W_settle 6 = .ok (.istore 5, 2) := by decide +kernel
theorem d_W_settle_8 : decode nb_W_settle 8 = .ok (.iload 5, 2) := by decide +kernel
theorem d_W_settle_10 : decode nb_W_settle 10 = .ok (.bipush 6, 2) := by decide +kernel
theorem d_W_settle_12 : decode nb_W_settle 12 = .ok (.if_icmp .le 20, 3) := by decide +kernel
theorem d_W_settle_15 : decode nb_W_settle 15 = .ok (.aload_n 0, 1) := by decide +kernel
theorem d_W_settle_16 : decode nb_W_settle 16 = .ok (.iload 5, 2) := by decide +kernel
theorem d_W_settle_18 : decode nb_W_settle 18 = .ok (.bipush 6, 2) := by decide +kernel
theorem d_W_settle_20 : decode nb_W_settle 20 = .ok (.isub, 1) := by decide +kernel
theorem d_W_settle_21 : decode nb_W_settle 21 = .ok (.invokevirtual 60, 3) := by decide +kernel
theorem d_W_settle_24 : decode nb_W_settle 24 = .ok (.aload_n 0, 1) := by decide +kernel
theorem d_W_settle_25 : decode nb_W_settle 25 = .ok (.bipush 6, 2) := by decide +kernel
theorem d_W_settle_27 : decode nb_W_settle 27 = .ok (.invokevirtual 56, 3) := by decide +kernel
theorem d_W_settle_30 : decode nb_W_settle 30 = .ok (.istore 5, 2) := by decide +kernel
theorem d_W_settle_32 : decode nb_W_settle 32 = .ok (.aload_n 0, 1) := by decide +kernel
theorem d_W_settle_33 : decode nb_W_settle 33 = .ok (.getfield 11, 3) := by decide +kernel
theorem d_W_settle_36 : decode nb_W_settle 36 = .ok (.lconst 0, 1) := by decide +kernel
theorem d_W_settle_37 : decode nb_W_settle 37 = .ok (.lcmp, 1) := by decide +kernel
theorem d_W_settle_38 : decode nb_W_settle 38 = .ok (.ifCond .eq 13, 3) := by decide +kernel
theorem d_W_settle_41 : decode nb_W_settle 41 = .ok (.new 64, 3) := by decide +kernel
theorem d_W_settle_44 : decode nb_W_settle 44 = .ok (.dup, 1) := by decide +kernel
theorem d_W_settle_45 : decode nb_W_settle 45 = .ok (.ldc 66, 2) := by decide +kernel
theorem d_W_settle_47 : decode nb_W_settle 47 = .ok (.invokespecial 68, 3) := by decide +kernel
theorem d_W_settle_50 : decode nb_W_settle 50 = .ok (.athrow, 1) := by decide +kernel
theorem d_W_settle_51 : decode nb_W_settle 51 = .ok (.aload_n 1, 1) := by decide +kernel
theorem d_W_settle_52 : decode nb_W_settle 52 = .ok (.iload_n 2, 1) := by decide +kernel
theorem d_W_settle_53 : decode nb_W_settle 53 = .ok (.iload_n 3, 1) := by decide +kernel
theorem d_W_settle_54 : decode nb_W_settle 54 = .ok (.ifCond .eq 11, 3) := by decide +kernel
theorem d_W_settle_57 : decode nb_W_settle 57 = .ok (.aload_n 0, 1) := by decide +kernel
theorem d_W_settle_58 : decode nb_W_settle 58 = .ok (.getfield 17, 3) := by decide +kernel
theorem d_W_settle_61 : decode nb_W_settle 61 = .ok (.lneg, 1) := by decide +kernel
theorem d_W_settle_62 : decode nb_W_settle 62 = .ok (.goto 7, 3) := by decide +kernel
theorem d_W_settle_65 : decode nb_W_settle 65 = .ok (.aload_n 0, 1) := by decide +kernel
theorem d_W_settle_66 : decode nb_W_settle 66 = .ok (.getfield 17, 3) := by decide +kernel
theorem d_W_settle_69 : decode nb_W_settle 69 = .ok (.iload 5, 2) := by decide +kernel
theorem d_W_settle_71 : decode nb_W_settle 71 = .ok (.invokevirtual 71, 3) := by decide +kernel
theorem d_W_settle_74 : decode nb_W_settle 74 = .ok (.return_, 1) := by decide +kernel
abbrev rm_W_settle : Room := ({ frames := 6, cells := 1, slots := 6, locals := 100 })
theorem w_W_settle_69 {post : Unit → nf_M → Prop} (hfl : l.flags = flags0) (K : nf_K p s m args meth c "NumberForge$Wide" nb_W_settle 6 none D a sz) : ∀ (x5 : Int32) (xy0 : Int64) (xy1 : Int32) (vy2 : Fin 9) (M : nf_M) (H : Heap) (locs : List Loc) (ls : Array Slot), B_W_settle_69 post ex x5 xy0 xy1 vy2 M → lv_has ls 6 [(5, .int x5)] → nf_W D a s sz H locs M → W p l e rm_W_settle s m args below meth c H locs 0 0 (nf_MQ below (nf_Q nf_jN D a post ex (nf_A a sz)) args s rm_W_settle.cells rm_W_settle.slots (nf_A a sz)) (F0 m 69 ls [.long xy0, .int xy1, .ref (a (10 + (vy2 : Fin 9).val))]) := by
  have hx := K.1
  have hb := K.2.1
  intro x5 xy0 xy1 vy2 M H locs ls h hl hw
  refine lv_iload hx hb d_W_settle_69 (lv_at hl 0 rfl) ?_
  refine nf_callW (ex := (fun _ _ => False)) (As := [.ref (a (10 + (vy2 : Fin 9).val)), .int xy1, .long xy0, .int x5]) (st0 := [.int x5, .long xy0, .int xy1, .ref (a (10 + (vy2 : Fin 9).val))]) (rest := []) K hw (nf_invVN hx hb K.2.2.2.1 ((nf_Kr K nv_594).use rfl) (nf_Kg K nw_419) (nf_Kg K nx_V_becomeUnits) (nf_Kg K nw_420) ⟨by decide, by decide⟩ (nf_rcv K hw (10 + (vy2 : Fin 9).val) 4 (nf_heV _ _ _) rfl) rfl nl_V_becomeUnits rfl d_W_settle_71) (c_V_becomeUnits l hfl vy2 xy1 xy0 x5) nw_420 nw_2 rfl ⟨by decide, by decide⟩ (Nat.le_of_ble_eq_true rfl) hl.1 ⟨Nat.le_of_ble_eq_true rfl, Nat.le_of_ble_eq_true rfl⟩ h (fun _ _ h => h.elim) (fun r1 M2 H locs h hw => ?_)
  refine W.eq (g2 := F0 m 74 ls []) rfl ?_
  exact nf_vret K hw d_W_settle_74 (Nat.le_of_ble_eq_true rfl) (Nat.le_of_ble_eq_true rfl) (r := ()) rfl h
theorem w_W_settle_32 {post : Unit → nf_M → Prop} (hfl : l.flags = flags0) (K : nf_K p s m args meth c "NumberForge$Wide" nb_W_settle 6 none D a sz) : ∀ (v1 : Fin 9) (x2 : Int32) (x3 : Int32) (x5 : Int32) (M : nf_M) (H : Heap) (locs : List Loc) (ls : Array Slot), B_W_settle_32 post ex v1 x2 x3 x5 M → lv_has ls 6 [(0, .ref (a 9)), (1, .ref (a (10 + (v1 : Fin 9).val))), (2, .int x2), (3, .int x3), (5, .int x5)] → nf_W D a s sz H locs M → W p l e rm_W_settle s m args below meth c H locs 0 0 (nf_MQ below (nf_Q nf_jN D a post ex (nf_A a sz)) args s rm_W_settle.cells rm_W_settle.slots (nf_A a sz)) (F0 m 32 ls []) := by
  have hx := K.1
  have hb := K.2.1
  intro v1 x2 x3 x5 M H locs ls h hl hw
  refine lv_aload_n hx hb d_W_settle_32 rfl (lv_at hl 0 rfl) ?_
  refine nf_get (v := .long (mg_L M 9 0)) K hw 9 5 0 nw_160 rfl rfl ni_W (by decide) rfl rfl d_W_settle_33 ?_
  refine lv_lconst (v := (0 : Int64)) hx hb d_W_settle_36 (by decide) ?_
  refine nf_lc_eq hx hb d_W_settle_37 d_W_settle_38 (tgt := 51) (by decide) (fun hc => ?_) (fun hc => ?_)
  · have h := h.1 hc
    refine lv_aload_n hx hb d_W_settle_51 rfl (lv_at hl 1 rfl) ?_
    refine lv_iload_n hx hb d_W_settle_52 rfl (lv_at hl 2 rfl) ?_
    refine lv_iload_n hx hb d_W_settle_53 rfl (lv_at hl 3 rfl) ?_
    refine nf_if_eq hx hb d_W_settle_54 (tgt := 65) (by decide) (fun hc => ?_) (fun hc => ?_)
    · have h := h.1 hc
      refine lv_aload_n hx hb d_W_settle_65 rfl (lv_at hl 0 rfl) ?_
      refine nf_get (v := .long (mg_L M 9 1)) K hw 9 5 1 nw_161 rfl rfl ni_W (by decide) rfl rfl d_W_settle_66 ?_
      exact w_W_settle_69 hfl K x5 (mg_L M 9 1) x2 v1 M _ _ _ h (lv_sub hl [4] rfl) hw
    · have h := h.2 hc
      refine lv_aload_n hx hb d_W_settle_57 rfl (lv_at hl 0 rfl) ?_
      refine nf_get (v := .long (mg_L M 9 1)) K hw 9 5 1 nw_161 rfl rfl ni_W (by decide) rfl rfl d_W_settle_58 ?_
      refine lv_lneg hx hb d_W_settle_61 ?_
      refine lv_goto hx hb d_W_settle_62 (tgt := 69) (by decide) ?_
      exact w_W_settle_69 hfl K x5 (-(mg_L M 9 1)) x2 v1 M _ _ _ h (lv_sub hl [4] rfl) hw
  · have h := h.2 hc
    exact nf_throw (i := 15) 4 hfl K hw rfl (by decide) na_W_68 nw_591 nw_382 nw_15 rfl d_W_settle_41 d_W_settle_44 d_W_settle_45 d_W_settle_47 d_W_settle_50 hl.1 ⟨by decide, by decide⟩ ⟨Nat.le_of_ble_eq_true rfl, Nat.le_of_ble_eq_true rfl⟩ h
theorem c_W_settle (l : Launch) (hfl : l.flags = flags0) (v1 : Fin 9) (x2 : Int32) (x3 : Int32) (x4 : Int32) : nf_C nf_jN l nm_W_settle nb_W_settle 6 none rm_W_settle (fun a => [.ref (a 9), .ref (a (10 + (v1 : Fin 9).val)), .int x2, .int x3, .int x4]) (fun M post ex => P_W_settle v1 x2 x3 x4 M post ex) := by
  refine nf_start (plainFor_of_name (by decide +kernel)) (fun a => Nat.le_of_ble_eq_true rfl) ?_
  intro D a sz M post ex p e s m below meth c ls h K hl hw
  have hx := K.1
  have hb := K.2.1
  have hl : lv_has ls 6 [(0, .ref (a 9)), (1, .ref (a (10 + (v1 : Fin 9).val))), (2, .int x2), (3, .int x3), (4, .int x4)] := hl
  refine lv_aload_n hx hb d_W_settle_0 rfl (lv_at hl 0 rfl) ?_
  refine lv_iload hx hb d_W_settle_1 (lv_at hl 4 rfl) ?_
  refine nf_callW (ex := (fun _ _ => False)) (As := [.ref (a 9), .int x4]) (st0 := [.int x4, .ref (a 9)]) (rest := []) K hw (nf_invV hx hb K.2.2.2.1 (nf_Kg K nw_565) (nf_Kg K nw_567) (nf_Kg K nx_W_dropZeros) (nf_Kg K nw_568) ⟨by decide, by decide⟩ (nf_rcv K hw 9 5 rfl rfl) rfl nl_W_dropZeros rfl d_W_settle_3) (c_W_dropZeros l hfl x4) nw_568 nw_8 rfl ⟨by decide, by decide⟩ (Nat.le_of_ble_eq_true rfl) hl.1 ⟨Nat.le_of_ble_eq_true rfl, Nat.le_of_ble_eq_true rfl⟩ h (fun _ _ h => h.elim) (fun r1 M2 H locs h hw => ?_)
  refine W.eq (g2 := F0 m 6 ls [.int r1]) rfl ?_
  refine lv_istore (lv' := [(5, .int r1), (0, .ref (a 9)), (1, .ref (a (10 + (v1 : Fin 9).val))), (2, .int x2), (3, .int x3), (4, .int x4)]) hx hb d_W_settle_6 hl (by decide) rfl (fun ls hl => ?_)
  refine lv_iload hx hb d_W_settle_8 (lv_at hl 0 rfl) ?_
  refine lv_bipush (v := (6 : Int32)) hx hb d_W_settle_10 (by decide) ?_
  refine nf_ic_le hx hb d_W_settle_12 (tgt := 32) (by decide) (fun hc => ?_) (fun hc => ?_)
  · have h := h.1 hc
    refine lv_aload_n hx hb d_W_settle_15 rfl (lv_at hl 1 rfl) ?_
    refine lv_iload hx hb d_W_settle_16 (lv_at hl 0 rfl) ?_
    refine lv_bipush (v := (6 : Int32)) hx hb d_W_settle_18 (by decide) ?_
    refine lv_isub hx hb d_W_settle_20 ?_
    refine nf_callW (ex := (fun _ _ => False)) (As := [.ref (a 9), .int (r1 - (6 : Int32))]) (st0 := [.int (r1 - (6 : Int32)), .ref (a 9)]) (rest := []) K hw (nf_invV hx hb K.2.2.2.1 (nf_Kg K nw_575) (nf_Kg K nw_577) (nf_Kg K nx_W_roundOff) (nf_Kg K nw_578) ⟨by decide, by decide⟩ (nf_rcv K hw 9 5 rfl rfl) rfl nl_W_roundOff rfl d_W_settle_21) (c_W_roundOff l hfl (r1 - (6 : Int32))) nw_578 nw_8 rfl ⟨by decide, by decide⟩ (Nat.le_of_ble_eq_true rfl) hl.1 ⟨Nat.le_of_ble_eq_true rfl, Nat.le_of_ble_eq_true rfl⟩ h (fun _ _ h => h.elim) (fun r3 M4 H locs h hw => ?_)
    refine W.eq (g2 := F0 m 24 ls []) rfl ?_
    refine lv_aload_n hx hb d_W_settle_24 rfl (lv_at hl 1 rfl) ?_
    refine lv_bipush (v := (6 : Int32)) hx hb d_W_settle_25 (by decide) ?_
    refine nf_callW (ex := (fun _ _ => False)) (As := [.ref (a 9), .int (6 : Int32)]) (st0 := [.int (6 : Int32), .ref (a 9)]) (rest := []) K hw (nf_invV hx hb K.2.2.2.1 (nf_Kg K nw_565) (nf_Kg K nw_567) (nf_Kg K nx_W_dropZeros) (nf_Kg K nw_568) ⟨by decide, by decide⟩ (nf_rcv K hw 9 5 rfl rfl) rfl nl_W_dropZeros rfl d_W_settle_27) (c_W_dropZeros l hfl (6 : Int32)) nw_568 nw_8 rfl ⟨by decide, by decide⟩ (Nat.le_of_ble_eq_true rfl) hl.1 ⟨Nat.le_of_ble_eq_true rfl, Nat.le_of_ble_eq_true rfl⟩ h (fun _ _ h => h.elim) (fun r5 M6 H locs h hw => ?_)
    refine W.eq (g2 := F0 m 30 ls [.int r5]) rfl ?_
    refine lv_istore (lv' := [(5, .int r5), (0, .ref (a 9)), (1, .ref (a (10 + (v1 : Fin 9).val))), (2, .int x2), (3, .int x3), (4, .int x4)]) hx hb d_W_settle_30 hl (by decide) rfl (fun ls hl => ?_)
    exact w_W_settle_32 hfl K v1 x2 x3 r5 M6 _ _ _ h (lv_sub hl [1, 2, 3, 4, 0] rfl) hw
  · have h := h.2 hc
    exact w_W_settle_32 hfl K v1 x2 x3 r1 M2 _ _ _ h (lv_sub hl [1, 2, 3, 4, 0] rfl) hw
theorem d_F_exactSum_0 : decode nb_F_exactSum 0 = .ok (.aload_n 1, 1) := by decide +kernel
theorem d_F_exactSum_1 : decode nb_F_exactSum 1 = .ok (.getfield 176, 3) := by decide +kernel
theorem d_F_exactSum_4 : decode nb_F_exactSum 4 = .ok (.aload_n 2, 1) := by decide +kernel
theorem d_F_exactSum_5 : decode nb_F_exactSum 5 = .ok (.getfield 176, 3) := by decide +kernel
theorem d_F_exactSum_8 : decode nb_F_exactSum 8 = .ok (.invokestatic 368, 3) := by decide +kernel
theorem d_F_exactSum_11 : decode nb_F_exactSum 11 = .ok (.istore 6, 2) := by decide +kernel
theorem d_F_exactSum_13 : decode nb_F_exactSum 13 = .ok (.aload_n 1, 1) := by decide +kernel
theorem d_F_exactSum_14 : decode nb_F_exactSum 14 = .ok (.getfield 110, 3) := by decide +kernel
theorem d_F_exactSum_17 : decode nb_F_exactSum 17 = .ok (.aload_n 1, 1) := by decide +kernel
theorem d_F_exactSum_18 : decode nb_F_exactSum 18 = .ok (.getfield 176, 3) := by decide +kernel
theorem d_F_exactSum_21 : decode nb_F_exactSum 21 = .ok (.iload 6, 2) := by decide +kernel
theorem d_F_exactSum_23 : decode nb_F_exactSum 23 = .ok (.invokestatic 372, 3) := by decide +kernel
theorem d_F_exactSum_26 : decode nb_F_exactSum 26 = .ok (.lload_n 3, 1) := by decide +kernel
theorem d_F_exactSum_27 : decode nb_F_exactSum 27 = .ok (.aload_n 2, 1) := by decide +kernel
theorem d_F_exactSum_28 : decode nb_F_exactSum 28 = .ok (.getfield 176, 3) := by decide +kernel
theorem d_F_exactSum_31 : decode nb_F_exactSum 31 = .ok (.iload 6, 2) := by decide +kernel
theorem d_F_exactSum_33 : decode nb_F_exactSum 33 = .ok (.invokestatic 372, 3) := by decide +kernel
theorem d_F_exactSum_36 : decode nb_F_exactSum 36 = .ok (.ladd, 1) := by decide +kernel
theorem d_F_exactSum_37 : decode nb_F_exactSum 37 = .ok (.lstore 7, 2) := by decide +kernel
theorem d_F_exactSum_39 : decode nb_F_exactSum 39 = .ok (.aload_n 0, 1) := by decide +kernel
theorem d_F_exactSum_40 : decode nb_F_exactSum 40 = .ok (.getfield 56, 3) := by decide +kernel
theorem d_F_exactSum_43 : decode nb_F_exactSum 43 = .ok (.lload 7, 2) := by decide +kernel
theorem d_F_exactSum_45 : decode nb_F_exactSum 45 = .ok (.invokestatic 193, 3) := by decide +kernel
theorem d_F_exactSum_48 : decode nb_F_exactSum 48 = .ok (.invokevirtual 201, 3) := by decide +kernel
theorem d_F_exactSum_51 : decode nb_F_exactSum 51 = .ok (.aload_n 0, 1) := by decide +kernel
theorem d_F_exactSum_52 : decode nb_F_exactSum 52 = .ok (.getfield 56, 3) := by decide +kernel
theorem d_F_exactSum_55 : decode nb_F_exactSum 55 = .ok (.aload_n 0, 1) := by decide +kernel
theorem d_F_exactSum_56 : decode nb_F_exactSum 56 = .ok (.getfield 16, 3) := by decide +kernel
theorem d_F_exactSum_59 : decode nb_F_exactSum 59 = .ok (.iload 5, 2) := by decide +kernel
theorem d_F_exactSum_61 : decode nb_F_exactSum 61 = .ok (.lload 7, 2) := by decide +kernel
theorem d_F_exactSum_63 : decode nb_F_exactSum 63 = .ok (.lconst 0, 1) := by decide +kernel
theorem d_F_exactSum_64 : decode nb_F_exactSum 64 = .ok (.lcmp, 1) := by decide +kernel
theorem d_F_exactSum_65 : decode nb_F_exactSum 65 = .ok (.ifCond .ge 7, 3) := by decide +kernel
theorem d_F_exactSum_68 : decode nb_F_exactSum 68 = .ok (.iconst 1, 1) := by decide +kernel
theorem d_F_exactSum_69 : decode nb_F_exactSum 69 = .ok (.goto 4, 3) := by decide +kernel
theorem d_F_exactSum_72 : decode nb_F_exactSum 72 = .ok (.iconst 0, 1) := by decide +kernel
theorem d_F_exactSum_73 : decode nb_F_exactSum 73 = .ok (.iload 6, 2) := by decide +kernel
theorem d_F_exactSum_75 : decode nb_F_exactSum 75 = .ok (.invokevirtual 204, 3) := by decide +kernel
theorem d_F_exactSum_78 : decode nb_F_exactSum 78 = .ok (.return_, 1) := by decide +kernel
abbrev rm_F_exactSum : Room := ({ frames := 7, cells := 3, slots := 18, locals := 125 })
theorem w_F_exactSum_73 {post : Unit → nf_M → Prop} (hfl : l.flags = flags0) (K : nf_K p s m args meth c "NumberForge" nb_F_exactSum 9 none D a sz) : ∀ (x6 : Int32) (xy0 : Int32) (xy1 : Int32) (vy2 : Fin 9) (M : nf_M) (H : Heap) (locs : List Loc) (ls : Array Slot), B_F_exactSum_73 post ex x6 xy0 xy1 vy2 M → lv_has ls 9 [(6, .int x6)] → nf_W D a s sz H locs M → W p l e rm_F_exactSum s m args below meth c H locs 2 12 (nf_MQ below (nf_Q nf_jN D a post ex (nf_A a sz)) args s rm_F_exactSum.cells rm_F_exactSum.slots (nf_A a sz)) (F0 m 73 ls [.int xy0, .int xy1, .ref (a (10 + (vy2 : Fin 9).val)), .ref (a 9)]) := by
  have hx := K.1
  have hb := K.2.1
  intro x6 xy0 xy1 vy2 M H locs ls h hl hw
  refine lv_iload hx hb d_F_exactSum_73 (lv_at hl 0 rfl) ?_
  refine nf_callW (ex := ex) (As := [.ref (a 9), .ref (a (10 + (vy2 : Fin 9).val)), .int xy1, .int xy0, .int x6]) (st0 := [.int x6, .int xy0, .int xy1, .ref (a (10 + (vy2 : Fin 9).val)), .ref (a 9)]) (rest := []) K hw (nf_invVN hx hb K.2.2.2.1 ((nf_Kr K nv_561).use rfl) (nf_Kg K nw_563) (nf_Kg K nx_W_settle) (nf_Kg K nw_564) ⟨by decide, by decide⟩ (nf_rcv K hw 9 5 rfl rfl) rfl nl_W_settle rfl d_F_exactSum_75) (c_W_settle l hfl vy2 xy1 xy0 x6) nw_564 nw_8 rfl ⟨by decide, by decide⟩ (Nat.le_of_ble_eq_true rfl) hl.1 ⟨Nat.le_of_ble_eq_true rfl, Nat.le_of_ble_eq_true rfl⟩ h (fun _ _ h => h) (fun r1 M2 H locs h hw => ?_)
  refine W.eq (g2 := F0 m 78 ls []) rfl ?_
  refine W.widen (k := 3) (n := 18) (by decide) (by decide) ?_
  exact nf_vret K hw d_F_exactSum_78 (Nat.le_of_ble_eq_true rfl) (Nat.le_of_ble_eq_true rfl) (r := ()) rfl h
theorem c_F_exactSum (l : Launch) (hfl : l.flags = flags0) (v1 : Fin 9) (v2 : Fin 9) (x3 : Int64) (x5 : Int32) : nf_C nf_jN l nm_F_exactSum nb_F_exactSum 9 none rm_F_exactSum (fun a => [.ref (a 0), .ref (a (10 + (v1 : Fin 9).val)), .ref (a (10 + (v2 : Fin 9).val)), .long x3, .int x5]) (fun M post ex => P_F_exactSum v1 v2 x3 x5 M post ex) := by
  refine nf_start (plainFor_of_name (by decide +kernel)) (fun a => Nat.le_of_ble_eq_true rfl) ?_
  intro D a sz M post ex p e s m below meth c ls h K hl hw
  have hx := K.1
  have hb := K.2.1
  have hl : lv_has ls 9 [(0, .ref (a 0)), (1, .ref (a (10 + (v1 : Fin 9).val))), (2, .ref (a (10 + (v2 : Fin 9).val))), (3, .long x3), (5, .int x5)] := hl
  refine lv_aload_n hx hb d_F_exactSum_0 rfl (lv_at hl 1 rfl) ?_
  refine nf_getN (v := .int (mg_S M v1)) K hw (10 + (v1 : Fin 9).val) 4 2 nv_45 (nf_heV _ _ _) rfl ni_V (by decide) rfl rfl d_F_exactSum_1 ?_
  refine lv_aload_n hx hb d_F_exactSum_4 rfl (lv_at hl 2 rfl) ?_
  refine nf_getN (v := .int (mg_S M v2)) K hw (10 + (v2 : Fin 9).val) 4 2 nv_45 (nf_heV _ _ _) rfl ni_V (by decide) rfl rfl d_F_exactSum_5 ?_
  refine nf_callW (ex := (fun _ _ => False)) (As := [.int (mg_S M v1), .int (mg_S M v2)]) (st0 := [.int (mg_S M v2), .int (mg_S M v1)]) (rest := []) K hw (nf_invS hx hb K.2.2.2.1 (nf_Kg K nw_544) (nf_Kg K nw_64) (nf_Kg K nw_4) (nf_Kg K nw_65) ⟨by decide, by decide⟩ rfl nl_JM_max rfl d_F_exactSum_8) (c_JM_max l hfl (mg_S M v1) (mg_S M v2)) nw_65 nw_4 rfl ⟨by decide, by decide⟩ (Nat.le_of_ble_eq_true rfl) hl.1 ⟨Nat.le_of_ble_eq_true rfl, Nat.le_of_ble_eq_true rfl⟩ h (fun _ _ h => h.elim) (fun r1 M2 H locs h hw => ?_)
  refine W.eq (g2 := F0 m 11 ls [.int r1]) rfl ?_
  refine lv_istore (lv' := [(6, .int r1), (0, .ref (a 0)), (1, .ref (a (10 + (v1 : Fin 9).val))), (2, .ref (a (10 + (v2 : Fin 9).val))), (3, .long x3), (5, .int x5)]) hx hb d_F_exactSum_11 hl (by decide) rfl (fun ls hl => ?_)
  refine lv_aload_n hx hb d_F_exactSum_13 rfl (lv_at hl 2 rfl) ?_
  refine nf_getN (v := .long (mg_U M2 v1)) K hw (10 + (v1 : Fin 9).val) 4 1 nv_41 (nf_heV _ _ _) rfl ni_V (by decide) rfl rfl d_F_exactSum_14 ?_
  refine lv_aload_n hx hb d_F_exactSum_17 rfl (lv_at hl 2 rfl) ?_
  refine nf_getN (v := .int (mg_S M2 v1)) K hw (10 + (v1 : Fin 9).val) 4 2 nv_45 (nf_heV _ _ _) rfl ni_V (by decide) rfl rfl d_F_exactSum_18 ?_
  refine lv_iload hx hb d_F_exactSum_21 (lv_at hl 0 rfl) ?_
  refine nf_callW (ex := ex) (As := [.long (mg_U M2 v1), .int (mg_S M2 v1), .int r1]) (st0 := [.int r1, .int (mg_S M2 v1), .long (mg_U M2 v1)]) (rest := []) K hw (nf_invS hx hb K.2.2.2.1 (nf_Kg K nw_545) (nf_Kg K nw_546) (nf_Kg K nw_1) (nf_Kg K nw_547) ⟨by decide, by decide⟩ rfl nl_F_atScale rfl d_F_exactSum_23) (c_F_atScale l hfl (mg_U M2 v1) (mg_S M2 v1) r1) nw_547 nw_1 rfl ⟨by decide, by decide⟩ (Nat.le_of_ble_eq_true rfl) hl.1 ⟨Nat.le_of_ble_eq_true rfl, Nat.le_of_ble_eq_true rfl⟩ h (fun _ _ h => h) (fun r3 M4 H locs h hw => ?_)
  refine W.eq (g2 := F0 m 26 ls [.long r3]) rfl ?_
  refine W.widen (k := 1) (n := 6) (by decide) (by decide) ?_
  refine lv_lload_n hx hb d_F_exactSum_26 rfl (lv_at hl 4 rfl) ?_
  refine lv_aload_n hx hb d_F_exactSum_27 rfl (lv_at hl 3 rfl) ?_
  refine nf_getN (v := .int (mg_S M4 v2)) K hw (10 + (v2 : Fin 9).val) 4 2 nv_45 (nf_heV _ _ _) rfl ni_V (by decide) rfl rfl d_F_exactSum_28 ?_
  refine lv_iload hx hb d_F_exactSum_31 (lv_at hl 0 rfl) ?_
  refine nf_callW (ex := ex) (As := [.long x3, .int (mg_S M4 v2), .int r1]) (st0 := [.int r1, .int (mg_S M4 v2), .long x3, .long r3]) (rest := [.long r3]) K hw (nf_invS hx hb K.2.2.2.1 (nf_Kg K nw_545) (nf_Kg K nw_546) (nf_Kg K nw_1) (nf_Kg K nw_547) ⟨by decide, by decide⟩ rfl nl_F_atScale rfl d_F_exactSum_33) (c_F_atScale l hfl x3 (mg_S M4 v2) r1) nw_547 nw_1 rfl ⟨by decide, by decide⟩ (Nat.le_of_ble_eq_true rfl) hl.1 ⟨Nat.le_of_ble_eq_true rfl, Nat.le_of_ble_eq_true rfl⟩ h (fun _ _ h => h) (fun r5 M6 H locs h hw => ?_)
  refine W.eq (g2 := F0 m 36 ls [.long r5, .long r3]) rfl ?_
  refine W.widen (k := 2) (n := 12) (by decide) (by decide) ?_
  refine lv_ladd hx hb d_F_exactSum_36 ?_
  refine lv_topl (fun t7 et7 => ?_)
  have h := h t7 et7
  refine lv_lstore (lv' := [(7, .long t7), (6, .int r1), (0, .ref (a 0)), (1, .ref (a (10 + (v1 : Fin 9).val))), (2, .ref (a (10 + (v2 : Fin 9).val))), (3, .long x3), (5, .int x5)]) hx hb d_F_exactSum_37 hl (by decide) rfl (fun ls hl => ?_)
  refine lv_aload_n hx hb d_F_exactSum_39 rfl (lv_at hl 2 rfl) ?_
  refine nf_get (v := .ref (a 9)) K hw 0 6 7 nw_175 rfl rfl ni_F (by decide) rfl rfl d_F_exactSum_40 ?_
  refine lv_lload hx hb d_F_exactSum_43 (lv_at hl 0 rfl) ?_
  refine nf_callW (ex := (fun _ _ => False)) (As := [.long t7]) (st0 := [.long t7, .ref (a 9)]) (rest := [.ref (a 9)]) K hw (nf_invS hx hb K.2.2.2.1 (nf_Kg K nw_549) (nf_Kg K nw_550) (nf_Kg K nw_4) (nf_Kg K nw_551) ⟨by decide, by decide⟩ rfl nl_JM_abs_JJ rfl d_F_exactSum_45) (c_JM_abs_JJ l hfl t7) nw_551 nw_4 rfl ⟨by decide, by decide⟩ (Nat.le_of_ble_eq_true rfl) hl.1 ⟨Nat.le_of_ble_eq_true rfl, Nat.le_of_ble_eq_true rfl⟩ h (fun _ _ h => h.elim) (fun r8 M9 H locs h hw => ?_)
  refine W.eq (g2 := F0 m 48 ls [.long r8, .ref (a 9)]) rfl ?_
  refine nf_callW (ex := (fun _ _ => False)) (As := [.ref (a 9), .long r8]) (st0 := [.long r8, .ref (a 9)]) (rest := []) K hw (nf_invVN hx hb K.2.2.2.1 ((nf_Kr K nv_556).use rfl) (nf_Kg K nw_558) (nf_Kg K nx_W_become) (nf_Kg K nw_559) ⟨by decide, by decide⟩ (nf_rcv K hw 9 5 rfl rfl) rfl nl_W_become rfl d_F_exactSum_48) (c_W_become l hfl r8) nw_559 nw_8 rfl ⟨by decide, by decide⟩ (Nat.le_of_ble_eq_true rfl) hl.1 ⟨Nat.le_of_ble_eq_true rfl, Nat.le_of_ble_eq_true rfl⟩ h (fun _ _ h => h.elim) (fun r10 M11 H locs h hw => ?_)
  refine W.eq (g2 := F0 m 51 ls []) rfl ?_
  refine lv_aload_n hx hb d_F_exactSum_51 rfl (lv_at hl 2 rfl) ?_
  refine nf_get (v := .ref (a 9)) K hw 0 6 7 nw_175 rfl rfl ni_F (by decide) rfl rfl d_F_exactSum_52 ?_
  refine lv_aload_n hx hb d_F_exactSum_55 rfl (lv_at hl 2 rfl) ?_
  refine nf_get (v := .ref (a (10 + ((0 : Fin 9) : Fin 9).val))) K hw 0 6 1 nw_169 rfl rfl ni_F (by decide) rfl rfl d_F_exactSum_56 ?_
  refine lv_iload hx hb d_F_exactSum_59 (lv_at hl 6 rfl) ?_
  refine lv_lload hx hb d_F_exactSum_61 (lv_at hl 0 rfl) ?_
  refine lv_lconst (v := (0 : Int64)) hx hb d_F_exactSum_63 (by decide) ?_
  refine nf_lc_ge hx hb d_F_exactSum_64 d_F_exactSum_65 (tgt := 72) (by decide) (fun hc => ?_) (fun hc => ?_)
  · have h := h.1 hc
    refine lv_iconst (v := (1 : Int32)) hx hb d_F_exactSum_68 (by decide) ?_
    refine lv_goto hx hb d_F_exactSum_69 (tgt := 73) (by decide) ?_
    exact w_F_exactSum_73 hfl K r1 (1 : Int32) x5 (0 : Fin 9) M11 _ _ _ h (lv_sub hl [1] rfl) hw
  · have h := h.2 hc
    refine lv_iconst (v := (0 : Int32)) hx hb d_F_exactSum_72 (by decide) ?_
    exact w_F_exactSum_73 hfl K r1 (0 : Int32) x5 (0 : Fin 9) M11 _ _ _ h (lv_sub hl [1] rfl) hw
theorem d_W_becomeProduct_0 : decode nb_W_becomeProduct 0 = .ok (.ldc2_w 20, 3) := by decide +kernel
theorem d_W_becomeProduct_3 : decode nb_W_becomeProduct 3 = .ok (.lstore 5, 2) := by decide +kernel
theorem d_W_becomeProduct_5 : decode nb_W_becomeProduct 5 = .ok (.lload_n 1, 1) := by decide +kernel
theorem d_W_becomeProduct_6 : decode nb_W_becomeProduct 6 = .ok (.lload 5, 2) := by decide +kernel
theorem d_W_becomeProduct_8 : decode nb_W_becomeProduct 8 = .ok (.ldiv, 1) := by decide +kernel
theorem d_W_becomeProduct_9 : decode nb_W_becomeProduct 9 = .ok (.lload_n 3, 1) := by decide +kernel
theorem d_W_becomeProduct_10 : decode nb_W_becomeProduct 10 = .ok (.lload 5, 2) := by decide +kernel
theorem d_W_becomeProduct_12 : decode nb_W_becomeProduct 12 = .ok (.lrem, 1) := by decide +kernel
theorem d_W_becomeProduct_13 : decode nb_W_becomeProduct 13 = .ok (.lmul, 1) := by decide +kernel
theorem d_W_becomeProduct_14 : decode nb_W_becomeProduct 14 = .ok (.lload_n 1, 1) := by decide +kernel
theorem d_W_becomeProduct_15 : decode nb_W_becomeProduct 15 = .ok (.lload 5, 2) := by decide +kernel
theorem d_W_becomeProduct_17 : decode nb_W_becomeProduct 17 = .ok (.lrem, 1) := by decide +kernel
theorem d_W_becomeProduct_18 : decode nb_W_becomeProduct 18 = .ok (.lload_n 3, 1) := by decide +kernel
theorem d_W_becomeProduct_19 : decode nb_W_becomeProduct 19 = .ok (.lload 5, 2) := by decide +kernel
theorem d_W_becomeProduct_21 : decode nb_W_becomeProduct 21 = .ok (.ldiv, 1) := by decide +kernel
theorem d_W_becomeProduct_22 : decode nb_W_becomeProduct 22 = .ok (.lmul, 1) := by decide +kernel
theorem d_W_becomeProduct_23 : decode nb_W_becomeProduct 23 = .ok (.ladd, 1) := by decide +kernel
theorem d_W_becomeProduct_24 : decode nb_W_becomeProduct 24 = .ok (.lstore 7, 2) := by decide +kernel
theorem d_W_becomeProduct_26 : decode nb_W_becomeProduct 26 = .ok (.lload_n 1, 1) := by decide +kernel
theorem d_W_becomeProduct_27 : decode nb_W_becomeProduct 27 = .ok (.lload 5, 2) := by decide +kernel
theorem d_W_becomeProduct_29 : decode nb_W_becomeProduct 29 = .ok (.lrem, 1) := by decide +kernel
theorem d_W_becomeProduct_30 : decode nb_W_becomeProduct 30 = .ok (.lload_n 3, 1) := by decide +kernel
theorem d_W_becomeProduct_31 : decode nb_W_becomeProduct 31 = .ok (.lload 5, 2) := by decide +kernel
theorem d_W_becomeProduct_33 : decode nb_W_becomeProduct 33 = .ok (.lrem, 1) := by decide +kernel
theorem d_W_becomeProduct_34 : decode nb_W_becomeProduct 34 = .ok (.lmul, 1) := by decide +kernel
theorem d_W_becomeProduct_35 : decode nb_W_becomeProduct 35 = .ok (.lstore 9, 2) := by decide +kernel
theorem d_W_becomeProduct_37 : decode nb_W_becomeProduct 37 = .ok (.lload 7, 2) := by decide +kernel
theorem d_W_becomeProduct_39 : decode nb_W_becomeProduct 39 = .ok (.ldc2_w 22, 3) := by decide +kernel
theorem d_W_becomeProduct_42 : decode nb_W_becomeProduct 42 = .ok (.lrem, 1) := by decide +kernel
theorem d_W_becomeProduct_43 : decode nb_W_becomeProduct 43 = .ok (.lload 5, 2) := by decide +kernel
theorem d_W_becomeProduct_45 : decode nb_W_becomeProduct 45 = .ok (.lmul, 1) := by decide +kernel
theorem d_W_becomeProduct_46 : decode nb_W_becomeProduct 46 = .ok (.lload 9, 2) := by decide +kernel
theorem d_W_becomeProduct_48 : decode nb_W_becomeProduct 48 = .ok (.ldc2_w 9, 3) := by decide +kernel
theorem d_W_becomeProduct_51 : decode nb_W_becomeProduct 51 = .ok (.lrem, 1) := by decide +kernel
theorem d_W_becomeProduct_52 : decode nb_W_becomeProduct 52 = .ok (.ladd, 1) := by decide +kernel
theorem d_W_becomeProduct_53 : decode nb_W_becomeProduct 53 = .ok (.lstore 11, 2) := by decide +kernel
theorem d_W_becomeProduct_55 : decode nb_W_becomeProduct 55 = .ok (.aload_n 0, 1) := by decide +kernel
theorem d_W_becomeProduct_56 : decode nb_W_becomeProduct 56 = .ok (.lload_n 1, 1) := by decide +kernel
theorem d_W_becomeProduct_57 : decode nb_W_becomeProduct 57 = .ok (.lload 5, 2) := by decide +kernel
theorem d_W_becomeProduct_59 : decode nb_W_becomeProduct 59 = .ok (.ldiv, 1) := by decide +kernel
theorem d_W_becomeProduct_60 : decode nb_W_becomeProduct 60 = .ok (.lload_n 3, 1) := by decide +kernel
theorem d_W_becomeProduct_61 : decode nb_W_becomeProduct 61 = .ok (.lload 5, 2) := by decide +kernel
theorem d_W_becomeProduct_63 : decode nb_W_becomeProduct 63 = .ok (.ldiv, 1) := by decide +kernel
theorem d_W_becomeProduct_64 : decode nb_W_becomeProduct 64 = .ok (.lmul, 1) := by decide +kernel
theorem d_W_becomeProduct_65 : decode nb_W_becomeProduct 65 = .ok (.ldc2_w 24, 3) := by decide +kernel
theorem d_W_becomeProduct_68 : decode nb_W_becomeProduct 68 = .ok (.lmul, 1) := by decide +kernel
theorem d_W_becomeProduct_69 : decode nb_W_becomeProduct 69 = .ok (.lload 7, 2) := by decide +kernel
theorem d_W_becomeProduct_71 : decode nb_W_becomeProduct 71 = .ok (.ldc2_w 22, 3) := by decide +kernel
theorem d_W_becomeProduct_74 : decode nb_W_becomeProduct 74 = .ok (.ldiv, 1) := by decide +kernel
theorem d_W_becomeProduct_75 : decode nb_W_becomeProduct 75 = .ok (.ladd, 1) := by decide +kernel
theorem d_W_becomeProduct_76 : decode nb_W_becomeProduct 76 = .ok (.lload 9, 2) := by decide +kernel
theorem d_W_becomeProduct_78 : decode nb_W_becomeProduct 78 = .ok (.ldc2_w 9, 3) := by decide +kernel
theorem d_W_becomeProduct_81 : decode nb_W_becomeProduct 81 = .ok (.ldiv, 1) := by decide +kernel
theorem d_W_becomeProduct_82 : decode nb_W_becomeProduct 82 = .ok (.ladd, 1) := by decide +kernel
theorem d_W_becomeProduct_83 : decode nb_W_becomeProduct 83 = .ok (.lload 11, 2) := by decide +kernel
theorem d_W_becomeProduct_85 : decode nb_W_becomeProduct 85 = .ok (.ldc2_w 9, 3) := by decide +kernel
theorem d_W_becomeProduct_88 : decode nb_W_becomeProduct 88 = .ok (.ldiv, 1) := by decide +kernel
theorem d_W_becomeProduct_89 : decode nb_W_becomeProduct 89 = .ok (.ladd, 1) := by decide +kernel
theorem d_W_becomeProduct_90 : decode nb_W_becomeProduct 90 = .ok (.putfield 11, 3) := by decide +kernel
theorem d_W_becomeProduct_93 : decode nb_W_becomeProduct 93 = .ok (.aload_n 0, 1) := by decide +kernel
theorem d_W_becomeProduct_94 : decode nb_W_becomeProduct 94 = .ok (.lload 11, 2) := by decide +kernel
theorem d_W_becomeProduct_96 : decode nb_W_becomeProduct 96 = .ok (.ldc2_w 9, 3) := by decide +kernel
theorem d_W_becomeProduct_99 : decode nb_W_becomeProduct 99 = .ok (.lrem, 1) := by decide +kernel
theorem d_W_becomeProduct_100 : decode nb_W_becomeProduct 100 = .ok (.putfield 17, 3) := by decide +kernel
theorem d_W_becomeProduct_103 : decode nb_W_becomeProduct 103 = .ok (.return_, 1) := by decide +kernel
abbrev rm_W_becomeProduct : Room := ({ frames := 0, cells := 0, slots := 0, locals := 0 })
theorem c_W_becomeProduct (l : Launch) (hfl : l.flags = flags0) (x1 : Int64) (x3 : Int64) : nf_C nf_jN l nm_W_becomeProduct nb_W_becomeProduct 13 none rm_W_becomeProduct (fun a => [.ref (a 9), .long x1, .long x3]) (fun M post ex => P_W_becomeProduct x1 x3 M post) := by
  refine nf_start (plainFor_of_name (by decide +kernel)) (fun a => Nat.le_of_ble_eq_true rfl) ?_
  intro D a sz M post ex p e s m below meth c ls h K hl hw
  have hx := K.1
  have hb := K.2.1
  have hl : lv_has ls 13 [(0, .ref (a 9)), (1, .long x1), (3, .long x3)] := hl
  refine lv_ldc2 (v := (100000000 : Int64)) hx hb K.2.2.2.1 (nf_Kg K nw_599) d_W_becomeProduct_0 ?_
  refine lv_lstore (lv' := [(5, .long (100000000 : Int64)), (0, .ref (a 9)), (1, .long x1), (3, .long x3)]) hx hb d_W_becomeProduct_3 hl (by decide) rfl (fun ls hl => ?_)
  refine lv_lload_n hx hb d_W_becomeProduct_5 rfl (lv_at hl 2 rfl) ?_
  refine lv_lload hx hb d_W_becomeProduct_6 (lv_at hl 0 rfl) ?_
  refine lv_ldiv hx hb d_W_becomeProduct_8 (by decide) ?_
  refine lv_lload_n hx hb d_W_becomeProduct_9 rfl (lv_at hl 3 rfl) ?_
  refine lv_lload hx hb d_W_becomeProduct_10 (lv_at hl 0 rfl) ?_
  refine lv_lrem hx hb d_W_becomeProduct_12 (by decide) ?_
  refine lv_lmul hx hb d_W_becomeProduct_13 ?_
  refine lv_lload_n hx hb d_W_becomeProduct_14 rfl (lv_at hl 2 rfl) ?_
  refine lv_lload hx hb d_W_becomeProduct_15 (lv_at hl 0 rfl) ?_
  refine lv_lrem hx hb d_W_becomeProduct_17 (by decide) ?_
  refine lv_lload_n hx hb d_W_becomeProduct_18 rfl (lv_at hl 3 rfl) ?_
  refine lv_lload hx hb d_W_becomeProduct_19 (lv_at hl 0 rfl) ?_
  refine lv_ldiv hx hb d_W_becomeProduct_21 (by decide) ?_
  refine lv_lmul hx hb d_W_becomeProduct_22 ?_
  refine lv_ladd hx hb d_W_becomeProduct_23 ?_
  refine lv_topl (fun t1 et1 => ?_)
  have h := h t1 et1
  refine lv_lstore (lv' := [(7, .long t1), (5, .long (100000000 : Int64)), (0, .ref (a 9)), (1, .long x1), (3, .long x3)]) hx hb d_W_becomeProduct_24 hl (by decide) rfl (fun ls hl => ?_)
  refine lv_lload_n hx hb d_W_becomeProduct_26 rfl (lv_at hl 3 rfl) ?_
  refine lv_lload hx hb d_W_becomeProduct_27 (lv_at hl 1 rfl) ?_
  refine lv_lrem hx hb d_W_becomeProduct_29 (by decide) ?_
  refine lv_lload_n hx hb d_W_becomeProduct_30 rfl (lv_at hl 4 rfl) ?_
  refine lv_lload hx hb d_W_becomeProduct_31 (lv_at hl 1 rfl) ?_
  refine lv_lrem hx hb d_W_becomeProduct_33 (by decide) ?_
  refine lv_lmul hx hb d_W_becomeProduct_34 ?_
  refine lv_topl (fun t2 et2 => ?_)
  have h := h t2 et2
  refine lv_lstore (lv' := [(9, .long t2), (7, .long t1), (5, .long (100000000 : Int64)), (0, .ref (a 9)), (1, .long x1), (3, .long x3)]) hx hb d_W_becomeProduct_35 hl (by decide) rfl (fun ls hl => ?_)
  refine lv_lload hx hb d_W_becomeProduct_37 (lv_at hl 1 rfl) ?_
  refine lv_ldc2 (v := (10000000 : Int64)) hx hb K.2.2.2.1 (nf_Kg K nw_600) d_W_becomeProduct_39 ?_
  refine lv_lrem hx hb d_W_becomeProduct_42 (by decide) ?_
  refine lv_lload hx hb d_W_becomeProduct_43 (lv_at hl 2 rfl) ?_
  refine lv_lmul hx hb d_W_becomeProduct_45 ?_
  refine lv_lload hx hb d_W_becomeProduct_46 (lv_at hl 0 rfl) ?_
  refine lv_ldc2 (v := (1000000000000000 : Int64)) hx hb K.2.2.2.1 (nf_Kg K nw_560) d_W_becomeProduct_48 ?_
  refine lv_lrem hx hb d_W_becomeProduct_51 (by decide) ?_
  refine lv_ladd hx hb d_W_becomeProduct_52 ?_
  refine lv_topl (fun t3 et3 => ?_)
  have h := h t3 et3
  refine lv_lstore (lv' := [(11, .long t3), (9, .long t2), (7, .long t1), (5, .long (100000000 : Int64)), (0, .ref (a 9)), (1, .long x1), (3, .long x3)]) hx hb d_W_becomeProduct_53 hl (by decide) rfl (fun ls hl => ?_)
  refine lv_aload_n hx hb d_W_becomeProduct_55 rfl (lv_at hl 4 rfl) ?_
  refine lv_lload_n hx hb d_W_becomeProduct_56 rfl (lv_at hl 5 rfl) ?_
  refine lv_lload hx hb d_W_becomeProduct_57 (lv_at hl 3 rfl) ?_
  refine lv_ldiv hx hb d_W_becomeProduct_59 (by decide) ?_
  refine lv_lload_n hx hb d_W_becomeProduct_60 rfl (lv_at hl 6 rfl) ?_
  refine lv_lload hx hb d_W_becomeProduct_61 (lv_at hl 3 rfl) ?_
  refine lv_ldiv hx hb d_W_becomeProduct_63 (by decide) ?_
  refine lv_lmul hx hb d_W_becomeProduct_64 ?_
  refine lv_ldc2 (v := (10 : Int64)) hx hb K.2.2.2.1 (nf_Kg K nw_569) d_W_becomeProduct_65 ?_
  refine lv_lmul hx hb d_W_becomeProduct_68 ?_
  refine lv_lload hx hb d_W_becomeProduct_69 (lv_at hl 2 rfl) ?_
  refine lv_ldc2 (v := (10000000 : Int64)) hx hb K.2.2.2.1 (nf_Kg K nw_600) d_W_becomeProduct_71 ?_
  refine lv_ldiv hx hb d_W_becomeProduct_74 (by decide) ?_
  refine lv_ladd hx hb d_W_becomeProduct_75 ?_
  refine lv_lload hx hb d_W_becomeProduct_76 (lv_at hl 1 rfl) ?_
  refine lv_ldc2 (v := (1000000000000000 : Int64)) hx hb K.2.2.2.1 (nf_Kg K nw_560) d_W_becomeProduct_78 ?_
  refine lv_ldiv hx hb d_W_becomeProduct_81 (by decide) ?_
  refine lv_ladd hx hb d_W_becomeProduct_82 ?_
  refine lv_lload hx hb d_W_becomeProduct_83 (lv_at hl 0 rfl) ?_
  refine lv_ldc2 (v := (1000000000000000 : Int64)) hx hb K.2.2.2.1 (nf_Kg K nw_560) d_W_becomeProduct_85 ?_
  refine lv_ldiv hx hb d_W_becomeProduct_88 (by decide) ?_
  refine lv_ladd hx hb d_W_becomeProduct_89 ?_
  refine lv_topl (fun t4 et4 => ?_)
  have h := h t4 et4
  refine nf_put (M' := ms_L M 9 0 t4) K hw 9 5 0 nw_160 rfl rfl rfl ni_W ny_W nq_W nn_W (by decide) rfl rfl rfl rfl (Nat.le_of_ble_eq_true rfl) d_W_becomeProduct_90 (fun H locs hw => ?_)
  obtain ⟨M5, eM5⟩ : ∃ z, z = ms_L M 9 0 t4 := ⟨_, rfl⟩
  rw [← eM5] at hw
  have h := h M5 eM5
  refine lv_aload_n hx hb d_W_becomeProduct_93 rfl (lv_at hl 4 rfl) ?_
  refine lv_lload hx hb d_W_becomeProduct_94 (lv_at hl 0 rfl) ?_
  refine lv_ldc2 (v := (1000000000000000 : Int64)) hx hb K.2.2.2.1 (nf_Kg K nw_560) d_W_becomeProduct_96 ?_
  refine lv_lrem hx hb d_W_becomeProduct_99 (by decide) ?_
  refine lv_topl (fun t6 et6 => ?_)
  have h := h t6 et6
  refine nf_put (M' := ms_L M5 9 1 t6) K hw 9 5 1 nw_161 rfl rfl rfl ni_W ny_W nq_W nn_W (by decide) rfl rfl rfl rfl (Nat.le_of_ble_eq_true rfl) d_W_becomeProduct_100 (fun H locs hw => ?_)
  obtain ⟨M7, eM7⟩ : ∃ z, z = ms_L M5 9 1 t6 := ⟨_, rfl⟩
  rw [← eM7] at hw
  have h := h M7 eM7
  exact nf_vret K hw d_W_becomeProduct_103 (Nat.le_of_ble_eq_true rfl) (Nat.le_of_ble_eq_true rfl) (r := ()) rfl h
theorem d_F_haveOtherSigns_0 : decode nb_F_haveOtherSigns 0 = .ok (.aload_n 0, 1) := by decide +kernel
theorem d_F_haveOtherSigns_1 : decode nb_F_haveOtherSigns 1 = .ok (.getfield 110, 3) := by decide +kernel
theorem d_F_haveOtherSigns_4 : decode nb_F_haveOtherSigns 4 = .ok (.lconst 0, 1) := by decide +kernel
theorem d_F_haveOtherSigns_5 : decode nb_F_haveOtherSigns 5 = .ok (.lcmp, 1) := by decide +kernel
theorem d_F_haveOtherSigns_6 : decode nb_F_haveOtherSigns 6 = .ok (.ifCond .ge 7, 3) := by decide +kernel
theorem d_F_haveOtherSigns_9 : decode nb_F_haveOtherSigns 9 = .ok (.iconst 1, 1) := by decide +kernel
theorem d_F_haveOtherSigns_10 : decode nb_F_haveOtherSigns 10 = .ok (.goto 4, 3) := by decide +kernel
theorem d_F_haveOtherSigns_13 : decode nb_F_haveOtherSigns 13 = .ok (.iconst 0, 1) := by decide +kernel
theorem d_F_haveOtherSigns_14 : decode nb_F_haveOtherSigns 14 = .ok (.aload_n 1, 1) := by decide +kernel
theorem d_F_haveOtherSigns_15 : decode nb_F_haveOtherSigns 15 = .ok (.getfield 110, 3) := by decide +kernel
theorem d_F_haveOtherSigns_18 : decode nb_F_haveOtherSigns 18 = .ok (.lconst 0, 1) := by decide +kernel
theorem d_F_haveOtherSigns_19 : decode nb_F_haveOtherSigns 19 = .ok (.lcmp, 1) := by decide +kernel
theorem d_F_haveOtherSigns_20 : decode nb_F_haveOtherSigns 20 = .ok (.ifCond .ge 7, 3) := by decide +kernel
theorem d_F_haveOtherSigns_23 : decode nb_F_haveOtherSigns 23 = .ok (.iconst 1, 1) := by decide +kernel
theorem d_F_haveOtherSigns_24 : decode nb_F_haveOtherSigns 24 = .ok (.goto 4, 3) := by decide +kernel
theorem d_F_haveOtherSigns_27 : decode nb_F_haveOtherSigns 27 = .ok (.iconst 0, 1) := by decide +kernel
theorem d_F_haveOtherSigns_28 : decode nb_F_haveOtherSigns 28 = .ok (.if_icmp .eq 7, 3) := by decide +kernel
theorem d_F_haveOtherSigns_31 : decode nb_F_haveOtherSigns 31 = .ok (.iconst 1, 1) := by decide +kernel
theorem d_F_haveOtherSigns_32 : decode nb_F_haveOtherSigns 32 = .ok (.goto 4, 3) := by decide +kernel
theorem d_F_haveOtherSigns_35 : decode nb_F_haveOtherSigns 35 = .ok (.iconst 0, 1) := by decide +kernel
theorem d_F_haveOtherSigns_36 : decode nb_F_haveOtherSigns 36 = .ok (.ireturn, 1) := by decide +kernel
abbrev rm_F_haveOtherSigns : Room := ({ frames := 0, cells := 0, slots := 0, locals := 0 })
theorem w_F_haveOtherSigns_36 {post : Int32 → nf_M → Prop} (hfl : l.flags = flags0) (K : nf_K p s m args meth c "NumberForge" nb_F_haveOtherSigns 2 (some FieldType.boolean) D a sz) : ∀ (xy0 : Int32) (M : nf_M) (H : Heap) (locs : List Loc) (ls : Array Slot), B_F_haveOtherSigns_36 post xy0 M → lv_has ls 2 [] → nf_W D a s sz H locs M → W p l e rm_F_haveOtherSigns s m args below meth c H locs 0 0 (nf_MQ below (nf_Q nf_jI D a post ex (nf_A a sz)) args s rm_F_haveOtherSigns.cells rm_F_haveOtherSigns.slots (nf_A a sz)) (F0 m 36 ls [.int xy0]) := by
  have hx := K.1
  have hb := K.2.1
  intro xy0 M H locs ls h hl hw
  obtain ⟨g1, h⟩ := h
  exact nf_iret K hw d_F_haveOtherSigns_36 g1 (Nat.le_of_ble_eq_true rfl) (Nat.le_of_ble_eq_true rfl) (r := xy0) rfl h
theorem w_F_haveOtherSigns_28 {post : Int32 → nf_M → Prop} (hfl : l.flags = flags0) (K : nf_K p s m args meth c "NumberForge" nb_F_haveOtherSigns 2 (some FieldType.boolean) D a sz) : ∀ (xy0 : Int32) (xy1 : Int32) (M : nf_M) (H : Heap) (locs : List Loc) (ls : Array Slot), B_F_haveOtherSigns_28 post xy0 xy1 M → lv_has ls 2 [] → nf_W D a s sz H locs M → W p l e rm_F_haveOtherSigns s m args below meth c H locs 0 0 (nf_MQ below (nf_Q nf_jI D a post ex (nf_A a sz)) args s rm_F_haveOtherSigns.cells rm_F_haveOtherSigns.slots (nf_A a sz)) (F0 m 28 ls [.int xy0, .int xy1]) := by
  have hx := K.1
  have hb := K.2.1
  intro xy0 xy1 M H locs ls h hl hw
  refine nf_ic_eq hx hb d_F_haveOtherSigns_28 (tgt := 35) (by decide) (fun hc => ?_) (fun hc => ?_)
  · have h := h.1 hc
    refine lv_iconst (v := (0 : Int32)) hx hb d_F_haveOtherSigns_35 (by decide) ?_
    exact w_F_haveOtherSigns_36 hfl K (0 : Int32) M _ _ _ h (lv_sub hl [] rfl) hw
  · have h := h.2 hc
    refine lv_iconst (v := (1 : Int32)) hx hb d_F_haveOtherSigns_31 (by decide) ?_
    refine lv_goto hx hb d_F_haveOtherSigns_32 (tgt := 36) (by decide) ?_
    exact w_F_haveOtherSigns_36 hfl K (1 : Int32) M _ _ _ h (lv_sub hl [] rfl) hw
theorem w_F_haveOtherSigns_14 {post : Int32 → nf_M → Prop} (hfl : l.flags = flags0) (K : nf_K p s m args meth c "NumberForge" nb_F_haveOtherSigns 2 (some FieldType.boolean) D a sz) : ∀ (v1 : Fin 9) (xy0 : Int32) (M : nf_M) (H : Heap) (locs : List Loc) (ls : Array Slot), B_F_haveOtherSigns_14 post v1 xy0 M → lv_has ls 2 [(1, .ref (a (10 + (v1 : Fin 9).val)))] → nf_W D a s sz H locs M → W p l e rm_F_haveOtherSigns s m args below meth c H locs 0 0 (nf_MQ below (nf_Q nf_jI D a post ex (nf_A a sz)) args s rm_F_haveOtherSigns.cells rm_F_haveOtherSigns.slots (nf_A a sz)) (F0 m 14 ls [.int xy0]) := by
  have hx := K.1
  have hb := K.2.1
  intro v1 xy0 M H locs ls h hl hw
  refine lv_aload_n hx hb d_F_haveOtherSigns_14 rfl (lv_at hl 0 rfl) ?_
  refine nf_getN (v := .long (mg_U M v1)) K hw (10 + (v1 : Fin 9).val) 4 1 nv_41 (nf_heV _ _ _) rfl ni_V (by decide) rfl rfl d_F_haveOtherSigns_15 ?_
  refine lv_lconst (v := (0 : Int64)) hx hb d_F_haveOtherSigns_18 (by decide) ?_
  refine nf_lc_ge hx hb d_F_haveOtherSigns_19 d_F_haveOtherSigns_20 (tgt := 27) (by decide) (fun hc => ?_) (fun hc => ?_)
  · have h := h.1 hc
    refine lv_iconst (v := (1 : Int32)) hx hb d_F_haveOtherSigns_23 (by decide) ?_
    refine lv_goto hx hb d_F_haveOtherSigns_24 (tgt := 28) (by decide) ?_
    exact w_F_haveOtherSigns_28 hfl K (1 : Int32) xy0 M _ _ _ h (lv_sub hl [] rfl) hw
  · have h := h.2 hc
    refine lv_iconst (v := (0 : Int32)) hx hb d_F_haveOtherSigns_27 (by decide) ?_
    exact w_F_haveOtherSigns_28 hfl K (0 : Int32) xy0 M _ _ _ h (lv_sub hl [] rfl) hw
theorem c_F_haveOtherSigns (l : Launch) (hfl : l.flags = flags0) (v0 : Fin 9) (v1 : Fin 9) : nf_C nf_jI l nm_F_haveOtherSigns nb_F_haveOtherSigns 2 (some FieldType.boolean) rm_F_haveOtherSigns (fun a => [.ref (a (10 + (v0 : Fin 9).val)), .ref (a (10 + (v1 : Fin 9).val))]) (fun M post ex => P_F_haveOtherSigns v0 v1 M post) := by
  refine nf_start (plainFor_of_name (by decide +kernel)) (fun a => Nat.le_of_ble_eq_true rfl) ?_
  intro D a sz M post ex p e s m below meth c ls h K hl hw
  have hx := K.1
  have hb := K.2.1
  have hl : lv_has ls 2 [(0, .ref (a (10 + (v0 : Fin 9).val))), (1, .ref (a (10 + (v1 : Fin 9).val)))] := hl
  refine lv_aload_n hx hb d_F_haveOtherSigns_0 rfl (lv_at hl 0 rfl) ?_
  refine nf_getN (v := .long (mg_U M v0)) K hw (10 + (v0 : Fin 9).val) 4 1 nv_41 (nf_heV _ _ _) rfl ni_V (by decide) rfl rfl d_F_haveOtherSigns_1 ?_
  refine lv_lconst (v := (0 : Int64)) hx hb d_F_haveOtherSigns_4 (by decide) ?_
  refine nf_lc_ge hx hb d_F_haveOtherSigns_5 d_F_haveOtherSigns_6 (tgt := 13) (by decide) (fun hc => ?_) (fun hc => ?_)
  · have h := h.1 hc
    refine lv_iconst (v := (1 : Int32)) hx hb d_F_haveOtherSigns_9 (by decide) ?_
    refine lv_goto hx hb d_F_haveOtherSigns_10 (tgt := 14) (by decide) ?_
    exact w_F_haveOtherSigns_14 hfl K v1 (1 : Int32) M _ _ _ h (lv_sub hl [1] rfl) hw
  · have h := h.2 hc
    refine lv_iconst (v := (0 : Int32)) hx hb d_F_haveOtherSigns_13 (by decide) ?_
    exact w_F_haveOtherSigns_14 hfl K v1 (0 : Int32) M _ _ _ h (lv_sub hl [1] rfl) hw
theorem d_W_addDigit_0 : decode nb_W_addDigit 0 = .ok (.aload_n 0, 1) := by decide +kernel
theorem d_W_addDigit_1 : decode nb_W_addDigit 1 = .ok (.aload_n 0, 1) := by decide +kernel
theorem d_W_addDigit_2 : decode nb_W_addDigit 2 = .ok (.getfield 11, 3) := by decide +kernel
theorem d_W_addDigit_5 : decode nb_W_addDigit 5 = .ok (.ldc2_w 24, 3) := by decide +kernel
theorem d_W_addDigit_8 : decode nb_W_addDigit 8 = .ok (.lmul, 1) := by decide +kernel
theorem d_W_addDigit_9 : decode nb_W_addDigit 9 = .ok (.aload_n 0, 1) := by decide +kernel
theorem d_W_addDigit_10 : decode nb_W_addDigit 10 = .ok (.getfield 17, 3) := by decide +kernel
theorem d_W_addDigit_13 : decode nb_W_addDigit 13 = .ok (.ldc2_w 40, 3) := by decide +kernel
theorem d_W_addDigit_16 : decode nb_W_addDigit 16 = .ok (.ldiv, 1) := by decide +kernel
theorem d_W_addDigit_17 : decode nb_W_addDigit 17 = .ok (.ladd, 1) := by decide +kernel
theorem d_W_addDigit_18 : decode nb_W_addDigit 18 = .ok (.putfield 11, 3) := by decide +kernel
theorem d_W_addDigit_21 : decode nb_W_addDigit 21 = .ok (.aload_n 0, 1) := by decide +kernel
theorem d_W_addDigit_22 : decode nb_W_addDigit 22 = .ok (.aload_n 0, 1) := by decide +kernel
theorem d_W_addDigit_23 : decode nb_W_addDigit 23 = .ok (.getfield 17, 3) := by decide +kernel
theorem d_W_addDigit_26 : decode nb_W_addDigit 26 = .ok (.ldc2_w 40, 3) := by decide +kernel
theorem d_W_addDigit_29 : decode nb_W_addDigit 29 = .ok (.lrem, 1) := by decide +kernel
theorem d_W_addDigit_30 : decode nb_W_addDigit 30 = .ok (.ldc2_w 24, 3) := by decide +kernel
theorem d_W_addDigit_33 : decode nb_W_addDigit 33 = .ok (.lmul, 1) := by decide +kernel
theorem d_W_addDigit_34 : decode nb_W_addDigit 34 = .ok (.lload_n 1, 1) := by decide +kernel
theorem d_W_addDigit_35 : decode nb_W_addDigit 35 = .ok (.ladd, 1) := by decide +kernel
theorem d_W_addDigit_36 : decode nb_W_addDigit 36 = .ok (.putfield 17, 3) := by decide +kernel
theorem d_W_addDigit_39 : decode nb_W_addDigit 39 = .ok (.return_, 1) := by decide +kernel
abbrev rm_W_addDigit : Room := ({ frames := 0, cells := 0, slots := 0, locals := 0 })
theorem c_W_addDigit (l : Launch) (hfl : l.flags = flags0) (x1 : Int64) : nf_C nf_jN l nm_W_addDigit nb_W_addDigit 3 none rm_W_addDigit (fun a => [.ref (a 9), .long x1]) (fun M post ex => P_W_addDigit x1 M post) := by
  refine nf_start (plainFor_of_name (by decide +kernel)) (fun a => Nat.le_of_ble_eq_true rfl) ?_
  intro D a sz M post ex p e s m below meth c ls h K hl hw
  have hx := K.1
  have hb := K.2.1
  have hl : lv_has ls 3 [(0, .ref (a 9)), (1, .long x1)] := hl
  refine lv_aload_n hx hb d_W_addDigit_0 rfl (lv_at hl 0 rfl) ?_
  refine lv_aload_n hx hb d_W_addDigit_1 rfl (lv_at hl 0 rfl) ?_
  refine nf_get (v := .long (mg_L M 9 0)) K hw 9 5 0 nw_160 rfl rfl ni_W (by decide) rfl rfl d_W_addDigit_2 ?_
  refine lv_ldc2 (v := (10 : Int64)) hx hb K.2.2.2.1 (nf_Kg K nw_569) d_W_addDigit_5 ?_
  refine lv_lmul hx hb d_W_addDigit_8 ?_
  refine lv_aload_n hx hb d_W_addDigit_9 rfl (lv_at hl 0 rfl) ?_
  refine nf_get (v := .long (mg_L M 9 1)) K hw 9 5 1 nw_161 rfl rfl ni_W (by decide) rfl rfl d_W_addDigit_10 ?_
  refine lv_ldc2 (v := (100000000000000 : Int64)) hx hb K.2.2.2.1 (nf_Kg K nw_574) d_W_addDigit_13 ?_
  refine lv_ldiv hx hb d_W_addDigit_16 (by decide) ?_
  refine lv_ladd hx hb d_W_addDigit_17 ?_
  refine lv_topl (fun t1 et1 => ?_)
  have h := h t1 et1
  refine nf_put (M' := ms_L M 9 0 t1) K hw 9 5 0 nw_160 rfl rfl rfl ni_W ny_W nq_W nn_W (by decide) rfl rfl rfl rfl (Nat.le_of_ble_eq_true rfl) d_W_addDigit_18 (fun H locs hw => ?_)
  obtain ⟨M2, eM2⟩ : ∃ z, z = ms_L M 9 0 t1 := ⟨_, rfl⟩
  rw [← eM2] at hw
  have h := h M2 eM2
  refine lv_aload_n hx hb d_W_addDigit_21 rfl (lv_at hl 0 rfl) ?_
  refine lv_aload_n hx hb d_W_addDigit_22 rfl (lv_at hl 0 rfl) ?_
  refine nf_get (v := .long (mg_L M2 9 1)) K hw 9 5 1 nw_161 rfl rfl ni_W (by decide) rfl rfl d_W_addDigit_23 ?_
  refine lv_ldc2 (v := (100000000000000 : Int64)) hx hb K.2.2.2.1 (nf_Kg K nw_574) d_W_addDigit_26 ?_
  refine lv_lrem hx hb d_W_addDigit_29 (by decide) ?_
  refine lv_ldc2 (v := (10 : Int64)) hx hb K.2.2.2.1 (nf_Kg K nw_569) d_W_addDigit_30 ?_
  refine lv_lmul hx hb d_W_addDigit_33 ?_
  refine lv_lload_n hx hb d_W_addDigit_34 rfl (lv_at hl 1 rfl) ?_
  refine lv_ladd hx hb d_W_addDigit_35 ?_
  refine lv_topl (fun t3 et3 => ?_)
  have h := h t3 et3
  refine nf_put (M' := ms_L M2 9 1 t3) K hw 9 5 1 nw_161 rfl rfl rfl ni_W ny_W nq_W nn_W (by decide) rfl rfl rfl rfl (Nat.le_of_ble_eq_true rfl) d_W_addDigit_36 (fun H locs hw => ?_)
  obtain ⟨M4, eM4⟩ : ∃ z, z = ms_L M2 9 1 t3 := ⟨_, rfl⟩
  rw [← eM4] at hw
  have h := h M4 eM4
  exact nf_vret K hw d_W_addDigit_39 (Nat.le_of_ble_eq_true rfl) (Nat.le_of_ble_eq_true rfl) (r := ()) rfl h
theorem d_W_becomeQuotient_0 : decode nb_W_becomeQuotient 0 = .ok (.aload_n 0, 1) := by decide +kernel
theorem d_W_becomeQuotient_1 : decode nb_W_becomeQuotient 1 = .ok (.lload_n 1, 1) := by decide +kernel
theorem d_W_becomeQuotient_2 : decode nb_W_becomeQuotient 2 = .ok (.lload 4, 2) := by decide +kernel
theorem d_W_becomeQuotient_4 : decode nb_W_becomeQuotient 4 = .ok (.invokestatic 26, 3) := by decide +kernel
theorem d_W_becomeQuotient_7 : decode nb_W_becomeQuotient 7 = .ok (.invokevirtual 30, 3) := by decide +kernel
theorem d_W_becomeQuotient_10 : decode nb_W_becomeQuotient 10 = .ok (.lload_n 1, 1) := by decide +kernel
theorem d_W_becomeQuotient_11 : decode nb_W_becomeQuotient 11 = .ok (.lload 4, 2) := by decide +kernel
theorem d_W_becomeQuotient_13 : decode nb_W_becomeQuotient 13 = .ok (.invokestatic 34, 3) := by decide +kernel
theorem d_W_becomeQuotient_16 : decode nb_W_becomeQuotient 16 = .ok (.lstore 6, 2) := by decide +kernel
theorem d_W_becomeQuotient_18 : decode nb_W_becomeQuotient 18 = .ok (.iconst 0, 1) := by decide +kernel
theorem d_W_becomeQuotient_19 : decode nb_W_becomeQuotient 19 = .ok (.istore 8, 2) := by decide +kernel
theorem d_W_becomeQuotient_21 : decode nb_W_becomeQuotient 21 = .ok (.iload 8, 2) := by decide +kernel
theorem d_W_becomeQuotient_23 : decode nb_W_becomeQuotient 23 = .ok (.iload_n 3, 1) := by decide +kernel
theorem d_W_becomeQuotient_24 : decode nb_W_becomeQuotient 24 = .ok (.if_icmp .ge 37, 3) := by decide +kernel
theorem d_W_becomeQuotient_27 : decode nb_W_becomeQuotient 27 = .ok (.aload_n 0, 1) := by decide +kernel
theorem d_W_becomeQuotient_28 : decode nb_W_becomeQuotient 28 = .ok (.lload 6, 2) := by decide +kernel
theorem d_W_becomeQuotient_30 : decode nb_W_becomeQuotient 30 = .ok (.ldc2_w 24, 3) := by decide +kernel
theorem d_W_becomeQuotient_33 : decode nb_W_becomeQuotient 33 = .ok (.lmul, 1) := by decide +kernel
theorem d_W_becomeQuotient_34 : decode nb_W_becomeQuotient 34 = .ok (.lload 4, 2) := by decide +kernel
theorem d_W_becomeQuotient_36 : decode nb_W_becomeQuotient 36 = .ok (.invokestatic 26, 3) := by decide +kernel
theorem d_W_becomeQuotient_39 : decode nb_W_becomeQuotient 39 = .ok (.invokevirtual 37, 3) := by decide +kernel
theorem d_W_becomeQuotient_42 : decode nb_W_becomeQuotient 42 = .ok (.lload 6, 2) := by decide +kernel
theorem d_W_becomeQuotient_44 : decode nb_W_becomeQuotient 44 = .ok (.ldc2_w 24, 3) := by decide +kernel
theorem d_W_becomeQuotient_47 : decode nb_W_becomeQuotient 47 = .ok (.lmul, 1) := by decide +kernel
theorem d_W_becomeQuotient_48 : decode nb_W_becomeQuotient 48 = .ok (.lload 4, 2) := by decide +kernel
theorem d_W_becomeQuotient_50 : decode nb_W_becomeQuotient 50 = .ok (.invokestatic 34, 3) := by decide +kernel
theorem d_W_becomeQuotient_53 : decode nb_W_becomeQuotient 53 = .ok (.lstore 6, 2) := by decide +kernel
theorem d_W_becomeQuotient_55 : decode nb_W_becomeQuotient 55 = .ok (.iinc 8 1, 3) := by decide +kernel
theorem d_W_becomeQuotient_58 : decode nb_W_becomeQuotient 58 = .ok (.goto (-37), 3) := by decide +kernel
theorem d_W_becomeQuotient_61 : decode nb_W_becomeQuotient 61 = .ok (.lload 6, 2) := by decide +kernel
theorem d_W_becomeQuotient_63 : decode nb_W_becomeQuotient 63 = .ok (.lreturn, 1) := by decide +kernel
abbrev rm_W_becomeQuotient : Room := ({ frames := 1, cells := 0, slots := 0, locals := 23 })
theorem w_W_becomeQuotient_21 {post : Int64 → nf_M → Prop} (hfl : l.flags = flags0) (K : nf_K p s m args meth c "NumberForge$Wide" nb_W_becomeQuotient 9 (some FieldType.long) D a sz) : ∀ (n : Nat) (x3 : Int32) (x4 : Int64) (x6 : Int64) (x8 : Int32) (M : nf_M) (H : Heap) (locs : List Loc) (ls : Array Slot), B_W_becomeQuotient_21 post n x3 x4 x6 x8 M → lv_has ls 9 [(0, .ref (a 9)), (3, .int x3), (4, .long x4), (6, .long x6), (8, .int x8)] → nf_W D a s sz H locs M → W p l e rm_W_becomeQuotient s m args below meth c H locs 0 0 (nf_MQ below (nf_Q nf_jJ D a post ex (nf_A a sz)) args s rm_W_becomeQuotient.cells rm_W_becomeQuotient.slots (nf_A a sz)) (F0 m 21 ls []) := by
  have hx := K.1
  have hb := K.2.1
  intro n
  induction n with
  | zero => intro x3 x4 x6 x8 M H locs ls h hl hw; exact h.elim
  | succ n ih =>
    intro x3 x4 x6 x8 M H locs ls h hl hw
    refine lv_iload hx hb d_W_becomeQuotient_21 (lv_at hl 4 rfl) ?_
    refine lv_iload_n hx hb d_W_becomeQuotient_23 rfl (lv_at hl 1 rfl) ?_
    refine nf_ic_ge hx hb d_W_becomeQuotient_24 (tgt := 61) (by decide) (fun hc => ?_) (fun hc => ?_)
    · have h := h.1 hc
      refine lv_aload_n hx hb d_W_becomeQuotient_27 rfl (lv_at hl 0 rfl) ?_
      refine lv_lload hx hb d_W_becomeQuotient_28 (lv_at hl 3 rfl) ?_
      refine lv_ldc2 (v := (10 : Int64)) hx hb K.2.2.2.1 (nf_Kg K nw_569) d_W_becomeQuotient_30 ?_
      refine lv_lmul hx hb d_W_becomeQuotient_33 ?_
      refine lv_lload hx hb d_W_becomeQuotient_34 (lv_at hl 2 rfl) ?_
      refine nf_callW (ex := (fun _ _ => False)) (As := [.long (x6 * (10 : Int64)), .long x4]) (st0 := [.long x4, .long (x6 * (10 : Int64)), .ref (a 9)]) (rest := [.ref (a 9)]) K hw (nf_invSN hx hb K.2.2.2.1 ((nf_Kr K nv_612).use rfl) (nf_Kg K nw_554) (nf_Kg K nw_1) (nf_Kg K nw_555) ⟨by decide, by decide⟩ rfl nl_F_over rfl d_W_becomeQuotient_36) (c_F_over l hfl (x6 * (10 : Int64)) x4) nw_555 nw_1 rfl ⟨by decide, by decide⟩ (Nat.le_of_ble_eq_true rfl) hl.1 ⟨Nat.le_of_ble_eq_true rfl, Nat.le_of_ble_eq_true rfl⟩ h (fun _ _ h => h.elim) (fun r1 M2 H locs h hw => ?_)
      refine W.eq (g2 := F0 m 39 ls [.long r1, .ref (a 9)]) rfl ?_
      refine nf_callW (ex := (fun _ _ => False)) (As := [.ref (a 9), .long r1]) (st0 := [.long r1, .ref (a 9)]) (rest := []) K hw (nf_invV hx hb K.2.2.2.1 (nf_Kg K nw_614) (nf_Kg K nw_616) (nf_Kg K nx_W_addDigit) (nf_Kg K nw_617) ⟨by decide, by decide⟩ (nf_rcv K hw 9 5 rfl rfl) rfl nl_W_addDigit rfl d_W_becomeQuotient_39) (c_W_addDigit l hfl r1) nw_617 nw_8 rfl ⟨by decide, by decide⟩ (Nat.le_of_ble_eq_true rfl) hl.1 ⟨Nat.le_of_ble_eq_true rfl, Nat.le_of_ble_eq_true rfl⟩ h (fun _ _ h => h.elim) (fun r3 M4 H locs h hw => ?_)
      refine W.eq (g2 := F0 m 42 ls []) rfl ?_
      refine lv_lload hx hb d_W_becomeQuotient_42 (lv_at hl 3 rfl) ?_
      refine lv_ldc2 (v := (10 : Int64)) hx hb K.2.2.2.1 (nf_Kg K nw_569) d_W_becomeQuotient_44 ?_
      refine lv_lmul hx hb d_W_becomeQuotient_47 ?_
      refine lv_lload hx hb d_W_becomeQuotient_48 (lv_at hl 2 rfl) ?_
      refine nf_callW (ex := (fun _ _ => False)) (As := [.long (x6 * (10 : Int64)), .long x4]) (st0 := [.long x4, .long (x6 * (10 : Int64))]) (rest := []) K hw (nf_invSN hx hb K.2.2.2.1 ((nf_Kr K nv_580).use rfl) (nf_Kg K nw_581) (nf_Kg K nw_1) (nf_Kg K nw_582) ⟨by decide, by decide⟩ rfl nl_F_left rfl d_W_becomeQuotient_50) (c_F_left l hfl (x6 * (10 : Int64)) x4) nw_582 nw_1 rfl ⟨by decide, by decide⟩ (Nat.le_of_ble_eq_true rfl) hl.1 ⟨Nat.le_of_ble_eq_true rfl, Nat.le_of_ble_eq_true rfl⟩ h (fun _ _ h => h.elim) (fun r5 M6 H locs h hw => ?_)
      refine W.eq (g2 := F0 m 53 ls [.long r5]) rfl ?_
      refine lv_lstore (lv' := [(6, .long r5), (0, .ref (a 9)), (3, .int x3), (4, .long x4), (8, .int x8)]) hx hb d_W_becomeQuotient_53 hl (by decide) rfl (fun ls hl => ?_)
      refine lv_iinc (k := 4) (v := x8 + (1 : Int32)) (lv' := [(8, .int (x8 + (1 : Int32))), (6, .long r5), (0, .ref (a 9)), (3, .int x3), (4, .long x4)]) hx hb d_W_becomeQuotient_55 hl rfl (nf_inc (by decide)) (by decide) rfl (fun ls hl => ?_)
      refine lv_goto hx hb d_W_becomeQuotient_58 (tgt := 21) (by decide) ?_
      exact ih x3 x4 r5 (x8 + (1 : Int32)) M6 _ _ _ h (lv_sub hl [2, 3, 4, 1, 0] rfl) hw
    · have h := h.2 hc
      refine lv_lload hx hb d_W_becomeQuotient_61 (lv_at hl 3 rfl) ?_
      exact nf_lret K hw d_W_becomeQuotient_63 (Nat.le_of_ble_eq_true rfl) (Nat.le_of_ble_eq_true rfl) (r := x6) rfl h
theorem c_W_becomeQuotient (l : Launch) (hfl : l.flags = flags0) (x1 : Int64) (x3 : Int32) (x4 : Int64) : nf_C nf_jJ l nm_W_becomeQuotient nb_W_becomeQuotient 9 (some FieldType.long) rm_W_becomeQuotient (fun a => [.ref (a 9), .long x1, .int x3, .long x4]) (fun M post ex => P_W_becomeQuotient x1 x3 x4 M post) := by
  refine nf_start (plainFor_of_name (by decide +kernel)) (fun a => Nat.le_of_ble_eq_true rfl) ?_
  intro D a sz M post ex p e s m below meth c ls h K hl hw
  have hx := K.1
  have hb := K.2.1
  have hl : lv_has ls 9 [(0, .ref (a 9)), (1, .long x1), (3, .int x3), (4, .long x4)] := hl
  refine lv_aload_n hx hb d_W_becomeQuotient_0 rfl (lv_at hl 0 rfl) ?_
  refine lv_lload_n hx hb d_W_becomeQuotient_1 rfl (lv_at hl 1 rfl) ?_
  refine lv_lload hx hb d_W_becomeQuotient_2 (lv_at hl 3 rfl) ?_
  refine nf_callW (ex := (fun _ _ => False)) (As := [.long x1, .long x4]) (st0 := [.long x4, .long x1, .ref (a 9)]) (rest := [.ref (a 9)]) K hw (nf_invSN hx hb K.2.2.2.1 ((nf_Kr K nv_612).use rfl) (nf_Kg K nw_554) (nf_Kg K nw_1) (nf_Kg K nw_555) ⟨by decide, by decide⟩ rfl nl_F_over rfl d_W_becomeQuotient_4) (c_F_over l hfl x1 x4) nw_555 nw_1 rfl ⟨by decide, by decide⟩ (Nat.le_of_ble_eq_true rfl) hl.1 ⟨Nat.le_of_ble_eq_true rfl, Nat.le_of_ble_eq_true rfl⟩ h (fun _ _ h => h.elim) (fun r1 M2 H locs h hw => ?_)
  refine W.eq (g2 := F0 m 7 ls [.long r1, .ref (a 9)]) rfl ?_
  refine nf_callW (ex := (fun _ _ => False)) (As := [.ref (a 9), .long r1]) (st0 := [.long r1, .ref (a 9)]) (rest := []) K hw (nf_invV hx hb K.2.2.2.1 (nf_Kg K nw_613) (nf_Kg K nw_558) (nf_Kg K nx_W_become) (nf_Kg K nw_559) ⟨by decide, by decide⟩ (nf_rcv K hw 9 5 rfl rfl) rfl nl_W_become rfl d_W_becomeQuotient_7) (c_W_become l hfl r1) nw_559 nw_8 rfl ⟨by decide, by decide⟩ (Nat.le_of_ble_eq_true rfl) hl.1 ⟨Nat.le_of_ble_eq_true rfl, Nat.le_of_ble_eq_true rfl⟩ h (fun _ _ h => h.elim) (fun r3 M4 H locs h hw => ?_)
  refine W.eq (g2 := F0 m 10 ls []) rfl ?_
  refine lv_lload_n hx hb d_W_becomeQuotient_10 rfl (lv_at hl 1 rfl) ?_
  refine lv_lload hx hb d_W_becomeQuotient_11 (lv_at hl 3 rfl) ?_
  refine nf_callW (ex := (fun _ _ => False)) (As := [.long x1, .long x4]) (st0 := [.long x4, .long x1]) (rest := []) K hw (nf_invSN hx hb K.2.2.2.1 ((nf_Kr K nv_580).use rfl) (nf_Kg K nw_581) (nf_Kg K nw_1) (nf_Kg K nw_582) ⟨by decide, by decide⟩ rfl nl_F_left rfl d_W_becomeQuotient_13) (c_F_left l hfl x1 x4) nw_582 nw_1 rfl ⟨by decide, by decide⟩ (Nat.le_of_ble_eq_true rfl) hl.1 ⟨Nat.le_of_ble_eq_true rfl, Nat.le_of_ble_eq_true rfl⟩ h (fun _ _ h => h.elim) (fun r5 M6 H locs h hw => ?_)
  refine W.eq (g2 := F0 m 16 ls [.long r5]) rfl ?_
  refine lv_lstore (lv' := [(6, .long r5), (0, .ref (a 9)), (1, .long x1), (3, .int x3), (4, .long x4)]) hx hb d_W_becomeQuotient_16 hl (by decide) rfl (fun ls hl => ?_)
  refine lv_iconst (v := (0 : Int32)) hx hb d_W_becomeQuotient_18 (by decide) ?_
  refine lv_istore (lv' := [(8, .int (0 : Int32)), (6, .long r5), (0, .ref (a 9)), (1, .long x1), (3, .int x3), (4, .long x4)]) hx hb d_W_becomeQuotient_19 hl (by decide) rfl (fun ls hl => ?_)
  obtain ⟨n, h⟩ := h
  exact w_W_becomeQuotient_21 hfl K n x3 x4 r5 (0 : Int32) M6 _ _ _ h (lv_sub hl [2, 4, 5, 1, 0] rfl) hw
theorem d_F_exactQuotient_0 : decode nb_F_exactQuotient 0 = .ok (.aload_n 2, 1) := by decide +kernel
theorem d_F_exactQuotient_1 : decode nb_F_exactQuotient 1 = .ok (.getfield 110, 3) := by decide +kernel
theorem d_F_exactQuotient_4 : decode nb_F_exactQuotient 4 = .ok (.invokestatic 193, 3) := by decide +kernel
theorem d_F_exactQuotient_7 : decode nb_F_exactQuotient 7 = .ok (.lstore_n 3, 1) := by decide +kernel
theorem d_F_exactQuotient_8 : decode nb_F_exactQuotient 8 = .ok (.aload_n 0, 1) := by decide +kernel
theorem d_F_exactQuotient_9 : decode nb_F_exactQuotient 9 = .ok (.getfield 56, 3) := by decide +kernel
theorem d_F_exactQuotient_12 : decode nb_F_exactQuotient 12 = .ok (.aload_n 1, 1) := by decide +kernel
theorem d_F_exactQuotient_13 : decode nb_F_exactQuotient 13 = .ok (.getfield 110, 3) := by decide +kernel
theorem d_F_exactQuotient_16 : decode nb_F_exactQuotient 16 = .ok (.invokestatic 193, 3) := by decide +kernel
theorem d_F_exactQuotient_19 : decode nb_F_exactQuotient 19 = .ok (.bipush 6, 2) := by decide +kernel
theorem d_F_exactQuotient_21 : decode nb_F_exactQuotient 21 = .ok (.aload_n 2, 1) := by decide +kernel
theorem d_F_exactQuotient_22 : decode nb_F_exactQuotient 22 = .ok (.getfield 176, 3) := by decide +kernel
theorem d_F_exactQuotient_25 : decode nb_F_exactQuotient 25 = .ok (.iadd, 1) := by decide +kernel
theorem d_F_exactQuotient_26 : decode nb_F_exactQuotient 26 = .ok (.aload_n 1, 1) := by decide +kernel
theorem d_F_exactQuotient_27 : decode nb_F_exactQuotient 27 = .ok (.getfield 176, 3) := by decide +kernel
theorem d_F_exactQuotient_30 : decode nb_F_exactQuotient 30 = .ok (.isub, 1) := by decide +kernel
theorem d_F_exactQuotient_31 : decode nb_F_exactQuotient 31 = .ok (.lload_n 3, 1) := by decide +kernel
theorem d_F_exactQuotient_32 : decode nb_F_exactQuotient 32 = .ok (.invokevirtual 378, 3) := by decide +kernel
theorem d_F_exactQuotient_35 : decode nb_F_exactQuotient 35 = .ok (.lstore 5, 2) := by decide +kernel
theorem d_F_exactQuotient_37 : decode nb_F_exactQuotient 37 = .ok (.aload_n 0, 1) := by decide +kernel
theorem d_F_exactQuotient_38 : decode nb_F_exactQuotient 38 = .ok (.getfield 56, 3) := by decide +kernel
theorem d_F_exactQuotient_41 : decode nb_F_exactQuotient 41 = .ok (.getfield 382, 3) := by decide +kernel
theorem d_F_exactQuotient_44 : decode nb_F_exactQuotient 44 = .ok (.lload 5, 2) := by decide +kernel
theorem d_F_exactQuotient_46 : decode nb_F_exactQuotient 46 = .ok (.lload_n 3, 1) := by decide +kernel
theorem d_F_exactQuotient_47 : decode nb_F_exactQuotient 47 = .ok (.invokestatic 267, 3) := by decide +kernel
theorem d_F_exactQuotient_50 : decode nb_F_exactQuotient 50 = .ok (.ifCond .eq 10, 3) := by decide +kernel
theorem d_F_exactQuotient_53 : decode nb_F_exactQuotient 53 = .ok (.aload_n 0, 1) := by decide +kernel
theorem d_F_exactQuotient_54 : decode nb_F_exactQuotient 54 = .ok (.getfield 56, 3) := by decide +kernel
theorem d_F_exactQuotient_57 : decode nb_F_exactQuotient 57 = .ok (.invokevirtual 385, 3) := by decide +kernel
theorem d_F_exactQuotient_60 : decode nb_F_exactQuotient 60 = .ok (.aload_n 0, 1) := by decide +kernel
theorem d_F_exactQuotient_61 : decode nb_F_exactQuotient 61 = .ok (.getfield 56, 3) := by decide +kernel
theorem d_F_exactQuotient_64 : decode nb_F_exactQuotient 64 = .ok (.aload_n 0, 1) := by decide +kernel
theorem d_F_exactQuotient_65 : decode nb_F_exactQuotient 65 = .ok (.getfield 16, 3) := by decide +kernel
theorem d_F_exactQuotient_68 : decode nb_F_exactQuotient 68 = .ok (.iconst 0, 1) := by decide +kernel
theorem d_F_exactQuotient_69 : decode nb_F_exactQuotient 69 = .ok (.aload_n 1, 1) := by decide +kernel
theorem d_F_exactQuotient_70 : decode nb_F_exactQuotient 70 = .ok (.aload_n 2, 1) := by decide +kernel
theorem d_F_exactQuotient_71 : decode nb_F_exactQuotient 71 = .ok (.invokestatic 353, 3) := by decide +kernel
theorem d_F_exactQuotient_74 : decode nb_F_exactQuotient 74 = .ok (.bipush 6, 2) := by decide +kernel
theorem d_F_exactQuotient_76 : decode nb_F_exactQuotient 76 = .ok (.invokevirtual 204, 3) := by decide +kernel
theorem d_F_exactQuotient_79 : decode nb_F_exactQuotient 79 = .ok (.return_, 1) := by decide +kernel
abbrev rm_F_exactQuotient : Room := ({ frames := 7, cells := 1, slots := 6, locals := 125 })
theorem w_F_exactQuotient_60 {post : Unit → nf_M → Prop} (hfl : l.flags = flags0) (K : nf_K p s m args meth c "NumberForge" nb_F_exactQuotient 7 none D a sz) : ∀ (v1 : Fin 9) (v2 : Fin 9) (M : nf_M) (H : Heap) (locs : List Loc) (ls : Array Slot), B_F_exactQuotient_60 post ex v1 v2 M → lv_has ls 7 [(0, .ref (a 0)), (1, .ref (a (10 + (v1 : Fin 9).val))), (2, .ref (a (10 + (v2 : Fin 9).val)))] → nf_W D a s sz H locs M → W p l e rm_F_exactQuotient s m args below meth c H locs 0 0 (nf_MQ below (nf_Q nf_jN D a post ex (nf_A a sz)) args s rm_F_exactQuotient.cells rm_F_exactQuotient.slots (nf_A a sz)) (F0 m 60 ls []) := by
  have hx := K.1
  have hb := K.2.1
  intro v1 v2 M H locs ls h hl hw
  refine lv_aload_n hx hb d_F_exactQuotient_60 rfl (lv_at hl 0 rfl) ?_
  refine nf_get (v := .ref (a 9)) K hw 0 6 7 nw_175 rfl rfl ni_F (by decide) rfl rfl d_F_exactQuotient_61 ?_
  refine lv_aload_n hx hb d_F_exactQuotient_64 rfl (lv_at hl 0 rfl) ?_
  refine nf_get (v := .ref (a (10 + ((0 : Fin 9) : Fin 9).val))) K hw 0 6 1 nw_169 rfl rfl ni_F (by decide) rfl rfl d_F_exactQuotient_65 ?_
  refine lv_iconst (v := (0 : Int32)) hx hb d_F_exactQuotient_68 (by decide) ?_
  refine lv_aload_n hx hb d_F_exactQuotient_69 rfl (lv_at hl 1 rfl) ?_
  refine lv_aload_n hx hb d_F_exactQuotient_70 rfl (lv_at hl 2 rfl) ?_
  refine nf_callW (ex := (fun _ _ => False)) (As := [.ref (a (10 + (v1 : Fin 9).val)), .ref (a (10 + (v2 : Fin 9).val))]) (st0 := [.ref (a (10 + (v2 : Fin 9).val)), .ref (a (10 + (v1 : Fin 9).val)), .int (0 : Int32), .ref (a (10 + ((0 : Fin 9) : Fin 9).val)), .ref (a 9)]) (rest := [.int (0 : Int32), .ref (a (10 + ((0 : Fin 9) : Fin 9).val)), .ref (a 9)]) K hw (nf_invS hx hb K.2.2.2.1 (nf_Kg K nw_601) (nf_Kg K nw_602) (nf_Kg K nw_1) (nf_Kg K nw_603) ⟨by decide, by decide⟩ rfl nl_F_haveOtherSigns rfl d_F_exactQuotient_71) (c_F_haveOtherSigns l hfl v1 v2) nw_603 nw_1 rfl ⟨by decide, by decide⟩ (Nat.le_of_ble_eq_true rfl) hl.1 ⟨Nat.le_of_ble_eq_true rfl, Nat.le_of_ble_eq_true rfl⟩ h (fun _ _ h => h.elim) (fun r1 M2 H locs h hw => ?_)
  refine W.eq (g2 := F0 m 74 ls [.int r1, .int (0 : Int32), .ref (a (10 + ((0 : Fin 9) : Fin 9).val)), .ref (a 9)]) rfl ?_
  refine lv_bipush (v := (6 : Int32)) hx hb d_F_exactQuotient_74 (by decide) ?_
  refine nf_callW (ex := ex) (As := [.ref (a 9), .ref (a (10 + ((0 : Fin 9) : Fin 9).val)), .int (0 : Int32), .int r1, .int (6 : Int32)]) (st0 := [.int (6 : Int32), .int r1, .int (0 : Int32), .ref (a (10 + ((0 : Fin 9) : Fin 9).val)), .ref (a 9)]) (rest := []) K hw (nf_invVN hx hb K.2.2.2.1 ((nf_Kr K nv_561).use rfl) (nf_Kg K nw_563) (nf_Kg K nx_W_settle) (nf_Kg K nw_564) ⟨by decide, by decide⟩ (nf_rcv K hw 9 5 rfl rfl) rfl nl_W_settle rfl d_F_exactQuotient_76) (c_W_settle l hfl (0 : Fin 9) (0 : Int32) r1 (6 : Int32)) nw_564 nw_8 rfl ⟨by decide, by decide⟩ (Nat.le_of_ble_eq_true rfl) hl.1 ⟨Nat.le_of_ble_eq_true rfl, Nat.le_of_ble_eq_true rfl⟩ h (fun _ _ h => h) (fun r3 M4 H locs h hw => ?_)
  refine W.eq (g2 := F0 m 79 ls []) rfl ?_
  refine W.widen (k := 1) (n := 6) (by decide) (by decide) ?_
  exact nf_vret K hw d_F_exactQuotient_79 (Nat.le_of_ble_eq_true rfl) (Nat.le_of_ble_eq_true rfl) (r := ()) rfl h
theorem c_F_exactQuotient (l : Launch) (hfl : l.flags = flags0) (v1 : Fin 9) (v2 : Fin 9) : nf_C nf_jN l nm_F_exactQuotient nb_F_exactQuotient 7 none rm_F_exactQuotient (fun a => [.ref (a 0), .ref (a (10 + (v1 : Fin 9).val)), .ref (a (10 + (v2 : Fin 9).val))]) (fun M post ex => P_F_exactQuotient v1 v2 M post ex) := by
  refine nf_start (plainFor_of_name (by decide +kernel)) (fun a => Nat.le_of_ble_eq_true rfl) ?_
  intro D a sz M post ex p e s m below meth c ls h K hl hw
  have hx := K.1
  have hb := K.2.1
  have hl : lv_has ls 7 [(0, .ref (a 0)), (1, .ref (a (10 + (v1 : Fin 9).val))), (2, .ref (a (10 + (v2 : Fin 9).val)))] := hl
  refine lv_aload_n hx hb d_F_exactQuotient_0 rfl (lv_at hl 2 rfl) ?_
  refine nf_getN (v := .long (mg_U M v2)) K hw (10 + (v2 : Fin 9).val) 4 1 nv_41 (nf_heV _ _ _) rfl ni_V (by decide) rfl rfl d_F_exactQuotient_1 ?_
  refine nf_callW (ex := (fun _ _ => False)) (As := [.long (mg_U M v2)]) (st0 := [.long (mg_U M v2)]) (rest := []) K hw (nf_invS hx hb K.2.2.2.1 (nf_Kg K nw_549) (nf_Kg K nw_550) (nf_Kg K nw_4) (nf_Kg K nw_551) ⟨by decide, by decide⟩ rfl nl_JM_abs_JJ rfl d_F_exactQuotient_4) (c_JM_abs_JJ l hfl (mg_U M v2)) nw_551 nw_4 rfl ⟨by decide, by decide⟩ (Nat.le_of_ble_eq_true rfl) hl.1 ⟨Nat.le_of_ble_eq_true rfl, Nat.le_of_ble_eq_true rfl⟩ h (fun _ _ h => h.elim) (fun r1 M2 H locs h hw => ?_)
  refine W.eq (g2 := F0 m 7 ls [.long r1]) rfl ?_
  refine lv_lstore_n (lv' := [(3, .long r1), (0, .ref (a 0)), (1, .ref (a (10 + (v1 : Fin 9).val))), (2, .ref (a (10 + (v2 : Fin 9).val)))]) hx hb d_F_exactQuotient_7 rfl hl (by decide) rfl (fun ls hl => ?_)
  refine lv_aload_n hx hb d_F_exactQuotient_8 rfl (lv_at hl 1 rfl) ?_
  refine nf_get (v := .ref (a 9)) K hw 0 6 7 nw_175 rfl rfl ni_F (by decide) rfl rfl d_F_exactQuotient_9 ?_
  refine lv_aload_n hx hb d_F_exactQuotient_12 rfl (lv_at hl 2 rfl) ?_
  refine nf_getN (v := .long (mg_U M2 v1)) K hw (10 + (v1 : Fin 9).val) 4 1 nv_41 (nf_heV _ _ _) rfl ni_V (by decide) rfl rfl d_F_exactQuotient_13 ?_
  refine nf_callW (ex := (fun _ _ => False)) (As := [.long (mg_U M2 v1)]) (st0 := [.long (mg_U M2 v1), .ref (a 9)]) (rest := [.ref (a 9)]) K hw (nf_invS hx hb K.2.2.2.1 (nf_Kg K nw_549) (nf_Kg K nw_550) (nf_Kg K nw_4) (nf_Kg K nw_551) ⟨by decide, by decide⟩ rfl nl_JM_abs_JJ rfl d_F_exactQuotient_16) (c_JM_abs_JJ l hfl (mg_U M2 v1)) nw_551 nw_4 rfl ⟨by decide, by decide⟩ (Nat.le_of_ble_eq_true rfl) hl.1 ⟨Nat.le_of_ble_eq_true rfl, Nat.le_of_ble_eq_true rfl⟩ h (fun _ _ h => h.elim) (fun r3 M4 H locs h hw => ?_)
  refine W.eq (g2 := F0 m 19 ls [.long r3, .ref (a 9)]) rfl ?_
  refine lv_bipush (v := (6 : Int32)) hx hb d_F_exactQuotient_19 (by decide) ?_
  refine lv_aload_n hx hb d_F_exactQuotient_21 rfl (lv_at hl 3 rfl) ?_
  refine nf_getN (v := .int (mg_S M4 v2)) K hw (10 + (v2 : Fin 9).val) 4 2 nv_45 (nf_heV _ _ _) rfl ni_V (by decide) rfl rfl d_F_exactQuotient_22 ?_
  refine lv_iadd hx hb d_F_exactQuotient_25 ?_
  refine lv_aload_n hx hb d_F_exactQuotient_26 rfl (lv_at hl 2 rfl) ?_
  refine nf_getN (v := .int (mg_S M4 v1)) K hw (10 + (v1 : Fin 9).val) 4 2 nv_45 (nf_heV _ _ _) rfl ni_V (by decide) rfl rfl d_F_exactQuotient_27 ?_
  refine lv_isub hx hb d_F_exactQuotient_30 ?_
  refine lv_lload_n hx hb d_F_exactQuotient_31 rfl (lv_at hl 0 rfl) ?_
  refine nf_callW (ex := (fun _ _ => False)) (As := [.ref (a 9), .long r3, .int (((6 : Int32) + (mg_S M4 v2)) - (mg_S M4 v1)), .long r1]) (st0 := [.long r1, .int (((6 : Int32) + (mg_S M4 v2)) - (mg_S M4 v1)), .long r3, .ref (a 9)]) (rest := []) K hw (nf_invVN hx hb K.2.2.2.1 ((nf_Kr K nv_608).use rfl) (nf_Kg K nw_610) (nf_Kg K nx_W_becomeQuotient) (nf_Kg K nw_611) ⟨by decide, by decide⟩ (nf_rcv K hw 9 5 rfl rfl) rfl nl_W_becomeQuotient rfl d_F_exactQuotient_32) (c_W_becomeQuotient l hfl r3 (((6 : Int32) + (mg_S M4 v2)) - (mg_S M4 v1)) r1) nw_611 nw_8 rfl ⟨by decide, by decide⟩ (Nat.le_of_ble_eq_true rfl) hl.1 ⟨Nat.le_of_ble_eq_true rfl, Nat.le_of_ble_eq_true rfl⟩ h (fun _ _ h => h.elim) (fun r5 M6 H locs h hw => ?_)
  refine W.eq (g2 := F0 m 35 ls [.long r5]) rfl ?_
  refine lv_lstore (lv' := [(5, .long r5), (3, .long r1), (0, .ref (a 0)), (1, .ref (a (10 + (v1 : Fin 9).val))), (2, .ref (a (10 + (v2 : Fin 9).val)))]) hx hb d_F_exactQuotient_35 hl (by decide) rfl (fun ls hl => ?_)
  refine lv_aload_n hx hb d_F_exactQuotient_37 rfl (lv_at hl 2 rfl) ?_
  refine nf_get (v := .ref (a 9)) K hw 0 6 7 nw_175 rfl rfl ni_F (by decide) rfl rfl d_F_exactQuotient_38 ?_
  refine nf_getN (v := .long (mg_L M6 9 1)) K hw 9 5 1 nv_162 rfl rfl ni_W (by decide) rfl rfl d_F_exactQuotient_41 ?_
  refine lv_lload hx hb d_F_exactQuotient_44 (lv_at hl 0 rfl) ?_
  refine lv_lload_n hx hb d_F_exactQuotient_46 rfl (lv_at hl 1 rfl) ?_
  refine nf_callW (ex := (fun _ _ => False)) (As := [.long (mg_L M6 9 1), .long r5, .long r1]) (st0 := [.long r1, .long r5, .long (mg_L M6 9 1)]) (rest := []) K hw (nf_invS hx hb K.2.2.2.1 (nf_Kg K nw_618) (nf_Kg K nw_584) (nf_Kg K nw_1) (nf_Kg K nw_585) ⟨by decide, by decide⟩ rfl nl_F_isRoundedUp rfl d_F_exactQuotient_47) (c_F_isRoundedUp l hfl (mg_L M6 9 1) r5 r1) nw_585 nw_1 rfl ⟨by decide, by decide⟩ (Nat.le_of_ble_eq_true rfl) hl.1 ⟨Nat.le_of_ble_eq_true rfl, Nat.le_of_ble_eq_true rfl⟩ h (fun _ _ h => h.elim) (fun r7 M8 H locs h hw => ?_)
  refine W.eq (g2 := F0 m 50 ls [.int r7]) rfl ?_
  refine nf_if_eq hx hb d_F_exactQuotient_50 (tgt := 60) (by decide) (fun hc => ?_) (fun hc => ?_)
  · have h := h.1 hc
    exact w_F_exactQuotient_60 hfl K v1 v2 M8 _ _ _ h (lv_sub hl [2, 3, 4] rfl) hw
  · have h := h.2 hc
    refine lv_aload_n hx hb d_F_exactQuotient_53 rfl (lv_at hl 2 rfl) ?_
    refine nf_get (v := .ref (a 9)) K hw 0 6 7 nw_175 rfl rfl ni_F (by decide) rfl rfl d_F_exactQuotient_54 ?_
    refine nf_callW (ex := (fun _ _ => False)) (As := [.ref (a 9)]) (st0 := [.ref (a 9)]) (rest := []) K hw (nf_invVN hx hb K.2.2.2.1 ((nf_Kr K nv_619).use rfl) (nf_Kg K nw_589) (nf_Kg K nx_W_increase) (nf_Kg K nw_590) ⟨by decide, by decide⟩ (nf_rcv K hw 9 5 rfl rfl) rfl nl_W_increase rfl d_F_exactQuotient_57) (c_W_increase l hfl ) nw_590 nw_8 rfl ⟨by decide, by decide⟩ (Nat.le_of_ble_eq_true rfl) hl.1 ⟨Nat.le_of_ble_eq_true rfl, Nat.le_of_ble_eq_true rfl⟩ h (fun _ _ h => h.elim) (fun r9 M10 H locs h hw => ?_)
    refine W.eq (g2 := F0 m 60 ls []) rfl ?_
    exact w_F_exactQuotient_60 hfl K v1 v2 M10 _ _ _ h (lv_sub hl [2, 3, 4] rfl) hw
theorem d_F_exactWholePart_0 : decode nb_F_exactWholePart 0 = .ok (.aload_n 2, 1) := by decide +kernel
theorem d_F_exactWholePart_1 : decode nb_F_exactWholePart 1 = .ok (.getfield 176, 3) := by decide +kernel
theorem d_F_exactWholePart_4 : decode nb_F_exactWholePart 4 = .ok (.aload_n 1, 1) := by decide +kernel
theorem d_F_exactWholePart_5 : decode nb_F_exactWholePart 5 = .ok (.getfield 176, 3) := by decide +kernel
theorem d_F_exactWholePart_8 : decode nb_F_exactWholePart 8 = .ok (.isub, 1) := by decide +kernel
theorem d_F_exactWholePart_9 : decode nb_F_exactWholePart 9 = .ok (.istore_n 3, 1) := by decide +kernel
theorem d_F_exactWholePart_10 : decode nb_F_exactWholePart 10 = .ok (.iload_n 3, 1) := by decide +kernel
theorem d_F_exactWholePart_11 : decode nb_F_exactWholePart 11 = .ok (.ifCond .ge 21, 3) := by decide +kernel
theorem d_F_exactWholePart_14 : decode nb_F_exactWholePart 14 = .ok (.aload_n 1, 1) := by decide +kernel
theorem d_F_exactWholePart_15 : decode nb_F_exactWholePart 15 = .ok (.getfield 110, 3) := by decide +kernel
theorem d_F_exactWholePart_18 : decode nb_F_exactWholePart 18 = .ok (.invokestatic 193, 3) := by decide +kernel
theorem d_F_exactWholePart_21 : decode nb_F_exactWholePart 21 = .ok (.iload_n 3, 1) := by decide +kernel
theorem d_F_exactWholePart_22 : decode nb_F_exactWholePart 22 = .ok (.ineg, 1) := by decide +kernel
theorem d_F_exactWholePart_23 : decode nb_F_exactWholePart 23 = .ok (.invokestatic 275, 3) := by decide +kernel
theorem d_F_exactWholePart_26 : decode nb_F_exactWholePart 26 = .ok (.invokestatic 260, 3) := by decide +kernel
theorem d_F_exactWholePart_29 : decode nb_F_exactWholePart 29 = .ok (.goto 10, 3) := by decide +kernel
theorem d_F_exactWholePart_32 : decode nb_F_exactWholePart 32 = .ok (.aload_n 1, 1) := by decide +kernel
theorem d_F_exactWholePart_33 : decode nb_F_exactWholePart 33 = .ok (.getfield 110, 3) := by decide +kernel
theorem d_F_exactWholePart_36 : decode nb_F_exactWholePart 36 = .ok (.invokestatic 193, 3) := by decide +kernel
theorem d_F_exactWholePart_39 : decode nb_F_exactWholePart 39 = .ok (.lstore 4, 2) := by decide +kernel
theorem d_F_exactWholePart_41 : decode nb_F_exactWholePart 41 = .ok (.aload_n 0, 1) := by decide +kernel
theorem d_F_exactWholePart_42 : decode nb_F_exactWholePart 42 = .ok (.getfield 56, 3) := by decide +kernel
theorem d_F_exactWholePart_45 : decode nb_F_exactWholePart 45 = .ok (.lload 4, 2) := by decide +kernel
theorem d_F_exactWholePart_47 : decode nb_F_exactWholePart 47 = .ok (.iload_n 3, 1) := by decide +kernel
theorem d_F_exactWholePart_48 : decode nb_F_exactWholePart 48 = .ok (.iconst 0, 1) := by decide +kernel
theorem d_F_exactWholePart_49 : decode nb_F_exactWholePart 49 = .ok (.invokestatic 368, 3) := by decide +kernel
theorem d_F_exactWholePart_52 : decode nb_F_exactWholePart 52 = .ok (.aload_n 2, 1) := by decide +kernel
theorem d_F_exactWholePart_53 : decode nb_F_exactWholePart 53 = .ok (.getfield 110, 3) := by decide +kernel
theorem d_F_exactWholePart_56 : decode nb_F_exactWholePart 56 = .ok (.invokestatic 193, 3) := by decide +kernel
theorem d_F_exactWholePart_59 : decode nb_F_exactWholePart 59 = .ok (.invokevirtual 378, 3) := by decide +kernel
theorem d_F_exactWholePart_62 : decode nb_F_exactWholePart 62 = .ok (.pop2, 1) := by decide +kernel
theorem d_F_exactWholePart_63 : decode nb_F_exactWholePart 63 = .ok (.aload_n 0, 1) := by decide +kernel
theorem d_F_exactWholePart_64 : decode nb_F_exactWholePart 64 = .ok (.getfield 56, 3) := by decide +kernel
theorem d_F_exactWholePart_67 : decode nb_F_exactWholePart 67 = .ok (.aload_n 0, 1) := by decide +kernel
theorem d_F_exactWholePart_68 : decode nb_F_exactWholePart 68 = .ok (.getfield 16, 3) := by decide +kernel
theorem d_F_exactWholePart_71 : decode nb_F_exactWholePart 71 = .ok (.iconst 1, 1) := by decide +kernel
theorem d_F_exactWholePart_72 : decode nb_F_exactWholePart 72 = .ok (.aload_n 1, 1) := by decide +kernel
theorem d_F_exactWholePart_73 : decode nb_F_exactWholePart 73 = .ok (.aload_n 2, 1) := by decide +kernel
theorem d_F_exactWholePart_74 : decode nb_F_exactWholePart 74 = .ok (.invokestatic 353, 3) := by decide +kernel
theorem d_F_exactWholePart_77 : decode nb_F_exactWholePart 77 = .ok (.iconst 0, 1) := by decide +kernel
theorem d_F_exactWholePart_78 : decode nb_F_exactWholePart 78 = .ok (.invokevirtual 204, 3) := by decide +kernel
theorem d_F_exactWholePart_81 : decode nb_F_exactWholePart 81 = .ok (.return_, 1) := by decide +kernel
abbrev rm_F_exactWholePart : Room := ({ frames := 7, cells := 1, slots := 6, locals := 125 })
theorem w_F_exactWholePart_39 {post : Unit → nf_M → Prop} (hfl : l.flags = flags0) (K : nf_K p s m args meth c "NumberForge" nb_F_exactWholePart 6 none D a sz) : ∀ (v1 : Fin 9) (v2 : Fin 9) (x3 : Int32) (xy0 : Int64) (M : nf_M) (H : Heap) (locs : List Loc) (ls : Array Slot), B_F_exactWholePart_39 post ex v1 v2 x3 xy0 M → lv_has ls 6 [(0, .ref (a 0)), (1, .ref (a (10 + (v1 : Fin 9).val))), (2, .ref (a (10 + (v2 : Fin 9).val))), (3, .int x3)] → nf_W D a s sz H locs M → W p l e rm_F_exactWholePart s m args below meth c H locs 0 0 (nf_MQ below (nf_Q nf_jN D a post ex (nf_A a sz)) args s rm_F_exactWholePart.cells rm_F_exactWholePart.slots (nf_A a sz)) (F0 m 39 ls [.long xy0]) := by
  have hx := K.1
  have hb := K.2.1
  intro v1 v2 x3 xy0 M H locs ls h hl hw
  refine lv_lstore (lv' := [(4, .long xy0), (0, .ref (a 0)), (1, .ref (a (10 + (v1 : Fin 9).val))), (2, .ref (a (10 + (v2 : Fin 9).val))), (3, .int x3)]) hx hb d_F_exactWholePart_39 hl (by decide) rfl (fun ls hl => ?_)
  refine lv_aload_n hx hb d_F_exactWholePart_41 rfl (lv_at hl 1 rfl) ?_
  refine nf_get (v := .ref (a 9)) K hw 0 6 7 nw_175 rfl rfl ni_F (by decide) rfl rfl d_F_exactWholePart_42 ?_
  refine lv_lload hx hb d_F_exactWholePart_45 (lv_at hl 0 rfl) ?_
  refine lv_iload_n hx hb d_F_exactWholePart_47 rfl (lv_at hl 4 rfl) ?_
  refine lv_iconst (v := (0 : Int32)) hx hb d_F_exactWholePart_48 (by decide) ?_
  refine nf_callW (ex := (fun _ _ => False)) (As := [.int x3, .int (0 : Int32)]) (st0 := [.int (0 : Int32), .int x3, .long xy0, .ref (a 9)]) (rest := [.long xy0, .ref (a 9)]) K hw (nf_invS hx hb K.2.2.2.1 (nf_Kg K nw_544) (nf_Kg K nw_64) (nf_Kg K nw_4) (nf_Kg K nw_65) ⟨by decide, by decide⟩ rfl nl_JM_max rfl d_F_exactWholePart_49) (c_JM_max l hfl x3 (0 : Int32)) nw_65 nw_4 rfl ⟨by decide, by decide⟩ (Nat.le_of_ble_eq_true rfl) hl.1 ⟨Nat.le_of_ble_eq_true rfl, Nat.le_of_ble_eq_true rfl⟩ h (fun _ _ h => h.elim) (fun r1 M2 H locs h hw => ?_)
  refine W.eq (g2 := F0 m 52 ls [.int r1, .long xy0, .ref (a 9)]) rfl ?_
  refine lv_aload_n hx hb d_F_exactWholePart_52 rfl (lv_at hl 3 rfl) ?_
  refine nf_getN (v := .long (mg_U M2 v2)) K hw (10 + (v2 : Fin 9).val) 4 1 nv_41 (nf_heV _ _ _) rfl ni_V (by decide) rfl rfl d_F_exactWholePart_53 ?_
  refine nf_callW (ex := (fun _ _ => False)) (As := [.long (mg_U M2 v2)]) (st0 := [.long (mg_U M2 v2), .int r1, .long xy0, .ref (a 9)]) (rest := [.int r1, .long xy0, .ref (a 9)]) K hw (nf_invS hx hb K.2.2.2.1 (nf_Kg K nw_549) (nf_Kg K nw_550) (nf_Kg K nw_4) (nf_Kg K nw_551) ⟨by decide, by decide⟩ rfl nl_JM_abs_JJ rfl d_F_exactWholePart_56) (c_JM_abs_JJ l hfl (mg_U M2 v2)) nw_551 nw_4 rfl ⟨by decide, by decide⟩ (Nat.le_of_ble_eq_true rfl) hl.1 ⟨Nat.le_of_ble_eq_true rfl, Nat.le_of_ble_eq_true rfl⟩ h (fun _ _ h => h.elim) (fun r3 M4 H locs h hw => ?_)
  refine W.eq (g2 := F0 m 59 ls [.long r3, .int r1, .long xy0, .ref (a 9)]) rfl ?_
  refine nf_callW (ex := (fun _ _ => False)) (As := [.ref (a 9), .long xy0, .int r1, .long r3]) (st0 := [.long r3, .int r1, .long xy0, .ref (a 9)]) (rest := []) K hw (nf_invVN hx hb K.2.2.2.1 ((nf_Kr K nv_608).use rfl) (nf_Kg K nw_610) (nf_Kg K nx_W_becomeQuotient) (nf_Kg K nw_611) ⟨by decide, by decide⟩ (nf_rcv K hw 9 5 rfl rfl) rfl nl_W_becomeQuotient rfl d_F_exactWholePart_59) (c_W_becomeQuotient l hfl xy0 r1 r3) nw_611 nw_8 rfl ⟨by decide, by decide⟩ (Nat.le_of_ble_eq_true rfl) hl.1 ⟨Nat.le_of_ble_eq_true rfl, Nat.le_of_ble_eq_true rfl⟩ h (fun _ _ h => h.elim) (fun r5 M6 H locs h hw => ?_)
  refine W.eq (g2 := F0 m 62 ls [.long r5]) rfl ?_
  refine lv_pop2_2 hx hb d_F_exactWholePart_62 rfl ?_
  refine lv_aload_n hx hb d_F_exactWholePart_63 rfl (lv_at hl 1 rfl) ?_
  refine nf_get (v := .ref (a 9)) K hw 0 6 7 nw_175 rfl rfl ni_F (by decide) rfl rfl d_F_exactWholePart_64 ?_
  refine lv_aload_n hx hb d_F_exactWholePart_67 rfl (lv_at hl 1 rfl) ?_
  refine nf_get (v := .ref (a (10 + ((0 : Fin 9) : Fin 9).val))) K hw 0 6 1 nw_169 rfl rfl ni_F (by decide) rfl rfl d_F_exactWholePart_68 ?_
  refine lv_iconst (v := (1 : Int32)) hx hb d_F_exactWholePart_71 (by decide) ?_
  refine lv_aload_n hx hb d_F_exactWholePart_72 rfl (lv_at hl 2 rfl) ?_
  refine lv_aload_n hx hb d_F_exactWholePart_73 rfl (lv_at hl 3 rfl) ?_
  refine nf_callW (ex := (fun _ _ => False)) (As := [.ref (a (10 + (v1 : Fin 9).val)), .ref (a (10 + (v2 : Fin 9).val))]) (st0 := [.ref (a (10 + (v2 : Fin 9).val)), .ref (a (10 + (v1 : Fin 9).val)), .int (1 : Int32), .ref (a (10 + ((0 : Fin 9) : Fin 9).val)), .ref (a 9)]) (rest := [.int (1 : Int32), .ref (a (10 + ((0 : Fin 9) : Fin 9).val)), .ref (a 9)]) K hw (nf_invS hx hb K.2.2.2.1 (nf_Kg K nw_601) (nf_Kg K nw_602) (nf_Kg K nw_1) (nf_Kg K nw_603) ⟨by decide, by decide⟩ rfl nl_F_haveOtherSigns rfl d_F_exactWholePart_74) (c_F_haveOtherSigns l hfl v1 v2) nw_603 nw_1 rfl ⟨by decide, by decide⟩ (Nat.le_of_ble_eq_true rfl) hl.1 ⟨Nat.le_of_ble_eq_true rfl, Nat.le_of_ble_eq_true rfl⟩ h (fun _ _ h => h.elim) (fun r7 M8 H locs h hw => ?_)
  refine W.eq (g2 := F0 m 77 ls [.int r7, .int (1 : Int32), .ref (a (10 + ((0 : Fin 9) : Fin 9).val)), .ref (a 9)]) rfl ?_
  refine lv_iconst (v := (0 : Int32)) hx hb d_F_exactWholePart_77 (by decide) ?_
  refine nf_callW (ex := ex) (As := [.ref (a 9), .ref (a (10 + ((0 : Fin 9) : Fin 9).val)), .int (1 : Int32), .int r7, .int (0 : Int32)]) (st0 := [.int (0 : Int32), .int r7, .int (1 : Int32), .ref (a (10 + ((0 : Fin 9) : Fin 9).val)), .ref (a 9)]) (rest := []) K hw (nf_invVN hx hb K.2.2.2.1 ((nf_Kr K nv_561).use rfl) (nf_Kg K nw_563) (nf_Kg K nx_W_settle) (nf_Kg K nw_564) ⟨by decide, by decide⟩ (nf_rcv K hw 9 5 rfl rfl) rfl nl_W_settle rfl d_F_exactWholePart_78) (c_W_settle l hfl (0 : Fin 9) (1 : Int32) r7 (0 : Int32)) nw_564 nw_8 rfl ⟨by decide, by decide⟩ (Nat.le_of_ble_eq_true rfl) hl.1 ⟨Nat.le_of_ble_eq_true rfl, Nat.le_of_ble_eq_true rfl⟩ h (fun _ _ h => h) (fun r9 M10 H locs h hw => ?_)
  refine W.eq (g2 := F0 m 81 ls []) rfl ?_
  refine W.widen (k := 1) (n := 6) (by decide) (by decide) ?_
  exact nf_vret K hw d_F_exactWholePart_81 (Nat.le_of_ble_eq_true rfl) (Nat.le_of_ble_eq_true rfl) (r := ()) rfl h
theorem c_F_exactWholePart (l : Launch) (hfl : l.flags = flags0) (v1 : Fin 9) (v2 : Fin 9) : nf_C nf_jN l nm_F_exactWholePart nb_F_exactWholePart 6 none rm_F_exactWholePart (fun a => [.ref (a 0), .ref (a (10 + (v1 : Fin 9).val)), .ref (a (10 + (v2 : Fin 9).val))]) (fun M post ex => P_F_exactWholePart v1 v2 M post ex) := by
  refine nf_start (plainFor_of_name (by decide +kernel)) (fun a => Nat.le_of_ble_eq_true rfl) ?_
  intro D a sz M post ex p e s m below meth c ls h K hl hw
  have hx := K.1
  have hb := K.2.1
  have hl : lv_has ls 6 [(0, .ref (a 0)), (1, .ref (a (10 + (v1 : Fin 9).val))), (2, .ref (a (10 + (v2 : Fin 9).val)))] := hl
  refine lv_aload_n hx hb d_F_exactWholePart_0 rfl (lv_at hl 2 rfl) ?_
  refine nf_getN (v := .int (mg_S M v2)) K hw (10 + (v2 : Fin 9).val) 4 2 nv_45 (nf_heV _ _ _) rfl ni_V (by decide) rfl rfl d_F_exactWholePart_1 ?_
  refine lv_aload_n hx hb d_F_exactWholePart_4 rfl (lv_at hl 1 rfl) ?_
  refine nf_getN (v := .int (mg_S M v1)) K hw (10 + (v1 : Fin 9).val) 4 2 nv_45 (nf_heV _ _ _) rfl ni_V (by decide) rfl rfl d_F_exactWholePart_5 ?_
  refine lv_isub hx hb d_F_exactWholePart_8 ?_
  refine lv_topi (fun t1 et1 => ?_)
  have h := h t1 et1
  refine lv_istore_n (lv' := [(3, .int t1), (0, .ref (a 0)), (1, .ref (a (10 + (v1 : Fin 9).val))), (2, .ref (a (10 + (v2 : Fin 9).val)))]) hx hb d_F_exactWholePart_9 rfl hl (by decide) rfl (fun ls hl => ?_)
  refine lv_iload_n hx hb d_F_exactWholePart_10 rfl (lv_at hl 0 rfl) ?_
  refine nf_if_ge hx hb d_F_exactWholePart_11 (tgt := 32) (by decide) (fun hc => ?_) (fun hc => ?_)
  · have h := h.1 hc
    refine lv_aload_n hx hb d_F_exactWholePart_14 rfl (lv_at hl 2 rfl) ?_
    refine nf_getN (v := .long (mg_U M v1)) K hw (10 + (v1 : Fin 9).val) 4 1 nv_41 (nf_heV _ _ _) rfl ni_V (by decide) rfl rfl d_F_exactWholePart_15 ?_
    refine nf_callW (ex := (fun _ _ => False)) (As := [.long (mg_U M v1)]) (st0 := [.long (mg_U M v1)]) (rest := []) K hw (nf_invS hx hb K.2.2.2.1 (nf_Kg K nw_549) (nf_Kg K nw_550) (nf_Kg K nw_4) (nf_Kg K nw_551) ⟨by decide, by decide⟩ rfl nl_JM_abs_JJ rfl d_F_exactWholePart_18) (c_JM_abs_JJ l hfl (mg_U M v1)) nw_551 nw_4 rfl ⟨by decide, by decide⟩ (Nat.le_of_ble_eq_true rfl) hl.1 ⟨Nat.le_of_ble_eq_true rfl, Nat.le_of_ble_eq_true rfl⟩ h (fun _ _ h => h.elim) (fun r2 M3 H locs h hw => ?_)
    refine W.eq (g2 := F0 m 21 ls [.long r2]) rfl ?_
    refine lv_iload_n hx hb d_F_exactWholePart_21 rfl (lv_at hl 0 rfl) ?_
    refine lv_ineg hx hb d_F_exactWholePart_22 ?_
    refine nf_callW (ex := (fun _ _ => False)) (As := [.int (-t1)]) (st0 := [.int (-t1), .long r2]) (rest := [.long r2]) K hw (nf_invS hx hb K.2.2.2.1 (nf_Kg K nw_548) (nf_Kg K nw_352) (nf_Kg K nw_1) (nf_Kg K nw_353) ⟨by decide, by decide⟩ rfl nl_F_power rfl d_F_exactWholePart_23) (c_F_power l hfl (-t1)) nw_353 nw_1 rfl ⟨by decide, by decide⟩ (Nat.le_of_ble_eq_true rfl) hl.1 ⟨Nat.le_of_ble_eq_true rfl, Nat.le_of_ble_eq_true rfl⟩ h (fun _ _ h => h.elim) (fun r4 M5 H locs h hw => ?_)
    refine W.eq (g2 := F0 m 26 ls [.long r4, .long r2]) rfl ?_
    refine nf_callW (ex := (fun _ _ => False)) (As := [.long r2, .long r4]) (st0 := [.long r4, .long r2]) (rest := []) K hw (nf_invS hx hb K.2.2.2.1 (nf_Kg K nw_553) (nf_Kg K nw_554) (nf_Kg K nw_1) (nf_Kg K nw_555) ⟨by decide, by decide⟩ rfl nl_F_over rfl d_F_exactWholePart_26) (c_F_over l hfl r2 r4) nw_555 nw_1 rfl ⟨by decide, by decide⟩ (Nat.le_of_ble_eq_true rfl) hl.1 ⟨Nat.le_of_ble_eq_true rfl, Nat.le_of_ble_eq_true rfl⟩ h (fun _ _ h => h.elim) (fun r6 M7 H locs h hw => ?_)
    refine W.eq (g2 := F0 m 29 ls [.long r6]) rfl ?_
    refine lv_goto hx hb d_F_exactWholePart_29 (tgt := 39) (by decide) ?_
    exact w_F_exactWholePart_39 hfl K v1 v2 t1 r6 M7 _ _ _ h (lv_sub hl [1, 2, 3, 0] rfl) hw
  · have h := h.2 hc
    refine lv_aload_n hx hb d_F_exactWholePart_32 rfl (lv_at hl 2 rfl) ?_
    refine nf_getN (v := .long (mg_U M v1)) K hw (10 + (v1 : Fin 9).val) 4 1 nv_41 (nf_heV _ _ _) rfl ni_V (by decide) rfl rfl d_F_exactWholePart_33 ?_
    refine nf_callW (ex := (fun _ _ => False)) (As := [.long (mg_U M v1)]) (st0 := [.long (mg_U M v1)]) (rest := []) K hw (nf_invS hx hb K.2.2.2.1 (nf_Kg K nw_549) (nf_Kg K nw_550) (nf_Kg K nw_4) (nf_Kg K nw_551) ⟨by decide, by decide⟩ rfl nl_JM_abs_JJ rfl d_F_exactWholePart_36) (c_JM_abs_JJ l hfl (mg_U M v1)) nw_551 nw_4 rfl ⟨by decide, by decide⟩ (Nat.le_of_ble_eq_true rfl) hl.1 ⟨Nat.le_of_ble_eq_true rfl, Nat.le_of_ble_eq_true rfl⟩ h (fun _ _ h => h.elim) (fun r8 M9 H locs h hw => ?_)
    refine W.eq (g2 := F0 m 39 ls [.long r8]) rfl ?_
    exact w_F_exactWholePart_39 hfl K v1 v2 t1 r8 M9 _ _ _ h (lv_sub hl [1, 2, 3, 0] rfl) hw
theorem d_F_exactRest_0 : decode nb_F_exactRest 0 = .ok (.aload_n 1, 1) := by decide +kernel
theorem d_F_exactRest_1 : decode nb_F_exactRest 1 = .ok (.getfield 110, 3) := by decide +kernel
theorem d_F_exactRest_4 : decode nb_F_exactRest 4 = .ok (.invokestatic 193, 3) := by decide +kernel
theorem d_F_exactRest_7 : decode nb_F_exactRest 7 = .ok (.lstore 4, 2) := by decide +kernel
theorem d_F_exactRest_9 : decode nb_F_exactRest 9 = .ok (.aload_n 2, 1) := by decide +kernel
theorem d_F_exactRest_10 : decode nb_F_exactRest 10 = .ok (.getfield 110, 3) := by decide +kernel
theorem d_F_exactRest_13 : decode nb_F_exactRest 13 = .ok (.invokestatic 193, 3) := by decide +kernel
theorem d_F_exactRest_16 : decode nb_F_exactRest 16 = .ok (.lstore 6, 2) := by decide +kernel
theorem d_F_exactRest_18 : decode nb_F_exactRest 18 = .ok (.aload_n 2, 1) := by decide +kernel
theorem d_F_exactRest_19 : decode nb_F_exactRest 19 = .ok (.getfield 176, 3) := by decide +kernel
theorem d_F_exactRest_22 : decode nb_F_exactRest 22 = .ok (.aload_n 1, 1) := by decide +kernel
theorem d_F_exactRest_23 : decode nb_F_exactRest 23 = .ok (.getfield 176, 3) := by decide +kernel
theorem d_F_exactRest_26 : decode nb_F_exactRest 26 = .ok (.isub, 1) := by decide +kernel
theorem d_F_exactRest_27 : decode nb_F_exactRest 27 = .ok (.istore 8, 2) := by decide +kernel
theorem d_F_exactRest_29 : decode nb_F_exactRest 29 = .ok (.iload 8, 2) := by decide +kernel
theorem d_F_exactRest_31 : decode nb_F_exactRest 31 = .ok (.ifCond .lt 21, 3) := by decide +kernel
theorem d_F_exactRest_34 : decode nb_F_exactRest 34 = .ok (.aload_n 0, 1) := by decide +kernel
theorem d_F_exactRest_35 : decode nb_F_exactRest 35 = .ok (.getfield 56, 3) := by decide +kernel
theorem d_F_exactRest_38 : decode nb_F_exactRest 38 = .ok (.lload 4, 2) := by decide +kernel
theorem d_F_exactRest_40 : decode nb_F_exactRest 40 = .ok (.iload 8, 2) := by decide +kernel
theorem d_F_exactRest_42 : decode nb_F_exactRest 42 = .ok (.lload 6, 2) := by decide +kernel
theorem d_F_exactRest_44 : decode nb_F_exactRest 44 = .ok (.invokevirtual 378, 3) := by decide +kernel
theorem d_F_exactRest_47 : decode nb_F_exactRest 47 = .ok (.lstore 9, 2) := by decide +kernel
theorem d_F_exactRest_49 : decode nb_F_exactRest 49 = .ok (.goto 43, 3) := by decide +kernel
theorem d_F_exactRest_52 : decode nb_F_exactRest 52 = .ok (.lload 6, 2) := by decide +kernel
theorem d_F_exactRest_54 : decode nb_F_exactRest 54 = .ok (.lload 4, 2) := by decide +kernel
theorem d_F_exactRest_56 : decode nb_F_exactRest 56 = .ok (.iload 8, 2) := by decide +kernel
theorem d_F_exactRest_58 : decode nb_F_exactRest 58 = .ok (.ineg, 1) := by decide +kernel
theorem d_F_exactRest_59 : decode nb_F_exactRest 59 = .ok (.invokestatic 275, 3) := by decide +kernel
theorem d_F_exactRest_62 : decode nb_F_exactRest 62 = .ok (.invokestatic 260, 3) := by decide +kernel
theorem d_F_exactRest_65 : decode nb_F_exactRest 65 = .ok (.lcmp, 1) := by decide +kernel
theorem d_F_exactRest_66 : decode nb_F_exactRest 66 = .ok (.ifCond .le 10, 3) := by decide +kernel
theorem d_F_exactRest_69 : decode nb_F_exactRest 69 = .ok (.lload 4, 2) := by decide +kernel
theorem d_F_exactRest_71 : decode nb_F_exactRest 71 = .ok (.lstore 9, 2) := by decide +kernel
theorem d_F_exactRest_73 : decode nb_F_exactRest 73 = .ok (.goto 19, 3) := by decide +kernel
theorem d_F_exactRest_76 : decode nb_F_exactRest 76 = .ok (.lload 4, 2) := by decide +kernel
theorem d_F_exactRest_78 : decode nb_F_exactRest 78 = .ok (.lload 6, 2) := by decide +kernel
theorem d_F_exactRest_80 : decode nb_F_exactRest 80 = .ok (.iload 8, 2) := by decide +kernel
theorem d_F_exactRest_82 : decode nb_F_exactRest 82 = .ok (.ineg, 1) := by decide +kernel
theorem d_F_exactRest_83 : decode nb_F_exactRest 83 = .ok (.invokestatic 275, 3) := by decide +kernel
theorem d_F_exactRest_86 : decode nb_F_exactRest 86 = .ok (.lmul, 1) := by decide +kernel
theorem d_F_exactRest_87 : decode nb_F_exactRest 87 = .ok (.invokestatic 264, 3) := by decide +kernel
theorem d_F_exactRest_90 : decode nb_F_exactRest 90 = .ok (.lstore 9, 2) := by decide +kernel
theorem d_F_exactRest_92 : decode nb_F_exactRest 92 = .ok (.aload_n 0, 1) := by decide +kernel
theorem d_F_exactRest_93 : decode nb_F_exactRest 93 = .ok (.getfield 56, 3) := by decide +kernel
theorem d_F_exactRest_96 : decode nb_F_exactRest 96 = .ok (.lload 9, 2) := by decide +kernel
theorem d_F_exactRest_98 : decode nb_F_exactRest 98 = .ok (.invokevirtual 201, 3) := by decide +kernel
theorem d_F_exactRest_101 : decode nb_F_exactRest 101 = .ok (.aload_n 0, 1) := by decide +kernel
theorem d_F_exactRest_102 : decode nb_F_exactRest 102 = .ok (.getfield 56, 3) := by decide +kernel
theorem d_F_exactRest_105 : decode nb_F_exactRest 105 = .ok (.aload_n 0, 1) := by decide +kernel
theorem d_F_exactRest_106 : decode nb_F_exactRest 106 = .ok (.getfield 16, 3) := by decide +kernel
theorem d_F_exactRest_109 : decode nb_F_exactRest 109 = .ok (.iload_n 3, 1) := by decide +kernel
theorem d_F_exactRest_110 : decode nb_F_exactRest 110 = .ok (.aload_n 1, 1) := by decide +kernel
theorem d_F_exactRest_111 : decode nb_F_exactRest 111 = .ok (.getfield 110, 3) := by decide +kernel
theorem d_F_exactRest_114 : decode nb_F_exactRest 114 = .ok (.lconst 0, 1) := by decide +kernel
theorem d_F_exactRest_115 : decode nb_F_exactRest 115 = .ok (.lcmp, 1) := by decide +kernel
theorem d_F_exactRest_116 : decode nb_F_exactRest 116 = .ok (.ifCond .ge 7, 3) := by decide +kernel
theorem d_F_exactRest_119 : decode nb_F_exactRest 119 = .ok (.iconst 1, 1) := by decide +kernel
theorem d_F_exactRest_120 : decode nb_F_exactRest 120 = .ok (.goto 4, 3) := by decide +kernel
theorem d_F_exactRest_123 : decode nb_F_exactRest 123 = .ok (.iconst 0, 1) := by decide +kernel
theorem d_F_exactRest_124 : decode nb_F_exactRest 124 = .ok (.aload_n 1, 1) := by decide +kernel
theorem d_F_exactRest_125 : decode nb_F_exactRest 125 = .ok (.getfield 176, 3) := by decide +kernel
theorem d_F_exactRest_128 : decode nb_F_exactRest 128 = .ok (.aload_n 2, 1) := by decide +kernel
theorem d_F_exactRest_129 : decode nb_F_exactRest 129 = .ok (.getfield 176, 3) := by decide +kernel
theorem d_F_exactRest_132 : decode nb_F_exactRest 132 = .ok (.invokestatic 368, 3) := by decide +kernel
theorem d_F_exactRest_135 : decode nb_F_exactRest 135 = .ok (.invokevirtual 204, 3) := by decide +kernel
theorem d_F_exactRest_138 : decode nb_F_exactRest 138 = .ok (.return_, 1) := by decide +kernel
abbrev rm_F_exactRest : Room := ({ frames := 7, cells := 1, slots := 6, locals := 125 })
theorem w_F_exactRest_124 {post : Unit → nf_M → Prop} (hfl : l.flags = flags0) (K : nf_K p s m args meth c "NumberForge" nb_F_exactRest 11 none D a sz) : ∀ (v1 : Fin 9) (v2 : Fin 9) (xy0 : Int32) (xy1 : Int32) (vy2 : Fin 9) (M : nf_M) (H : Heap) (locs : List Loc) (ls : Array Slot), B_F_exactRest_124 post ex v1 v2 xy0 xy1 vy2 M → lv_has ls 11 [(1, .ref (a (10 + (v1 : Fin 9).val))), (2, .ref (a (10 + (v2 : Fin 9).val)))] → nf_W D a s sz H locs M → W p l e rm_F_exactRest s m args below meth c H locs 0 0 (nf_MQ below (nf_Q nf_jN D a post ex (nf_A a sz)) args s rm_F_exactRest.cells rm_F_exactRest.slots (nf_A a sz)) (F0 m 124 ls [.int xy0, .int xy1, .ref (a (10 + (vy2 : Fin 9).val)), .ref (a 9)]) := by
  have hx := K.1
  have hb := K.2.1
  intro v1 v2 xy0 xy1 vy2 M H locs ls h hl hw
  refine lv_aload_n hx hb d_F_exactRest_124 rfl (lv_at hl 0 rfl) ?_
  refine nf_getN (v := .int (mg_S M v1)) K hw (10 + (v1 : Fin 9).val) 4 2 nv_45 (nf_heV _ _ _) rfl ni_V (by decide) rfl rfl d_F_exactRest_125 ?_
  refine lv_aload_n hx hb d_F_exactRest_128 rfl (lv_at hl 1 rfl) ?_
  refine nf_getN (v := .int (mg_S M v2)) K hw (10 + (v2 : Fin 9).val) 4 2 nv_45 (nf_heV _ _ _) rfl ni_V (by decide) rfl rfl d_F_exactRest_129 ?_
  refine nf_callW (ex := (fun _ _ => False)) (As := [.int (mg_S M v1), .int (mg_S M v2)]) (st0 := [.int (mg_S M v2), .int (mg_S M v1), .int xy0, .int xy1, .ref (a (10 + (vy2 : Fin 9).val)), .ref (a 9)]) (rest := [.int xy0, .int xy1, .ref (a (10 + (vy2 : Fin 9).val)), .ref (a 9)]) K hw (nf_invS hx hb K.2.2.2.1 (nf_Kg K nw_544) (nf_Kg K nw_64) (nf_Kg K nw_4) (nf_Kg K nw_65) ⟨by decide, by decide⟩ rfl nl_JM_max rfl d_F_exactRest_132) (c_JM_max l hfl (mg_S M v1) (mg_S M v2)) nw_65 nw_4 rfl ⟨by decide, by decide⟩ (Nat.le_of_ble_eq_true rfl) hl.1 ⟨Nat.le_of_ble_eq_true rfl, Nat.le_of_ble_eq_true rfl⟩ h (fun _ _ h => h.elim) (fun r1 M2 H locs h hw => ?_)
  refine W.eq (g2 := F0 m 135 ls [.int r1, .int xy0, .int xy1, .ref (a (10 + (vy2 : Fin 9).val)), .ref (a 9)]) rfl ?_
  refine nf_callW (ex := ex) (As := [.ref (a 9), .ref (a (10 + (vy2 : Fin 9).val)), .int xy1, .int xy0, .int r1]) (st0 := [.int r1, .int xy0, .int xy1, .ref (a (10 + (vy2 : Fin 9).val)), .ref (a 9)]) (rest := []) K hw (nf_invVN hx hb K.2.2.2.1 ((nf_Kr K nv_561).use rfl) (nf_Kg K nw_563) (nf_Kg K nx_W_settle) (nf_Kg K nw_564) ⟨by decide, by decide⟩ (nf_rcv K hw 9 5 rfl rfl) rfl nl_W_settle rfl d_F_exactRest_135) (c_W_settle l hfl vy2 xy1 xy0 r1) nw_564 nw_8 rfl ⟨by decide, by decide⟩ (Nat.le_of_ble_eq_true rfl) hl.1 ⟨Nat.le_of_ble_eq_true rfl, Nat.le_of_ble_eq_true rfl⟩ h (fun _ _ h => h) (fun r3 M4 H locs h hw => ?_)
  refine W.eq (g2 := F0 m 138 ls []) rfl ?_
  refine W.widen (k := 1) (n := 6) (by decide) (by decide) ?_
  exact nf_vret K hw d_F_exactRest_138 (Nat.le_of_ble_eq_true rfl) (Nat.le_of_ble_eq_true rfl) (r := ()) rfl h
theorem w_F_exactRest_92 {post : Unit → nf_M → Prop} (hfl : l.flags = flags0) (K : nf_K p s m args meth c "NumberForge" nb_F_exactRest 11 none D a sz) : ∀ (v1 : Fin 9) (v2 : Fin 9) (x3 : Int32) (x9 : Int64) (M : nf_M) (H : Heap) (locs : List Loc) (ls : Array Slot), B_F_exactRest_92 post ex v1 v2 x3 x9 M → lv_has ls 11 [(0, .ref (a 0)), (1, .ref (a (10 + (v1 : Fin 9).val))), (2, .ref (a (10 + (v2 : Fin 9).val))), (3, .int x3), (9, .long x9)] → nf_W D a s sz H locs M → W p l e rm_F_exactRest s m args below meth c H locs 0 0 (nf_MQ below (nf_Q nf_jN D a post ex (nf_A a sz)) args s rm_F_exactRest.cells rm_F_exactRest.slots (nf_A a sz)) (F0 m 92 ls []) := by
  have hx := K.1
  have hb := K.2.1
  intro v1 v2 x3 x9 M H locs ls h hl hw
  refine lv_aload_n hx hb d_F_exactRest_92 rfl (lv_at hl 0 rfl) ?_
  refine nf_get (v := .ref (a 9)) K hw 0 6 7 nw_175 rfl rfl ni_F (by decide) rfl rfl d_F_exactRest_93 ?_
  refine lv_lload hx hb d_F_exactRest_96 (lv_at hl 4 rfl) ?_
  refine nf_callW (ex := (fun _ _ => False)) (As := [.ref (a 9), .long x9]) (st0 := [.long x9, .ref (a 9)]) (rest := []) K hw (nf_invVN hx hb K.2.2.2.1 ((nf_Kr K nv_556).use rfl) (nf_Kg K nw_558) (nf_Kg K nx_W_become) (nf_Kg K nw_559) ⟨by decide, by decide⟩ (nf_rcv K hw 9 5 rfl rfl) rfl nl_W_become rfl d_F_exactRest_98) (c_W_become l hfl x9) nw_559 nw_8 rfl ⟨by decide, by decide⟩ (Nat.le_of_ble_eq_true rfl) hl.1 ⟨Nat.le_of_ble_eq_true rfl, Nat.le_of_ble_eq_true rfl⟩ h (fun _ _ h => h.elim) (fun r1 M2 H locs h hw => ?_)
  refine W.eq (g2 := F0 m 101 ls []) rfl ?_
  refine lv_aload_n hx hb d_F_exactRest_101 rfl (lv_at hl 0 rfl) ?_
  refine nf_get (v := .ref (a 9)) K hw 0 6 7 nw_175 rfl rfl ni_F (by decide) rfl rfl d_F_exactRest_102 ?_
  refine lv_aload_n hx hb d_F_exactRest_105 rfl (lv_at hl 0 rfl) ?_
  refine nf_get (v := .ref (a (10 + ((0 : Fin 9) : Fin 9).val))) K hw 0 6 1 nw_169 rfl rfl ni_F (by decide) rfl rfl d_F_exactRest_106 ?_
  refine lv_iload_n hx hb d_F_exactRest_109 rfl (lv_at hl 3 rfl) ?_
  refine lv_aload_n hx hb d_F_exactRest_110 rfl (lv_at hl 1 rfl) ?_
  refine nf_getN (v := .long (mg_U M2 v1)) K hw (10 + (v1 : Fin 9).val) 4 1 nv_41 (nf_heV _ _ _) rfl ni_V (by decide) rfl rfl d_F_exactRest_111 ?_
  refine lv_lconst (v := (0 : Int64)) hx hb d_F_exactRest_114 (by decide) ?_
  refine nf_lc_ge hx hb d_F_exactRest_115 d_F_exactRest_116 (tgt := 123) (by decide) (fun hc => ?_) (fun hc => ?_)
  · have h := h.1 hc
    refine lv_iconst (v := (1 : Int32)) hx hb d_F_exactRest_119 (by decide) ?_
    refine lv_goto hx hb d_F_exactRest_120 (tgt := 124) (by decide) ?_
    exact w_F_exactRest_124 hfl K v1 v2 (1 : Int32) x3 (0 : Fin 9) M2 _ _ _ h (lv_sub hl [1, 2] rfl) hw
  · have h := h.2 hc
    refine lv_iconst (v := (0 : Int32)) hx hb d_F_exactRest_123 (by decide) ?_
    exact w_F_exactRest_124 hfl K v1 v2 (0 : Int32) x3 (0 : Fin 9) M2 _ _ _ h (lv_sub hl [1, 2] rfl) hw
theorem c_F_exactRest (l : Launch) (hfl : l.flags = flags0) (v1 : Fin 9) (v2 : Fin 9) (x3 : Int32) : nf_C nf_jN l nm_F_exactRest nb_F_exactRest 11 none rm_F_exactRest (fun a => [.ref (a 0), .ref (a (10 + (v1 : Fin 9).val)), .ref (a (10 + (v2 : Fin 9).val)), .int x3]) (fun M post ex => P_F_exactRest v1 v2 x3 M post ex) := by
  refine nf_start (plainFor_of_name (by decide +kernel)) (fun a => Nat.le_of_ble_eq_true rfl) ?_
  intro D a sz M post ex p e s m below meth c ls h K hl hw
  have hx := K.1
  have hb := K.2.1
  have hl : lv_has ls 11 [(0, .ref (a 0)), (1, .ref (a (10 + (v1 : Fin 9).val))), (2, .ref (a (10 + (v2 : Fin 9).val))), (3, .int x3)] := hl
  refine lv_aload_n hx hb d_F_exactRest_0 rfl (lv_at hl 1 rfl) ?_
  refine nf_getN (v := .long (mg_U M v1)) K hw (10 + (v1 : Fin 9).val) 4 1 nv_41 (nf_heV _ _ _) rfl ni_V (by decide) rfl rfl d_F_exactRest_1 ?_
  refine nf_callW (ex := (fun _ _ => False)) (As := [.long (mg_U M v1)]) (st0 := [.long (mg_U M v1)]) (rest := []) K hw (nf_invS hx hb K.2.2.2.1 (nf_Kg K nw_549) (nf_Kg K nw_550) (nf_Kg K nw_4) (nf_Kg K nw_551) ⟨by decide, by decide⟩ rfl nl_JM_abs_JJ rfl d_F_exactRest_4) (c_JM_abs_JJ l hfl (mg_U M v1)) nw_551 nw_4 rfl ⟨by decide, by decide⟩ (Nat.le_of_ble_eq_true rfl) hl.1 ⟨Nat.le_of_ble_eq_true rfl, Nat.le_of_ble_eq_true rfl⟩ h (fun _ _ h => h.elim) (fun r1 M2 H locs h hw => ?_)
  refine W.eq (g2 := F0 m 7 ls [.long r1]) rfl ?_
  refine lv_lstore (lv' := [(4, .long r1), (0, .ref (a 0)), (1, .ref (a (10 + (v1 : Fin 9).val))), (2, .ref (a (10 + (v2 : Fin 9).val))), (3, .int x3)]) hx hb d_F_exactRest_7 hl (by decide) rfl (fun ls hl => ?_)
  refine lv_aload_n hx hb d_F_exactRest_9 rfl (lv_at hl 3 rfl) ?_
  refine nf_getN (v := .long (mg_U M2 v2)) K hw (10 + (v2 : Fin 9).val) 4 1 nv_41 (nf_heV _ _ _) rfl ni_V (by decide) rfl rfl d_F_exactRest_10 ?_
  refine nf_callW (ex := (fun _ _ => False)) (As := [.long (mg_U M2 v2)]) (st0 := [.long (mg_U M2 v2)]) (rest := []) K hw (nf_invS hx hb K.2.2.2.1 (nf_Kg K nw_549) (nf_Kg K nw_550) (nf_Kg K nw_4) (nf_Kg K nw_551) ⟨by decide, by decide⟩ rfl nl_JM_abs_JJ rfl d_F_exactRest_13) (c_JM_abs_JJ l hfl (mg_U M2 v2)) nw_551 nw_4 rfl ⟨by decide, by decide⟩ (Nat.le_of_ble_eq_true rfl) hl.1 ⟨Nat.le_of_ble_eq_true rfl, Nat.le_of_ble_eq_true rfl⟩ h (fun _ _ h => h.elim) (fun r3 M4 H locs h hw => ?_)
  refine W.eq (g2 := F0 m 16 ls [.long r3]) rfl ?_
  refine lv_lstore (lv' := [(6, .long r3), (4, .long r1), (0, .ref (a 0)), (1, .ref (a (10 + (v1 : Fin 9).val))), (2, .ref (a (10 + (v2 : Fin 9).val))), (3, .int x3)]) hx hb d_F_exactRest_16 hl (by decide) rfl (fun ls hl => ?_)
  refine lv_aload_n hx hb d_F_exactRest_18 rfl (lv_at hl 4 rfl) ?_
  refine nf_getN (v := .int (mg_S M4 v2)) K hw (10 + (v2 : Fin 9).val) 4 2 nv_45 (nf_heV _ _ _) rfl ni_V (by decide) rfl rfl d_F_exactRest_19 ?_
  refine lv_aload_n hx hb d_F_exactRest_22 rfl (lv_at hl 3 rfl) ?_
  refine nf_getN (v := .int (mg_S M4 v1)) K hw (10 + (v1 : Fin 9).val) 4 2 nv_45 (nf_heV _ _ _) rfl ni_V (by decide) rfl rfl d_F_exactRest_23 ?_
  refine lv_isub hx hb d_F_exactRest_26 ?_
  refine lv_topi (fun t5 et5 => ?_)
  have h := h t5 et5
  refine lv_istore (lv' := [(8, .int t5), (6, .long r3), (4, .long r1), (0, .ref (a 0)), (1, .ref (a (10 + (v1 : Fin 9).val))), (2, .ref (a (10 + (v2 : Fin 9).val))), (3, .int x3)]) hx hb d_F_exactRest_27 hl (by decide) rfl (fun ls hl => ?_)
  refine lv_iload hx hb d_F_exactRest_29 (lv_at hl 0 rfl) ?_
  refine nf_if_lt hx hb d_F_exactRest_31 (tgt := 52) (by decide) (fun hc => ?_) (fun hc => ?_)
  · have h := h.1 hc
    refine lv_lload hx hb d_F_exactRest_52 (lv_at hl 1 rfl) ?_
    refine lv_lload hx hb d_F_exactRest_54 (lv_at hl 2 rfl) ?_
    refine lv_iload hx hb d_F_exactRest_56 (lv_at hl 0 rfl) ?_
    refine lv_ineg hx hb d_F_exactRest_58 ?_
    refine nf_callW (ex := (fun _ _ => False)) (As := [.int (-t5)]) (st0 := [.int (-t5), .long r1, .long r3]) (rest := [.long r1, .long r3]) K hw (nf_invS hx hb K.2.2.2.1 (nf_Kg K nw_548) (nf_Kg K nw_352) (nf_Kg K nw_1) (nf_Kg K nw_353) ⟨by decide, by decide⟩ rfl nl_F_power rfl d_F_exactRest_59) (c_F_power l hfl (-t5)) nw_353 nw_1 rfl ⟨by decide, by decide⟩ (Nat.le_of_ble_eq_true rfl) hl.1 ⟨Nat.le_of_ble_eq_true rfl, Nat.le_of_ble_eq_true rfl⟩ h (fun _ _ h => h.elim) (fun r6 M7 H locs h hw => ?_)
    refine W.eq (g2 := F0 m 62 ls [.long r6, .long r1, .long r3]) rfl ?_
    refine nf_callW (ex := (fun _ _ => False)) (As := [.long r1, .long r6]) (st0 := [.long r6, .long r1, .long r3]) (rest := [.long r3]) K hw (nf_invS hx hb K.2.2.2.1 (nf_Kg K nw_553) (nf_Kg K nw_554) (nf_Kg K nw_1) (nf_Kg K nw_555) ⟨by decide, by decide⟩ rfl nl_F_over rfl d_F_exactRest_62) (c_F_over l hfl r1 r6) nw_555 nw_1 rfl ⟨by decide, by decide⟩ (Nat.le_of_ble_eq_true rfl) hl.1 ⟨Nat.le_of_ble_eq_true rfl, Nat.le_of_ble_eq_true rfl⟩ h (fun _ _ h => h.elim) (fun r8 M9 H locs h hw => ?_)
    refine W.eq (g2 := F0 m 65 ls [.long r8, .long r3]) rfl ?_
    refine nf_lc_le hx hb d_F_exactRest_65 d_F_exactRest_66 (tgt := 76) (by decide) (fun hc => ?_) (fun hc => ?_)
    · have h := h.1 hc
      refine lv_lload hx hb d_F_exactRest_69 (lv_at hl 2 rfl) ?_
      refine lv_lstore (lv' := [(9, .long r1), (8, .int t5), (6, .long r3), (4, .long r1), (0, .ref (a 0)), (1, .ref (a (10 + (v1 : Fin 9).val))), (2, .ref (a (10 + (v2 : Fin 9).val))), (3, .int x3)]) hx hb d_F_exactRest_71 hl (by decide) rfl (fun ls hl => ?_)
      refine lv_goto hx hb d_F_exactRest_73 (tgt := 92) (by decide) ?_
      exact w_F_exactRest_92 hfl K v1 v2 x3 r1 M9 _ _ _ h (lv_sub hl [4, 5, 6, 7, 0] rfl) hw
    · have h := h.2 hc
      refine lv_lload hx hb d_F_exactRest_76 (lv_at hl 2 rfl) ?_
      refine lv_lload hx hb d_F_exactRest_78 (lv_at hl 1 rfl) ?_
      refine lv_iload hx hb d_F_exactRest_80 (lv_at hl 0 rfl) ?_
      refine lv_ineg hx hb d_F_exactRest_82 ?_
      refine nf_callW (ex := (fun _ _ => False)) (As := [.int (-t5)]) (st0 := [.int (-t5), .long r3, .long r1]) (rest := [.long r3, .long r1]) K hw (nf_invS hx hb K.2.2.2.1 (nf_Kg K nw_548) (nf_Kg K nw_352) (nf_Kg K nw_1) (nf_Kg K nw_353) ⟨by decide, by decide⟩ rfl nl_F_power rfl d_F_exactRest_83) (c_F_power l hfl (-t5)) nw_353 nw_1 rfl ⟨by decide, by decide⟩ (Nat.le_of_ble_eq_true rfl) hl.1 ⟨Nat.le_of_ble_eq_true rfl, Nat.le_of_ble_eq_true rfl⟩ h (fun _ _ h => h.elim) (fun r10 M11 H locs h hw => ?_)
      refine W.eq (g2 := F0 m 86 ls [.long r10, .long r3, .long r1]) rfl ?_
      refine lv_lmul hx hb d_F_exactRest_86 ?_
      refine nf_callW (ex := (fun _ _ => False)) (As := [.long r1, .long (r3 * r10)]) (st0 := [.long (r3 * r10), .long r1]) (rest := []) K hw (nf_invS hx hb K.2.2.2.1 (nf_Kg K nw_628) (nf_Kg K nw_581) (nf_Kg K nw_1) (nf_Kg K nw_582) ⟨by decide, by decide⟩ rfl nl_F_left rfl d_F_exactRest_87) (c_F_left l hfl r1 (r3 * r10)) nw_582 nw_1 rfl ⟨by decide, by decide⟩ (Nat.le_of_ble_eq_true rfl) hl.1 ⟨Nat.le_of_ble_eq_true rfl, Nat.le_of_ble_eq_true rfl⟩ h (fun _ _ h => h.elim) (fun r12 M13 H locs h hw => ?_)
      refine W.eq (g2 := F0 m 90 ls [.long r12]) rfl ?_
      refine lv_lstore (lv' := [(9, .long r12), (8, .int t5), (6, .long r3), (4, .long r1), (0, .ref (a 0)), (1, .ref (a (10 + (v1 : Fin 9).val))), (2, .ref (a (10 + (v2 : Fin 9).val))), (3, .int x3)]) hx hb d_F_exactRest_90 hl (by decide) rfl (fun ls hl => ?_)
      exact w_F_exactRest_92 hfl K v1 v2 x3 r12 M13 _ _ _ h (lv_sub hl [4, 5, 6, 7, 0] rfl) hw
  · have h := h.2 hc
    refine lv_aload_n hx hb d_F_exactRest_34 rfl (lv_at hl 3 rfl) ?_
    refine nf_get (v := .ref (a 9)) K hw 0 6 7 nw_175 rfl rfl ni_F (by decide) rfl rfl d_F_exactRest_35 ?_
    refine lv_lload hx hb d_F_exactRest_38 (lv_at hl 2 rfl) ?_
    refine lv_iload hx hb d_F_exactRest_40 (lv_at hl 0 rfl) ?_
    refine lv_lload hx hb d_F_exactRest_42 (lv_at hl 1 rfl) ?_
    refine nf_callW (ex := (fun _ _ => False)) (As := [.ref (a 9), .long r1, .int t5, .long r3]) (st0 := [.long r3, .int t5, .long r1, .ref (a 9)]) (rest := []) K hw (nf_invVN hx hb K.2.2.2.1 ((nf_Kr K nv_608).use rfl) (nf_Kg K nw_610) (nf_Kg K nx_W_becomeQuotient) (nf_Kg K nw_611) ⟨by decide, by decide⟩ (nf_rcv K hw 9 5 rfl rfl) rfl nl_W_becomeQuotient rfl d_F_exactRest_44) (c_W_becomeQuotient l hfl r1 t5 r3) nw_611 nw_8 rfl ⟨by decide, by decide⟩ (Nat.le_of_ble_eq_true rfl) hl.1 ⟨Nat.le_of_ble_eq_true rfl, Nat.le_of_ble_eq_true rfl⟩ h (fun _ _ h => h.elim) (fun r14 M15 H locs h hw => ?_)
    refine W.eq (g2 := F0 m 47 ls [.long r14]) rfl ?_
    refine lv_lstore (lv' := [(9, .long r14), (8, .int t5), (6, .long r3), (4, .long r1), (0, .ref (a 0)), (1, .ref (a (10 + (v1 : Fin 9).val))), (2, .ref (a (10 + (v2 : Fin 9).val))), (3, .int x3)]) hx hb d_F_exactRest_47 hl (by decide) rfl (fun ls hl => ?_)
    refine lv_goto hx hb d_F_exactRest_49 (tgt := 92) (by decide) ?_
    exact w_F_exactRest_92 hfl K v1 v2 x3 r14 M15 _ _ _ h (lv_sub hl [4, 5, 6, 7, 0] rfl) hw
theorem d_F_reckonUnits_0 : decode nb_F_reckonUnits 0 = .ok (.aload_n 2, 1) := by decide +kernel
theorem d_F_reckonUnits_1 : decode nb_F_reckonUnits 1 = .ok (.getfield 135, 3) := by decide +kernel
theorem d_F_reckonUnits_4 : decode nb_F_reckonUnits 4 = .ok (.ifCond .eq 10, 3) := by decide +kernel
theorem d_F_reckonUnits_7 : decode nb_F_reckonUnits 7 = .ok (.aload_n 3, 1) := by decide +kernel
theorem d_F_reckonUnits_8 : decode nb_F_reckonUnits 8 = .ok (.getfield 135, 3) := by decide +kernel
theorem d_F_reckonUnits_11 : decode nb_F_reckonUnits 11 = .ok (.ifCond .ne 7, 3) := by decide +kernel
theorem d_F_reckonUnits_14 : decode nb_F_reckonUnits 14 = .ok (.iconst 0, 1) := by decide +kernel
theorem d_F_reckonUnits_15 : decode nb_F_reckonUnits 15 = .ok (.goto 4, 3) := by decide +kernel
theorem d_F_reckonUnits_18 : decode nb_F_reckonUnits 18 = .ok (.iconst 1, 1) := by decide +kernel
theorem d_F_reckonUnits_19 : decode nb_F_reckonUnits 19 = .ok (.istore 4, 2) := by decide +kernel
theorem d_F_reckonUnits_21 : decode nb_F_reckonUnits 21 = .ok (.iload_n 1, 1) := by decide +kernel
theorem d_F_reckonUnits_22 : decode nb_F_reckonUnits 22 = .ok (.iconst 3, 1) := by decide +kernel
theorem d_F_reckonUnits_23 : decode nb_F_reckonUnits 23 = .ok (.if_icmp .lt 23, 3) := by decide +kernel
theorem d_F_reckonUnits_26 : decode nb_F_reckonUnits 26 = .ok (.aload_n 3, 1) := by decide +kernel
theorem d_F_reckonUnits_27 : decode nb_F_reckonUnits 27 = .ok (.getfield 110, 3) := by decide +kernel
theorem d_F_reckonUnits_30 : decode nb_F_reckonUnits 30 = .ok (.lconst 0, 1) := by decide +kernel
theorem d_F_reckonUnits_31 : decode nb_F_reckonUnits 31 = .ok (.lcmp, 1) := by decide +kernel
theorem d_F_reckonUnits_32 : decode nb_F_reckonUnits 32 = .ok (.ifCond .ne 14, 3) := by decide +kernel
theorem d_F_reckonUnits_35 : decode nb_F_reckonUnits 35 = .ok (.new 305, 3) := by decide +kernel
theorem d_F_reckonUnits_38 : decode nb_F_reckonUnits 38 = .ok (.dup, 1) := by decide +kernel
theorem d_F_reckonUnits_39 : decode nb_F_reckonUnits 39 = .ok (.ldc_w 343, 3) := by decide +kernel
theorem d_F_reckonUnits_42 : decode nb_F_reckonUnits 42 = .ok (.invokespecial 309, 3) := by decide +kernel
theorem d_F_reckonUnits_45 : decode nb_F_reckonUnits 45 = .ok (.athrow, 1) := by decide +kernel
theorem d_F_reckonUnits_46 : decode nb_F_reckonUnits 46 = .ok (.iload_n 1, 1) := by decide +kernel
theorem d_F_reckonUnits_47 : decode nb_F_reckonUnits 47 = .ok (.tableswitch 133 0 4 #[33, 48, 64, 115, 124], 33) := by decide +kernel
theorem d_F_reckonUnits_80 : decode nb_F_reckonUnits 80 = .ok (.aload_n 0, 1) := by decide +kernel
theorem d_F_reckonUnits_81 : decode nb_F_reckonUnits 81 = .ok (.aload_n 2, 1) := by decide +kernel
theorem d_F_reckonUnits_82 : decode nb_F_reckonUnits 82 = .ok (.aload_n 3, 1) := by decide +kernel
theorem d_F_reckonUnits_83 : decode nb_F_reckonUnits 83 = .ok (.aload_n 3, 1) := by decide +kernel
theorem d_F_reckonUnits_84 : decode nb_F_reckonUnits 84 = .ok (.getfield 110, 3) := by decide +kernel
theorem d_F_reckonUnits_87 : decode nb_F_reckonUnits 87 = .ok (.iload 4, 2) := by decide +kernel
theorem d_F_reckonUnits_89 : decode nb_F_reckonUnits 89 = .ok (.invokevirtual 345, 3) := by decide +kernel
theorem d_F_reckonUnits_92 : decode nb_F_reckonUnits 92 = .ok (.goto 96, 3) := by decide +kernel
theorem d_F_reckonUnits_95 : decode nb_F_reckonUnits 95 = .ok (.aload_n 0, 1) := by decide +kernel
theorem d_F_reckonUnits_96 : decode nb_F_reckonUnits 96 = .ok (.aload_n 2, 1) := by decide +kernel
theorem d_F_reckonUnits_97 : decode nb_F_reckonUnits 97 = .ok (.aload_n 3, 1) := by decide +kernel
theorem d_F_reckonUnits_98 : decode nb_F_reckonUnits 98 = .ok (.aload_n 3, 1) := by decide +kernel
theorem d_F_reckonUnits_99 : decode nb_F_reckonUnits 99 = .ok (.getfield 110, 3) := by decide +kernel
theorem d_F_reckonUnits_102 : decode nb_F_reckonUnits 102 = .ok (.lneg, 1) := by decide +kernel
theorem d_F_reckonUnits_103 : decode nb_F_reckonUnits 103 = .ok (.iload 4, 2) := by decide +kernel
theorem d_F_reckonUnits_105 : decode nb_F_reckonUnits 105 = .ok (.invokevirtual 345, 3) := by decide +kernel
theorem d_F_reckonUnits_108 : decode nb_F_reckonUnits 108 = .ok (.goto 80, 3) := by decide +kernel
theorem d_F_reckonUnits_111 : decode nb_F_reckonUnits 111 = .ok (.aload_n 0, 1) := by decide +kernel
theorem d_F_reckonUnits_112 : decode nb_F_reckonUnits 112 = .ok (.getfield 56, 3) := by decide +kernel
theorem d_F_reckonUnits_115 : decode nb_F_reckonUnits 115 = .ok (.aload_n 2, 1) := by decide +kernel
theorem d_F_reckonUnits_116 : decode nb_F_reckonUnits 116 = .ok (.getfield 110, 3) := by decide +kernel
theorem d_F_reckonUnits_119 : decode nb_F_reckonUnits 119 = .ok (.invokestatic 193, 3) := by decide +kernel
theorem d_F_reckonUnits_122 : decode nb_F_reckonUnits 122 = .ok (.aload_n 3, 1) := by decide +kernel
theorem d_F_reckonUnits_123 : decode nb_F_reckonUnits 123 = .ok (.getfield 110, 3) := by decide +kernel
theorem d_F_reckonUnits_126 : decode nb_F_reckonUnits 126 = .ok (.invokestatic 193, 3) := by decide +kernel
theorem d_F_reckonUnits_129 : decode nb_F_reckonUnits 129 = .ok (.invokevirtual 349, 3) := by decide +kernel
theorem d_F_reckonUnits_132 : decode nb_F_reckonUnits 132 = .ok (.aload_n 0, 1) := by decide +kernel
theorem d_F_reckonUnits_133 : decode nb_F_reckonUnits 133 = .ok (.getfield 56, 3) := by decide +kernel
theorem d_F_reckonUnits_136 : decode nb_F_reckonUnits 136 = .ok (.aload_n 0, 1) := by decide +kernel
theorem d_F_reckonUnits_137 : decode nb_F_reckonUnits 137 = .ok (.getfield 16, 3) := by decide +kernel
theorem d_F_reckonUnits_140 : decode nb_F_reckonUnits 140 = .ok (.iload 4, 2) := by decide +kernel
theorem d_F_reckonUnits_142 : decode nb_F_reckonUnits 142 = .ok (.aload_n 2, 1) := by decide +kernel
theorem d_F_reckonUnits_143 : decode nb_F_reckonUnits 143 = .ok (.aload_n 3, 1) := by decide +kernel
theorem d_F_reckonUnits_144 : decode nb_F_reckonUnits 144 = .ok (.invokestatic 353, 3) := by decide +kernel
theorem d_F_reckonUnits_147 : decode nb_F_reckonUnits 147 = .ok (.aload_n 2, 1) := by decide +kernel
theorem d_F_reckonUnits_148 : decode nb_F_reckonUnits 148 = .ok (.getfield 176, 3) := by decide +kernel
theorem d_F_reckonUnits_151 : decode nb_F_reckonUnits 151 = .ok (.aload_n 3, 1) := by decide +kernel
theorem d_F_reckonUnits_152 : decode nb_F_reckonUnits 152 = .ok (.getfield 176, 3) := by decide +kernel
theorem d_F_reckonUnits_155 : decode nb_F_reckonUnits 155 = .ok (.iadd, 1) := by decide +kernel
theorem d_F_reckonUnits_156 : decode nb_F_reckonUnits 156 = .ok (.invokevirtual 204, 3) := by decide +kernel
theorem d_F_reckonUnits_159 : decode nb_F_reckonUnits 159 = .ok (.goto 29, 3) := by decide +kernel
theorem d_F_reckonUnits_162 : decode nb_F_reckonUnits 162 = .ok (.aload_n 0, 1) := by decide +kernel
theorem d_F_reckonUnits_163 : decode nb_F_reckonUnits 163 = .ok (.aload_n 2, 1) := by decide +kernel
theorem d_F_reckonUnits_164 : decode nb_F_reckonUnits 164 = .ok (.aload_n 3, 1) := by decide +kernel
theorem d_F_reckonUnits_165 : decode nb_F_reckonUnits 165 = .ok (.invokevirtual 357, 3) := by decide +kernel
theorem d_F_reckonUnits_168 : decode nb_F_reckonUnits 168 = .ok (.goto 20, 3) := by decide +kernel
theorem d_F_reckonUnits_171 : decode nb_F_reckonUnits 171 = .ok (.aload_n 0, 1) := by decide +kernel
theorem d_F_reckonUnits_172 : decode nb_F_reckonUnits 172 = .ok (.aload_n 2, 1) := by decide +kernel
theorem d_F_reckonUnits_173 : decode nb_F_reckonUnits 173 = .ok (.aload_n 3, 1) := by decide +kernel
theorem d_F_reckonUnits_174 : decode nb_F_reckonUnits 174 = .ok (.invokevirtual 361, 3) := by decide +kernel
theorem d_F_reckonUnits_177 : decode nb_F_reckonUnits 177 = .ok (.goto 11, 3) := by decide +kernel
theorem d_F_reckonUnits_180 : decode nb_F_reckonUnits 180 = .ok (.aload_n 0, 1) := by decide +kernel
theorem d_F_reckonUnits_181 : decode nb_F_reckonUnits 181 = .ok (.aload_n 2, 1) := by decide +kernel
theorem d_F_reckonUnits_182 : decode nb_F_reckonUnits 182 = .ok (.aload_n 3, 1) := by decide +kernel
theorem d_F_reckonUnits_183 : decode nb_F_reckonUnits 183 = .ok (.iload 4, 2) := by decide +kernel
theorem d_F_reckonUnits_185 : decode nb_F_reckonUnits 185 = .ok (.invokevirtual 364, 3) := by decide +kernel
theorem d_F_reckonUnits_188 : decode nb_F_reckonUnits 188 = .ok (.return_, 1) := by decide +kernel
abbrev rm_F_reckonUnits : Room := ({ frames := 8, cells := 3, slots := 18, locals := 155 })
theorem w_F_reckonUnits_188 {post : Unit → nf_M → Prop} (hfl : l.flags = flags0) (K : nf_K p s m args meth c "NumberForge" nb_F_reckonUnits 5 none D a sz) : ∀ (M : nf_M) (H : Heap) (locs : List Loc) (ls : Array Slot), B_F_reckonUnits_188 post ex  M → lv_has ls 5 [] → nf_W D a s sz H locs M → W p l e rm_F_reckonUnits s m args below meth c H locs 3 18 (nf_MQ below (nf_Q nf_jN D a post ex (nf_A a sz)) args s rm_F_reckonUnits.cells rm_F_reckonUnits.slots (nf_A a sz)) (F0 m 188 ls []) := by
  have hx := K.1
  have hb := K.2.1
  intro  M H locs ls h hl hw
  exact nf_vret K hw d_F_reckonUnits_188 (Nat.le_of_ble_eq_true rfl) (Nat.le_of_ble_eq_true rfl) (r := ()) rfl h
theorem w_F_reckonUnits_46 {post : Unit → nf_M → Prop} (hfl : l.flags = flags0) (K : nf_K p s m args meth c "NumberForge" nb_F_reckonUnits 5 none D a sz) : ∀ (x1 : Int32) (v2 : Fin 9) (v3 : Fin 9) (x4 : Int32) (M : nf_M) (H : Heap) (locs : List Loc) (ls : Array Slot), B_F_reckonUnits_46 post ex x1 v2 v3 x4 M → lv_has ls 5 [(0, .ref (a 0)), (1, .int x1), (2, .ref (a (10 + (v2 : Fin 9).val))), (3, .ref (a (10 + (v3 : Fin 9).val))), (4, .int x4)] → nf_W D a s sz H locs M → W p l e rm_F_reckonUnits s m args below meth c H locs 0 0 (nf_MQ below (nf_Q nf_jN D a post ex (nf_A a sz)) args s rm_F_reckonUnits.cells rm_F_reckonUnits.slots (nf_A a sz)) (F0 m 46 ls []) := by
  have hx := K.1
  have hb := K.2.1
  intro x1 v2 v3 x4 M H locs ls h hl hw
  refine lv_iload_n hx hb d_F_reckonUnits_46 rfl (lv_at hl 1 rfl) ?_
  by_cases hc : x1 = (0 : Int32)
  · have h := h.1 hc
    refine lv_tableIn hx hb d_F_reckonUnits_47 (by rw [hc]; decide) (by rw [hc]; decide) (off := 33) (by rw [hc]; rfl) (tgt := 80) (by decide) ?_
    refine lv_aload_n hx hb d_F_reckonUnits_80 rfl (lv_at hl 0 rfl) ?_
    refine lv_aload_n hx hb d_F_reckonUnits_81 rfl (lv_at hl 2 rfl) ?_
    refine lv_aload_n hx hb d_F_reckonUnits_82 rfl (lv_at hl 3 rfl) ?_
    refine lv_aload_n hx hb d_F_reckonUnits_83 rfl (lv_at hl 3 rfl) ?_
    refine nf_getN (v := .long (mg_U M v3)) K hw (10 + (v3 : Fin 9).val) 4 1 nv_41 (nf_heV _ _ _) rfl ni_V (by decide) rfl rfl d_F_reckonUnits_84 ?_
    refine lv_iload hx hb d_F_reckonUnits_87 (lv_at hl 4 rfl) ?_
    refine nf_callW (ex := ex) (As := [.ref (a 0), .ref (a (10 + (v2 : Fin 9).val)), .ref (a (10 + (v3 : Fin 9).val)), .long (mg_U M v3), .int x4]) (st0 := [.int x4, .long (mg_U M v3), .ref (a (10 + (v3 : Fin 9).val)), .ref (a (10 + (v2 : Fin 9).val)), .ref (a 0)]) (rest := []) K hw (nf_invV hx hb K.2.2.2.1 (nf_Kg K nw_540) (nf_Kg K nw_542) (nf_Kg K nx_F_exactSum) (nf_Kg K nw_543) ⟨by decide, by decide⟩ (nf_rcv K hw 0 6 rfl rfl) rfl nl_F_exactSum rfl d_F_reckonUnits_89) (c_F_exactSum l hfl v2 v3 (mg_U M v3) x4) nw_543 nw_1 rfl ⟨by decide, by decide⟩ (Nat.le_of_ble_eq_true rfl) hl.1 ⟨Nat.le_of_ble_eq_true rfl, Nat.le_of_ble_eq_true rfl⟩ h (fun _ _ h => h) (fun r1 M2 H locs h hw => ?_)
    refine W.eq (g2 := F0 m 92 ls []) rfl ?_
    refine W.widen (k := 3) (n := 18) (by decide) (by decide) ?_
    refine lv_goto hx hb d_F_reckonUnits_92 (tgt := 188) (by decide) ?_
    exact w_F_reckonUnits_188 hfl K  M2 _ _ _ h (lv_sub hl [] rfl) hw
  have h := h.2 hc
  have q3 := nf_ne hc (k := 0) (by decide)
  clear hc
  by_cases hc : x1 = (1 : Int32)
  · have h := h.1 hc
    refine lv_tableIn hx hb d_F_reckonUnits_47 (by rw [hc]; decide) (by rw [hc]; decide) (off := 48) (by rw [hc]; rfl) (tgt := 95) (by decide) ?_
    refine lv_aload_n hx hb d_F_reckonUnits_95 rfl (lv_at hl 0 rfl) ?_
    refine lv_aload_n hx hb d_F_reckonUnits_96 rfl (lv_at hl 2 rfl) ?_
    refine lv_aload_n hx hb d_F_reckonUnits_97 rfl (lv_at hl 3 rfl) ?_
    refine lv_aload_n hx hb d_F_reckonUnits_98 rfl (lv_at hl 3 rfl) ?_
    refine nf_getN (v := .long (mg_U M v3)) K hw (10 + (v3 : Fin 9).val) 4 1 nv_41 (nf_heV _ _ _) rfl ni_V (by decide) rfl rfl d_F_reckonUnits_99 ?_
    refine lv_lneg hx hb d_F_reckonUnits_102 ?_
    refine lv_iload hx hb d_F_reckonUnits_103 (lv_at hl 4 rfl) ?_
    refine nf_callW (ex := ex) (As := [.ref (a 0), .ref (a (10 + (v2 : Fin 9).val)), .ref (a (10 + (v3 : Fin 9).val)), .long (-(mg_U M v3)), .int x4]) (st0 := [.int x4, .long (-(mg_U M v3)), .ref (a (10 + (v3 : Fin 9).val)), .ref (a (10 + (v2 : Fin 9).val)), .ref (a 0)]) (rest := []) K hw (nf_invV hx hb K.2.2.2.1 (nf_Kg K nw_540) (nf_Kg K nw_542) (nf_Kg K nx_F_exactSum) (nf_Kg K nw_543) ⟨by decide, by decide⟩ (nf_rcv K hw 0 6 rfl rfl) rfl nl_F_exactSum rfl d_F_reckonUnits_105) (c_F_exactSum l hfl v2 v3 (-(mg_U M v3)) x4) nw_543 nw_1 rfl ⟨by decide, by decide⟩ (Nat.le_of_ble_eq_true rfl) hl.1 ⟨Nat.le_of_ble_eq_true rfl, Nat.le_of_ble_eq_true rfl⟩ h (fun _ _ h => h) (fun r4 M5 H locs h hw => ?_)
    refine W.eq (g2 := F0 m 108 ls []) rfl ?_
    refine W.widen (k := 3) (n := 18) (by decide) (by decide) ?_
    refine lv_goto hx hb d_F_reckonUnits_108 (tgt := 188) (by decide) ?_
    exact w_F_reckonUnits_188 hfl K  M5 _ _ _ h (lv_sub hl [] rfl) hw
  have h := h.2 hc
  have q6 := nf_ne hc (k := 1) (by decide)
  clear hc
  by_cases hc : x1 = (2 : Int32)
  · have h := h.1 hc
    refine lv_tableIn hx hb d_F_reckonUnits_47 (by rw [hc]; decide) (by rw [hc]; decide) (off := 64) (by rw [hc]; rfl) (tgt := 111) (by decide) ?_
    refine lv_aload_n hx hb d_F_reckonUnits_111 rfl (lv_at hl 0 rfl) ?_
    refine nf_get (v := .ref (a 9)) K hw 0 6 7 nw_175 rfl rfl ni_F (by decide) rfl rfl d_F_reckonUnits_112 ?_
    refine lv_aload_n hx hb d_F_reckonUnits_115 rfl (lv_at hl 2 rfl) ?_
    refine nf_getN (v := .long (mg_U M v2)) K hw (10 + (v2 : Fin 9).val) 4 1 nv_41 (nf_heV _ _ _) rfl ni_V (by decide) rfl rfl d_F_reckonUnits_116 ?_
    refine nf_callW (ex := (fun _ _ => False)) (As := [.long (mg_U M v2)]) (st0 := [.long (mg_U M v2), .ref (a 9)]) (rest := [.ref (a 9)]) K hw (nf_invS hx hb K.2.2.2.1 (nf_Kg K nw_549) (nf_Kg K nw_550) (nf_Kg K nw_4) (nf_Kg K nw_551) ⟨by decide, by decide⟩ rfl nl_JM_abs_JJ rfl d_F_reckonUnits_119) (c_JM_abs_JJ l hfl (mg_U M v2)) nw_551 nw_4 rfl ⟨by decide, by decide⟩ (Nat.le_of_ble_eq_true rfl) hl.1 ⟨Nat.le_of_ble_eq_true rfl, Nat.le_of_ble_eq_true rfl⟩ h (fun _ _ h => h.elim) (fun r7 M8 H locs h hw => ?_)
    refine W.eq (g2 := F0 m 122 ls [.long r7, .ref (a 9)]) rfl ?_
    refine lv_aload_n hx hb d_F_reckonUnits_122 rfl (lv_at hl 3 rfl) ?_
    refine nf_getN (v := .long (mg_U M8 v3)) K hw (10 + (v3 : Fin 9).val) 4 1 nv_41 (nf_heV _ _ _) rfl ni_V (by decide) rfl rfl d_F_reckonUnits_123 ?_
    refine nf_callW (ex := (fun _ _ => False)) (As := [.long (mg_U M8 v3)]) (st0 := [.long (mg_U M8 v3), .long r7, .ref (a 9)]) (rest := [.long r7, .ref (a 9)]) K hw (nf_invS hx hb K.2.2.2.1 (nf_Kg K nw_549) (nf_Kg K nw_550) (nf_Kg K nw_4) (nf_Kg K nw_551) ⟨by decide, by decide⟩ rfl nl_JM_abs_JJ rfl d_F_reckonUnits_126) (c_JM_abs_JJ l hfl (mg_U M8 v3)) nw_551 nw_4 rfl ⟨by decide, by decide⟩ (Nat.le_of_ble_eq_true rfl) hl.1 ⟨Nat.le_of_ble_eq_true rfl, Nat.le_of_ble_eq_true rfl⟩ h (fun _ _ h => h.elim) (fun r9 M10 H locs h hw => ?_)
    refine W.eq (g2 := F0 m 129 ls [.long r9, .long r7, .ref (a 9)]) rfl ?_
    refine nf_callW (ex := (fun _ _ => False)) (As := [.ref (a 9), .long r7, .long r9]) (st0 := [.long r9, .long r7, .ref (a 9)]) (rest := []) K hw (nf_invVN hx hb K.2.2.2.1 ((nf_Kr K nv_595).use rfl) (nf_Kg K nw_597) (nf_Kg K nx_W_becomeProduct) (nf_Kg K nw_598) ⟨by decide, by decide⟩ (nf_rcv K hw 9 5 rfl rfl) rfl nl_W_becomeProduct rfl d_F_reckonUnits_129) (c_W_becomeProduct l hfl r7 r9) nw_598 nw_8 rfl ⟨by decide, by decide⟩ (Nat.le_of_ble_eq_true rfl) hl.1 ⟨Nat.le_of_ble_eq_true rfl, Nat.le_of_ble_eq_true rfl⟩ h (fun _ _ h => h.elim) (fun r11 M12 H locs h hw => ?_)
    refine W.eq (g2 := F0 m 132 ls []) rfl ?_
    refine lv_aload_n hx hb d_F_reckonUnits_132 rfl (lv_at hl 0 rfl) ?_
    refine nf_get (v := .ref (a 9)) K hw 0 6 7 nw_175 rfl rfl ni_F (by decide) rfl rfl d_F_reckonUnits_133 ?_
    refine lv_aload_n hx hb d_F_reckonUnits_136 rfl (lv_at hl 0 rfl) ?_
    refine nf_get (v := .ref (a (10 + ((0 : Fin 9) : Fin 9).val))) K hw 0 6 1 nw_169 rfl rfl ni_F (by decide) rfl rfl d_F_reckonUnits_137 ?_
    refine lv_iload hx hb d_F_reckonUnits_140 (lv_at hl 4 rfl) ?_
    refine lv_aload_n hx hb d_F_reckonUnits_142 rfl (lv_at hl 2 rfl) ?_
    refine lv_aload_n hx hb d_F_reckonUnits_143 rfl (lv_at hl 3 rfl) ?_
    refine nf_callW (ex := (fun _ _ => False)) (As := [.ref (a (10 + (v2 : Fin 9).val)), .ref (a (10 + (v3 : Fin 9).val))]) (st0 := [.ref (a (10 + (v3 : Fin 9).val)), .ref (a (10 + (v2 : Fin 9).val)), .int x4, .ref (a (10 + ((0 : Fin 9) : Fin 9).val)), .ref (a 9)]) (rest := [.int x4, .ref (a (10 + ((0 : Fin 9) : Fin 9).val)), .ref (a 9)]) K hw (nf_invS hx hb K.2.2.2.1 (nf_Kg K nw_601) (nf_Kg K nw_602) (nf_Kg K nw_1) (nf_Kg K nw_603) ⟨by decide, by decide⟩ rfl nl_F_haveOtherSigns rfl d_F_reckonUnits_144) (c_F_haveOtherSigns l hfl v2 v3) nw_603 nw_1 rfl ⟨by decide, by decide⟩ (Nat.le_of_ble_eq_true rfl) hl.1 ⟨Nat.le_of_ble_eq_true rfl, Nat.le_of_ble_eq_true rfl⟩ h (fun _ _ h => h.elim) (fun r13 M14 H locs h hw => ?_)
    refine W.eq (g2 := F0 m 147 ls [.int r13, .int x4, .ref (a (10 + ((0 : Fin 9) : Fin 9).val)), .ref (a 9)]) rfl ?_
    refine lv_aload_n hx hb d_F_reckonUnits_147 rfl (lv_at hl 2 rfl) ?_
    refine nf_getN (v := .int (mg_S M14 v2)) K hw (10 + (v2 : Fin 9).val) 4 2 nv_45 (nf_heV _ _ _) rfl ni_V (by decide) rfl rfl d_F_reckonUnits_148 ?_
    refine lv_aload_n hx hb d_F_reckonUnits_151 rfl (lv_at hl 3 rfl) ?_
    refine nf_getN (v := .int (mg_S M14 v3)) K hw (10 + (v3 : Fin 9).val) 4 2 nv_45 (nf_heV _ _ _) rfl ni_V (by decide) rfl rfl d_F_reckonUnits_152 ?_
    refine lv_iadd hx hb d_F_reckonUnits_155 ?_
    refine nf_callW (ex := ex) (As := [.ref (a 9), .ref (a (10 + ((0 : Fin 9) : Fin 9).val)), .int x4, .int r13, .int ((mg_S M14 v2) + (mg_S M14 v3))]) (st0 := [.int ((mg_S M14 v2) + (mg_S M14 v3)), .int r13, .int x4, .ref (a (10 + ((0 : Fin 9) : Fin 9).val)), .ref (a 9)]) (rest := []) K hw (nf_invVN hx hb K.2.2.2.1 ((nf_Kr K nv_561).use rfl) (nf_Kg K nw_563) (nf_Kg K nx_W_settle) (nf_Kg K nw_564) ⟨by decide, by decide⟩ (nf_rcv K hw 9 5 rfl rfl) rfl nl_W_settle rfl d_F_reckonUnits_156) (c_W_settle l hfl (0 : Fin 9) x4 r13 ((mg_S M14 v2) + (mg_S M14 v3))) nw_564 nw_8 rfl ⟨by decide, by decide⟩ (Nat.le_of_ble_eq_true rfl) hl.1 ⟨Nat.le_of_ble_eq_true rfl, Nat.le_of_ble_eq_true rfl⟩ h (fun _ _ h => h) (fun r15 M16 H locs h hw => ?_)
    refine W.eq (g2 := F0 m 159 ls []) rfl ?_
    refine W.widen (k := 1) (n := 6) (by decide) (by decide) ?_
    refine lv_goto hx hb d_F_reckonUnits_159 (tgt := 188) (by decide) ?_
    refine W.widen (k := 3) (n := 18) (by decide) (by decide) ?_
    exact w_F_reckonUnits_188 hfl K  M16 _ _ _ h (lv_sub hl [] rfl) hw
  have h := h.2 hc
  have q17 := nf_ne hc (k := 2) (by decide)
  clear hc
  by_cases hc : x1 = (3 : Int32)
  · have h := h.1 hc
    refine lv_tableIn hx hb d_F_reckonUnits_47 (by rw [hc]; decide) (by rw [hc]; decide) (off := 115) (by rw [hc]; rfl) (tgt := 162) (by decide) ?_
    refine lv_aload_n hx hb d_F_reckonUnits_162 rfl (lv_at hl 0 rfl) ?_
    refine lv_aload_n hx hb d_F_reckonUnits_163 rfl (lv_at hl 2 rfl) ?_
    refine lv_aload_n hx hb d_F_reckonUnits_164 rfl (lv_at hl 3 rfl) ?_
    refine nf_callW (ex := ex) (As := [.ref (a 0), .ref (a (10 + (v2 : Fin 9).val)), .ref (a (10 + (v3 : Fin 9).val))]) (st0 := [.ref (a (10 + (v3 : Fin 9).val)), .ref (a (10 + (v2 : Fin 9).val)), .ref (a 0)]) (rest := []) K hw (nf_invV hx hb K.2.2.2.1 (nf_Kg K nw_604) (nf_Kg K nw_606) (nf_Kg K nx_F_exactQuotient) (nf_Kg K nw_607) ⟨by decide, by decide⟩ (nf_rcv K hw 0 6 rfl rfl) rfl nl_F_exactQuotient rfl d_F_reckonUnits_165) (c_F_exactQuotient l hfl v2 v3) nw_607 nw_1 rfl ⟨by decide, by decide⟩ (Nat.le_of_ble_eq_true rfl) hl.1 ⟨Nat.le_of_ble_eq_true rfl, Nat.le_of_ble_eq_true rfl⟩ h (fun _ _ h => h) (fun r18 M19 H locs h hw => ?_)
    refine W.eq (g2 := F0 m 168 ls []) rfl ?_
    refine W.widen (k := 1) (n := 6) (by decide) (by decide) ?_
    refine lv_goto hx hb d_F_reckonUnits_168 (tgt := 188) (by decide) ?_
    refine W.widen (k := 3) (n := 18) (by decide) (by decide) ?_
    exact w_F_reckonUnits_188 hfl K  M19 _ _ _ h (lv_sub hl [] rfl) hw
  have h := h.2 hc
  have q20 := nf_ne hc (k := 3) (by decide)
  clear hc
  by_cases hc : x1 = (4 : Int32)
  · have h := h.1 hc
    refine lv_tableIn hx hb d_F_reckonUnits_47 (by rw [hc]; decide) (by rw [hc]; decide) (off := 124) (by rw [hc]; rfl) (tgt := 171) (by decide) ?_
    refine lv_aload_n hx hb d_F_reckonUnits_171 rfl (lv_at hl 0 rfl) ?_
    refine lv_aload_n hx hb d_F_reckonUnits_172 rfl (lv_at hl 2 rfl) ?_
    refine lv_aload_n hx hb d_F_reckonUnits_173 rfl (lv_at hl 3 rfl) ?_
    refine nf_callW (ex := ex) (As := [.ref (a 0), .ref (a (10 + (v2 : Fin 9).val)), .ref (a (10 + (v3 : Fin 9).val))]) (st0 := [.ref (a (10 + (v3 : Fin 9).val)), .ref (a (10 + (v2 : Fin 9).val)), .ref (a 0)]) (rest := []) K hw (nf_invV hx hb K.2.2.2.1 (nf_Kg K nw_620) (nf_Kg K nw_622) (nf_Kg K nx_F_exactWholePart) (nf_Kg K nw_623) ⟨by decide, by decide⟩ (nf_rcv K hw 0 6 rfl rfl) rfl nl_F_exactWholePart rfl d_F_reckonUnits_174) (c_F_exactWholePart l hfl v2 v3) nw_623 nw_1 rfl ⟨by decide, by decide⟩ (Nat.le_of_ble_eq_true rfl) hl.1 ⟨Nat.le_of_ble_eq_true rfl, Nat.le_of_ble_eq_true rfl⟩ h (fun _ _ h => h) (fun r21 M22 H locs h hw => ?_)
    refine W.eq (g2 := F0 m 177 ls []) rfl ?_
    refine W.widen (k := 1) (n := 6) (by decide) (by decide) ?_
    refine lv_goto hx hb d_F_reckonUnits_177 (tgt := 188) (by decide) ?_
    refine W.widen (k := 3) (n := 18) (by decide) (by decide) ?_
    exact w_F_reckonUnits_188 hfl K  M22 _ _ _ h (lv_sub hl [] rfl) hw
  have h := h.2 hc
  have q23 := nf_ne hc (k := 4) (by decide)
  clear hc
  refine lv_tableOut hx hb d_F_reckonUnits_47 (by omega) (tgt := 180) (by decide) ?_
  refine lv_aload_n hx hb d_F_reckonUnits_180 rfl (lv_at hl 0 rfl) ?_
  refine lv_aload_n hx hb d_F_reckonUnits_181 rfl (lv_at hl 2 rfl) ?_
  refine lv_aload_n hx hb d_F_reckonUnits_182 rfl (lv_at hl 3 rfl) ?_
  refine lv_iload hx hb d_F_reckonUnits_183 (lv_at hl 4 rfl) ?_
  refine nf_callW (ex := ex) (As := [.ref (a 0), .ref (a (10 + (v2 : Fin 9).val)), .ref (a (10 + (v3 : Fin 9).val)), .int x4]) (st0 := [.int x4, .ref (a (10 + (v3 : Fin 9).val)), .ref (a (10 + (v2 : Fin 9).val)), .ref (a 0)]) (rest := []) K hw (nf_invV hx hb K.2.2.2.1 (nf_Kg K nw_624) (nf_Kg K nw_626) (nf_Kg K nx_F_exactRest) (nf_Kg K nw_627) ⟨by decide, by decide⟩ (nf_rcv K hw 0 6 rfl rfl) rfl nl_F_exactRest rfl d_F_reckonUnits_185) (c_F_exactRest l hfl v2 v3 x4) nw_627 nw_1 rfl ⟨by decide, by decide⟩ (Nat.le_of_ble_eq_true rfl) hl.1 ⟨Nat.le_of_ble_eq_true rfl, Nat.le_of_ble_eq_true rfl⟩ h (fun _ _ h => h) (fun r24 M25 H locs h hw => ?_)
  refine W.eq (g2 := F0 m 188 ls []) rfl ?_
  refine W.widen (k := 1) (n := 6) (by decide) (by decide) ?_
  refine W.widen (k := 3) (n := 18) (by decide) (by decide) ?_
  exact w_F_reckonUnits_188 hfl K  M25 _ _ _ h (lv_sub hl [] rfl) hw
theorem w_F_reckonUnits_19 {post : Unit → nf_M → Prop} (hfl : l.flags = flags0) (K : nf_K p s m args meth c "NumberForge" nb_F_reckonUnits 5 none D a sz) : ∀ (x1 : Int32) (v2 : Fin 9) (v3 : Fin 9) (xy0 : Int32) (M : nf_M) (H : Heap) (locs : List Loc) (ls : Array Slot), B_F_reckonUnits_19 post ex x1 v2 v3 xy0 M → lv_has ls 5 [(0, .ref (a 0)), (1, .int x1), (2, .ref (a (10 + (v2 : Fin 9).val))), (3, .ref (a (10 + (v3 : Fin 9).val)))] → nf_W D a s sz H locs M → W p l e rm_F_reckonUnits s m args below meth c H locs 0 0 (nf_MQ below (nf_Q nf_jN D a post ex (nf_A a sz)) args s rm_F_reckonUnits.cells rm_F_reckonUnits.slots (nf_A a sz)) (F0 m 19 ls [.int xy0]) := by
  have hx := K.1
  have hb := K.2.1
  intro x1 v2 v3 xy0 M H locs ls h hl hw
  refine lv_istore (lv' := [(4, .int xy0), (0, .ref (a 0)), (1, .int x1), (2, .ref (a (10 + (v2 : Fin 9).val))), (3, .ref (a (10 + (v3 : Fin 9).val)))]) hx hb d_F_reckonUnits_19 hl (by decide) rfl (fun ls hl => ?_)
  refine lv_iload_n hx hb d_F_reckonUnits_21 rfl (lv_at hl 2 rfl) ?_
  refine lv_iconst (v := (3 : Int32)) hx hb d_F_reckonUnits_22 (by decide) ?_
  refine nf_ic_lt hx hb d_F_reckonUnits_23 (tgt := 46) (by decide) (fun hc => ?_) (fun hc => ?_)
  · have h := h.1 hc
    exact w_F_reckonUnits_46 hfl K x1 v2 v3 xy0 M _ _ _ h (lv_sub hl [1, 2, 3, 4, 0] rfl) hw
  · have h := h.2 hc
    refine lv_aload_n hx hb d_F_reckonUnits_26 rfl (lv_at hl 4 rfl) ?_
    refine nf_getN (v := .long (mg_U M v3)) K hw (10 + (v3 : Fin 9).val) 4 1 nv_41 (nf_heV _ _ _) rfl ni_V (by decide) rfl rfl d_F_reckonUnits_27 ?_
    refine lv_lconst (v := (0 : Int64)) hx hb d_F_reckonUnits_30 (by decide) ?_
    refine nf_lc_ne hx hb d_F_reckonUnits_31 d_F_reckonUnits_32 (tgt := 46) (by decide) (fun hc => ?_) (fun hc => ?_)
    · have h := h.1 hc
      exact nf_throwW (i := 14) 3 hfl K hw rfl (by decide) na_F_309 nw_497 nw_498 nw_17 rfl d_F_reckonUnits_35 d_F_reckonUnits_38 d_F_reckonUnits_39 d_F_reckonUnits_42 d_F_reckonUnits_45 hl.1 ⟨by decide, by decide⟩ ⟨Nat.le_of_ble_eq_true rfl, Nat.le_of_ble_eq_true rfl⟩ h
    · have h := h.2 hc
      exact w_F_reckonUnits_46 hfl K x1 v2 v3 xy0 M _ _ _ h (lv_sub hl [1, 2, 3, 4, 0] rfl) hw
theorem w_F_reckonUnits_14 {post : Unit → nf_M → Prop} (hfl : l.flags = flags0) (K : nf_K p s m args meth c "NumberForge" nb_F_reckonUnits 5 none D a sz) : ∀ (x1 : Int32) (v2 : Fin 9) (v3 : Fin 9) (M : nf_M) (H : Heap) (locs : List Loc) (ls : Array Slot), B_F_reckonUnits_14 post ex x1 v2 v3 M → lv_has ls 5 [(0, .ref (a 0)), (1, .int x1), (2, .ref (a (10 + (v2 : Fin 9).val))), (3, .ref (a (10 + (v3 : Fin 9).val)))] → nf_W D a s sz H locs M → W p l e rm_F_reckonUnits s m args below meth c H locs 0 0 (nf_MQ below (nf_Q nf_jN D a post ex (nf_A a sz)) args s rm_F_reckonUnits.cells rm_F_reckonUnits.slots (nf_A a sz)) (F0 m 14 ls []) := by
  have hx := K.1
  have hb := K.2.1
  intro x1 v2 v3 M H locs ls h hl hw
  refine lv_iconst (v := (0 : Int32)) hx hb d_F_reckonUnits_14 (by decide) ?_
  refine lv_goto hx hb d_F_reckonUnits_15 (tgt := 19) (by decide) ?_
  exact w_F_reckonUnits_19 hfl K x1 v2 v3 (0 : Int32) M _ _ _ h (lv_sub hl [0, 1, 2, 3] rfl) hw
theorem c_F_reckonUnits (l : Launch) (hfl : l.flags = flags0) (x1 : Int32) (v2 : Fin 9) (v3 : Fin 9) : nf_C nf_jN l nm_F_reckonUnits nb_F_reckonUnits 5 none rm_F_reckonUnits (fun a => [.ref (a 0), .int x1, .ref (a (10 + (v2 : Fin 9).val)), .ref (a (10 + (v3 : Fin 9).val))]) (fun M post ex => P_F_reckonUnits x1 v2 v3 M post ex) := by
  refine nf_start (plainFor_of_name (by decide +kernel)) (fun a => Nat.le_of_ble_eq_true rfl) ?_
  intro D a sz M post ex p e s m below meth c ls h K hl hw
  have hx := K.1
  have hb := K.2.1
  have hl : lv_has ls 5 [(0, .ref (a 0)), (1, .int x1), (2, .ref (a (10 + (v2 : Fin 9).val))), (3, .ref (a (10 + (v3 : Fin 9).val)))] := hl
  refine lv_aload_n hx hb d_F_reckonUnits_0 rfl (lv_at hl 2 rfl) ?_
  refine nf_getN (v := .int (mg_T M v2)) K hw (10 + (v2 : Fin 9).val) 4 0 nv_39 (nf_heV _ _ _) rfl ni_V (by decide) rfl rfl d_F_reckonUnits_1 ?_
  refine nf_if_eq hx hb d_F_reckonUnits_4 (tgt := 14) (by decide) (fun hc => ?_) (fun hc => ?_)
  · have h := h.1 hc
    exact w_F_reckonUnits_14 hfl K x1 v2 v3 M _ _ _ h (lv_sub hl [0, 1, 2, 3] rfl) hw
  · have h := h.2 hc
    refine lv_aload_n hx hb d_F_reckonUnits_7 rfl (lv_at hl 3 rfl) ?_
    refine nf_getN (v := .int (mg_T M v3)) K hw (10 + (v3 : Fin 9).val) 4 0 nv_39 (nf_heV _ _ _) rfl ni_V (by decide) rfl rfl d_F_reckonUnits_8 ?_
    refine nf_if_ne hx hb d_F_reckonUnits_11 (tgt := 18) (by decide) (fun hc => ?_) (fun hc => ?_)
    · have h := h.1 hc
      exact w_F_reckonUnits_14 hfl K x1 v2 v3 M _ _ _ h (lv_sub hl [0, 1, 2, 3] rfl) hw
    · have h := h.2 hc
      refine lv_iconst (v := (1 : Int32)) hx hb d_F_reckonUnits_18 (by decide) ?_
      exact w_F_reckonUnits_19 hfl K x1 v2 v3 (1 : Int32) M _ _ _ h (lv_sub hl [0, 1, 2, 3] rfl) hw
theorem d_F_reckon_0 : decode nb_F_reckon 0 = .ok (.aload_n 0, 1) := by decide +kernel
theorem d_F_reckon_1 : decode nb_F_reckon 1 = .ok (.iload 4, 2) := by decide +kernel
theorem d_F_reckon_3 : decode nb_F_reckon 3 = .ok (.invokevirtual 71, 3) := by decide +kernel
theorem d_F_reckon_6 : decode nb_F_reckon 6 = .ok (.astore 5, 2) := by decide +kernel
theorem d_F_reckon_8 : decode nb_F_reckon 8 = .ok (.aload_n 0, 1) := by decide +kernel
theorem d_F_reckon_9 : decode nb_F_reckon 9 = .ok (.iload_n 2, 1) := by decide +kernel
theorem d_F_reckon_10 : decode nb_F_reckon 10 = .ok (.invokevirtual 71, 3) := by decide +kernel
theorem d_F_reckon_13 : decode nb_F_reckon 13 = .ok (.astore 6, 2) := by decide +kernel
theorem d_F_reckon_15 : decode nb_F_reckon 15 = .ok (.aload_n 0, 1) := by decide +kernel
theorem d_F_reckon_16 : decode nb_F_reckon 16 = .ok (.iload_n 3, 1) := by decide +kernel
theorem d_F_reckon_17 : decode nb_F_reckon 17 = .ok (.invokevirtual 71, 3) := by decide +kernel
theorem d_F_reckon_20 : decode nb_F_reckon 20 = .ok (.astore 7, 2) := by decide +kernel
theorem d_F_reckon_22 : decode nb_F_reckon 22 = .ok (.iload_n 1, 1) := by decide +kernel
theorem d_F_reckon_23 : decode nb_F_reckon 23 = .ok (.bipush 6, 2) := by decide +kernel
theorem d_F_reckon_25 : decode nb_F_reckon 25 = .ok (.invokestatic 75, 3) := by decide +kernel
theorem d_F_reckon_28 : decode nb_F_reckon 28 = .ok (.aload 6, 2) := by decide +kernel
theorem d_F_reckon_30 : decode nb_F_reckon 30 = .ok (.invokestatic 121, 3) := by decide +kernel
theorem d_F_reckon_33 : decode nb_F_reckon 33 = .ok (.aload 7, 2) := by decide +kernel
theorem d_F_reckon_35 : decode nb_F_reckon 35 = .ok (.invokestatic 121, 3) := by decide +kernel
theorem d_F_reckon_38 : decode nb_F_reckon 38 = .ok (.aload 6, 2) := by decide +kernel
theorem d_F_reckon_40 : decode nb_F_reckon 40 = .ok (.invokevirtual 124, 3) := by decide +kernel
theorem d_F_reckon_43 : decode nb_F_reckon 43 = .ok (.ifCond .ne 11, 3) := by decide +kernel
theorem d_F_reckon_46 : decode nb_F_reckon 46 = .ok (.aload 7, 2) := by decide +kernel
theorem d_F_reckon_48 : decode nb_F_reckon 48 = .ok (.invokevirtual 124, 3) := by decide +kernel
theorem d_F_reckon_51 : decode nb_F_reckon 51 = .ok (.ifCond .eq 15, 3) := by decide +kernel
theorem d_F_reckon_54 : decode nb_F_reckon 54 = .ok (.aload_n 0, 1) := by decide +kernel
theorem d_F_reckon_55 : decode nb_F_reckon 55 = .ok (.iload_n 1, 1) := by decide +kernel
theorem d_F_reckon_56 : decode nb_F_reckon 56 = .ok (.aload 6, 2) := by decide +kernel
theorem d_F_reckon_58 : decode nb_F_reckon 58 = .ok (.aload 7, 2) := by decide +kernel
theorem d_F_reckon_60 : decode nb_F_reckon 60 = .ok (.invokevirtual 128, 3) := by decide +kernel
theorem d_F_reckon_63 : decode nb_F_reckon 63 = .ok (.goto 12, 3) := by decide +kernel
theorem d_F_reckon_66 : decode nb_F_reckon 66 = .ok (.aload_n 0, 1) := by decide +kernel
theorem d_F_reckon_67 : decode nb_F_reckon 67 = .ok (.iload_n 1, 1) := by decide +kernel
theorem d_F_reckon_68 : decode nb_F_reckon 68 = .ok (.aload 6, 2) := by decide +kernel
theorem d_F_reckon_70 : decode nb_F_reckon 70 = .ok (.aload 7, 2) := by decide +kernel
theorem d_F_reckon_72 : decode nb_F_reckon 72 = .ok (.invokevirtual 132, 3) := by decide +kernel
theorem d_F_reckon_75 : decode nb_F_reckon 75 = .ok (.aload 5, 2) := by decide +kernel
theorem d_F_reckon_77 : decode nb_F_reckon 77 = .ok (.aload_n 0, 1) := by decide +kernel
theorem d_F_reckon_78 : decode nb_F_reckon 78 = .ok (.getfield 16, 3) := by decide +kernel
theorem d_F_reckon_81 : decode nb_F_reckon 81 = .ok (.invokevirtual 117, 3) := by decide +kernel
theorem d_F_reckon_84 : decode nb_F_reckon 84 = .ok (.return_, 1) := by decide +kernel
abbrev rm_F_reckon : Room := ({ frames := 9, cells := 9, slots := 54, locals := 179 })
theorem w_F_reckon_75 {post : Unit → nf_M → Prop} (hfl : l.flags = flags0) (K : nf_K p s m args meth c "NumberForge" nb_F_reckon 8 none D a sz) : ∀ (v5 : Fin 9) (M : nf_M) (H : Heap) (locs : List Loc) (ls : Array Slot), B_F_reckon_75 post ex v5 M → lv_has ls 8 [(0, .ref (a 0)), (5, .ref (a (10 + (v5 : Fin 9).val)))] → nf_W D a s sz H locs M → W p l e rm_F_reckon s m args below meth c H locs 9 54 (nf_MQ below (nf_Q nf_jN D a post ex (nf_A a sz)) args s rm_F_reckon.cells rm_F_reckon.slots (nf_A a sz)) (F0 m 75 ls []) := by
  have hx := K.1
  have hb := K.2.1
  intro v5 M H locs ls h hl hw
  refine lv_aload hx hb d_F_reckon_75 (lv_at hl 1 rfl) ?_
  refine lv_aload_n hx hb d_F_reckon_77 rfl (lv_at hl 0 rfl) ?_
  refine nf_get (v := .ref (a (10 + ((0 : Fin 9) : Fin 9).val))) K hw 0 6 1 nw_169 rfl rfl ni_F (by decide) rfl rfl d_F_reckon_78 ?_
  refine nf_callW (ex := (fun _ _ => False)) (As := [.ref (a (10 + (v5 : Fin 9).val)), .ref (a (10 + ((0 : Fin 9) : Fin 9).val))]) (st0 := [.ref (a (10 + ((0 : Fin 9) : Fin 9).val)), .ref (a (10 + (v5 : Fin 9).val))]) (rest := []) K hw (nf_invVN hx hb K.2.2.2.1 ((nf_Kr K nv_429).use rfl) (nf_Kg K nw_431) (nf_Kg K nx_V_become) (nf_Kg K nw_432) ⟨by decide, by decide⟩ (nf_rcv K hw (10 + (v5 : Fin 9).val) 4 (nf_heV _ _ _) rfl) rfl nl_V_become rfl d_F_reckon_81) (c_V_become l hfl v5 (0 : Fin 9)) nw_432 nw_2 rfl ⟨by decide, by decide⟩ (Nat.le_of_ble_eq_true rfl) hl.1 ⟨Nat.le_of_ble_eq_true rfl, Nat.le_of_ble_eq_true rfl⟩ h (fun _ _ h => h.elim) (fun r1 M2 H locs h hw => ?_)
  refine W.eq (g2 := F0 m 84 ls []) rfl ?_
  exact nf_vret K hw d_F_reckon_84 (Nat.le_of_ble_eq_true rfl) (Nat.le_of_ble_eq_true rfl) (r := ()) rfl h
theorem w_F_reckon_54 {post : Unit → nf_M → Prop} (hfl : l.flags = flags0) (K : nf_K p s m args meth c "NumberForge" nb_F_reckon 8 none D a sz) : ∀ (x1 : Int32) (v5 : Fin 9) (v6 : Fin 9) (v7 : Fin 9) (M : nf_M) (H : Heap) (locs : List Loc) (ls : Array Slot), B_F_reckon_54 post ex x1 v5 v6 v7 M → lv_has ls 8 [(0, .ref (a 0)), (1, .int x1), (5, .ref (a (10 + (v5 : Fin 9).val))), (6, .ref (a (10 + (v6 : Fin 9).val))), (7, .ref (a (10 + (v7 : Fin 9).val)))] → nf_W D a s sz H locs M → W p l e rm_F_reckon s m args below meth c H locs 6 36 (nf_MQ below (nf_Q nf_jN D a post ex (nf_A a sz)) args s rm_F_reckon.cells rm_F_reckon.slots (nf_A a sz)) (F0 m 54 ls []) := by
  have hx := K.1
  have hb := K.2.1
  intro x1 v5 v6 v7 M H locs ls h hl hw
  refine lv_aload_n hx hb d_F_reckon_54 rfl (lv_at hl 0 rfl) ?_
  refine lv_iload_n hx hb d_F_reckon_55 rfl (lv_at hl 1 rfl) ?_
  refine lv_aload hx hb d_F_reckon_56 (lv_at hl 3 rfl) ?_
  refine lv_aload hx hb d_F_reckon_58 (lv_at hl 4 rfl) ?_
  refine nf_callW (ex := ex) (As := [.ref (a 0), .int x1, .ref (a (10 + (v6 : Fin 9).val)), .ref (a (10 + (v7 : Fin 9).val))]) (st0 := [.ref (a (10 + (v7 : Fin 9).val)), .ref (a (10 + (v6 : Fin 9).val)), .int x1, .ref (a 0)]) (rest := []) K hw (nf_invV hx hb K.2.2.2.1 (nf_Kg K nw_472) (nf_Kg K nw_474) (nf_Kg K nx_F_reckonFloating) (nf_Kg K nw_475) ⟨by decide, by decide⟩ (nf_rcv K hw 0 6 rfl rfl) rfl nl_F_reckonFloating rfl d_F_reckon_60) (c_F_reckonFloating l hfl x1 v6 v7) nw_475 nw_1 rfl ⟨by decide, by decide⟩ (Nat.le_of_ble_eq_true rfl) hl.1 ⟨Nat.le_of_ble_eq_true rfl, Nat.le_of_ble_eq_true rfl⟩ h (fun _ _ h => h) (fun r1 M2 H locs h hw => ?_)
  refine W.eq (g2 := F0 m 63 ls []) rfl ?_
  refine W.widen (k := 7) (n := 42) (by decide) (by decide) ?_
  refine lv_goto hx hb d_F_reckon_63 (tgt := 75) (by decide) ?_
  refine W.widen (k := 9) (n := 54) (by decide) (by decide) ?_
  exact w_F_reckon_75 hfl K v5 M2 _ _ _ h (lv_sub hl [0, 2] rfl) hw
theorem c_F_reckon (l : Launch) (hfl : l.flags = flags0) (x1 : Int32) (x2 : Int32) (x3 : Int32) (x4 : Int32) : nf_C nf_jN l nm_F_reckon nb_F_reckon 8 none rm_F_reckon (fun a => [.ref (a 0), .int x1, .int x2, .int x3, .int x4]) (fun M post ex => P_F_reckon x1 x2 x3 x4 M post ex) := by
  refine nf_start (plainFor_of_name (by decide +kernel)) (fun a => Nat.le_of_ble_eq_true rfl) ?_
  intro D a sz M post ex p e s m below meth c ls h K hl hw
  have hx := K.1
  have hb := K.2.1
  have hl : lv_has ls 8 [(0, .ref (a 0)), (1, .int x1), (2, .int x2), (3, .int x3), (4, .int x4)] := hl
  refine lv_aload_n hx hb d_F_reckon_0 rfl (lv_at hl 0 rfl) ?_
  refine lv_iload hx hb d_F_reckon_1 (lv_at hl 4 rfl) ?_
  refine nf_callW (ex := ex) (As := [.ref (a 0), .int x4]) (st0 := [.int x4, .ref (a 0)]) (rest := []) K hw (nf_invV hx hb K.2.2.2.1 (nf_Kg K nw_243) (nf_Kg K nw_245) (nf_Kg K nx_F_register) (nf_Kg K nw_246) ⟨by decide, by decide⟩ (nf_rcv K hw 0 6 rfl rfl) rfl nl_F_register rfl d_F_reckon_3) (c_F_register l hfl x4) nw_246 nw_1 rfl ⟨by decide, by decide⟩ (Nat.le_of_ble_eq_true rfl) hl.1 ⟨Nat.le_of_ble_eq_true rfl, Nat.le_of_ble_eq_true rfl⟩ h (fun _ _ h => h) (fun r1 M2 H locs h hw => ?_)
  refine W.eq (g2 := F0 m 6 ls [.ref (a (10 + (r1 : Fin 9).val))]) rfl ?_
  refine W.widen (k := 1) (n := 6) (by decide) (by decide) ?_
  refine lv_astore (lv' := [(5, .ref (a (10 + (r1 : Fin 9).val))), (0, .ref (a 0)), (1, .int x1), (2, .int x2), (3, .int x3), (4, .int x4)]) hx hb d_F_reckon_6 hl (by decide) rfl (fun ls hl => ?_)
  refine lv_aload_n hx hb d_F_reckon_8 rfl (lv_at hl 1 rfl) ?_
  refine lv_iload_n hx hb d_F_reckon_9 rfl (lv_at hl 3 rfl) ?_
  refine nf_callW (ex := ex) (As := [.ref (a 0), .int x2]) (st0 := [.int x2, .ref (a 0)]) (rest := []) K hw (nf_invV hx hb K.2.2.2.1 (nf_Kg K nw_243) (nf_Kg K nw_245) (nf_Kg K nx_F_register) (nf_Kg K nw_246) ⟨by decide, by decide⟩ (nf_rcv K hw 0 6 rfl rfl) rfl nl_F_register rfl d_F_reckon_10) (c_F_register l hfl x2) nw_246 nw_1 rfl ⟨by decide, by decide⟩ (Nat.le_of_ble_eq_true rfl) hl.1 ⟨Nat.le_of_ble_eq_true rfl, Nat.le_of_ble_eq_true rfl⟩ h (fun _ _ h => h) (fun r3 M4 H locs h hw => ?_)
  refine W.eq (g2 := F0 m 13 ls [.ref (a (10 + (r3 : Fin 9).val))]) rfl ?_
  refine W.widen (k := 2) (n := 12) (by decide) (by decide) ?_
  refine lv_astore (lv' := [(6, .ref (a (10 + (r3 : Fin 9).val))), (5, .ref (a (10 + (r1 : Fin 9).val))), (0, .ref (a 0)), (1, .int x1), (2, .int x2), (3, .int x3), (4, .int x4)]) hx hb d_F_reckon_13 hl (by decide) rfl (fun ls hl => ?_)
  refine lv_aload_n hx hb d_F_reckon_15 rfl (lv_at hl 2 rfl) ?_
  refine lv_iload_n hx hb d_F_reckon_16 rfl (lv_at hl 5 rfl) ?_
  refine nf_callW (ex := ex) (As := [.ref (a 0), .int x3]) (st0 := [.int x3, .ref (a 0)]) (rest := []) K hw (nf_invV hx hb K.2.2.2.1 (nf_Kg K nw_243) (nf_Kg K nw_245) (nf_Kg K nx_F_register) (nf_Kg K nw_246) ⟨by decide, by decide⟩ (nf_rcv K hw 0 6 rfl rfl) rfl nl_F_register rfl d_F_reckon_17) (c_F_register l hfl x3) nw_246 nw_1 rfl ⟨by decide, by decide⟩ (Nat.le_of_ble_eq_true rfl) hl.1 ⟨Nat.le_of_ble_eq_true rfl, Nat.le_of_ble_eq_true rfl⟩ h (fun _ _ h => h) (fun r5 M6 H locs h hw => ?_)
  refine W.eq (g2 := F0 m 20 ls [.ref (a (10 + (r5 : Fin 9).val))]) rfl ?_
  refine W.widen (k := 3) (n := 18) (by decide) (by decide) ?_
  refine lv_astore (lv' := [(7, .ref (a (10 + (r5 : Fin 9).val))), (6, .ref (a (10 + (r3 : Fin 9).val))), (5, .ref (a (10 + (r1 : Fin 9).val))), (0, .ref (a 0)), (1, .int x1), (2, .int x2), (3, .int x3), (4, .int x4)]) hx hb d_F_reckon_20 hl (by decide) rfl (fun ls hl => ?_)
  refine lv_iload_n hx hb d_F_reckon_22 rfl (lv_at hl 4 rfl) ?_
  refine lv_bipush (v := (6 : Int32)) hx hb d_F_reckon_23 (by decide) ?_
  refine nf_callW (ex := ex) (As := [.int x1, .int (6 : Int32)]) (st0 := [.int (6 : Int32), .int x1]) (rest := []) K hw (nf_invS hx hb K.2.2.2.1 (nf_Kg K nw_317) (nf_Kg K nw_318) (nf_Kg K nw_1) (nf_Kg K nw_319) ⟨by decide, by decide⟩ rfl nl_F_checkIndex rfl d_F_reckon_25) (c_F_checkIndex l hfl x1 (6 : Int32)) nw_319 nw_1 rfl ⟨by decide, by decide⟩ (Nat.le_of_ble_eq_true rfl) hl.1 ⟨Nat.le_of_ble_eq_true rfl, Nat.le_of_ble_eq_true rfl⟩ h (fun _ _ h => h) (fun r7 M8 H locs h hw => ?_)
  refine W.eq (g2 := F0 m 28 ls []) rfl ?_
  refine W.widen (k := 4) (n := 24) (by decide) (by decide) ?_
  refine lv_aload hx hb d_F_reckon_28 (lv_at hl 1 rfl) ?_
  refine nf_callW (ex := ex) (As := [.ref (a (10 + (r3 : Fin 9).val))]) (st0 := [.ref (a (10 + (r3 : Fin 9).val))]) (rest := []) K hw (nf_invS hx hb K.2.2.2.1 (nf_Kg K nw_449) (nf_Kg K nw_450) (nf_Kg K nw_1) (nf_Kg K nw_451) ⟨by decide, by decide⟩ rfl nl_F_checkFull rfl d_F_reckon_30) (c_F_checkFull l hfl r3) nw_451 nw_1 rfl ⟨by decide, by decide⟩ (Nat.le_of_ble_eq_true rfl) hl.1 ⟨Nat.le_of_ble_eq_true rfl, Nat.le_of_ble_eq_true rfl⟩ h (fun _ _ h => h) (fun r9 M10 H locs h hw => ?_)
  refine W.eq (g2 := F0 m 33 ls []) rfl ?_
  refine W.widen (k := 5) (n := 30) (by decide) (by decide) ?_
  refine lv_aload hx hb d_F_reckon_33 (lv_at hl 0 rfl) ?_
  refine nf_callW (ex := ex) (As := [.ref (a (10 + (r5 : Fin 9).val))]) (st0 := [.ref (a (10 + (r5 : Fin 9).val))]) (rest := []) K hw (nf_invS hx hb K.2.2.2.1 (nf_Kg K nw_449) (nf_Kg K nw_450) (nf_Kg K nw_1) (nf_Kg K nw_451) ⟨by decide, by decide⟩ rfl nl_F_checkFull rfl d_F_reckon_35) (c_F_checkFull l hfl r5) nw_451 nw_1 rfl ⟨by decide, by decide⟩ (Nat.le_of_ble_eq_true rfl) hl.1 ⟨Nat.le_of_ble_eq_true rfl, Nat.le_of_ble_eq_true rfl⟩ h (fun _ _ h => h) (fun r11 M12 H locs h hw => ?_)
  refine W.eq (g2 := F0 m 38 ls []) rfl ?_
  refine W.widen (k := 6) (n := 36) (by decide) (by decide) ?_
  refine lv_aload hx hb d_F_reckon_38 (lv_at hl 1 rfl) ?_
  refine nf_callW (ex := (fun _ _ => False)) (As := [.ref (a (10 + (r3 : Fin 9).val))]) (st0 := [.ref (a (10 + (r3 : Fin 9).val))]) (rest := []) K hw (nf_invVN hx hb K.2.2.2.1 ((nf_Kr K nv_468).use rfl) (nf_Kg K nw_470) (nf_Kg K nx_V_isFloating) (nf_Kg K nw_471) ⟨by decide, by decide⟩ (nf_rcv K hw (10 + (r3 : Fin 9).val) 4 (nf_heV _ _ _) rfl) rfl nl_V_isFloating rfl d_F_reckon_40) (c_V_isFloating l hfl r3) nw_471 nw_2 rfl ⟨by decide, by decide⟩ (Nat.le_of_ble_eq_true rfl) hl.1 ⟨Nat.le_of_ble_eq_true rfl, Nat.le_of_ble_eq_true rfl⟩ h (fun _ _ h => h.elim) (fun r13 M14 H locs h hw => ?_)
  refine W.eq (g2 := F0 m 43 ls [.int r13]) rfl ?_
  refine nf_if_ne hx hb d_F_reckon_43 (tgt := 54) (by decide) (fun hc => ?_) (fun hc => ?_)
  · have h := h.1 hc
    refine lv_aload hx hb d_F_reckon_46 (lv_at hl 0 rfl) ?_
    refine nf_callW (ex := (fun _ _ => False)) (As := [.ref (a (10 + (r5 : Fin 9).val))]) (st0 := [.ref (a (10 + (r5 : Fin 9).val))]) (rest := []) K hw (nf_invVN hx hb K.2.2.2.1 ((nf_Kr K nv_468).use rfl) (nf_Kg K nw_470) (nf_Kg K nx_V_isFloating) (nf_Kg K nw_471) ⟨by decide, by decide⟩ (nf_rcv K hw (10 + (r5 : Fin 9).val) 4 (nf_heV _ _ _) rfl) rfl nl_V_isFloating rfl d_F_reckon_48) (c_V_isFloating l hfl r5) nw_471 nw_2 rfl ⟨by decide, by decide⟩ (Nat.le_of_ble_eq_true rfl) hl.1 ⟨Nat.le_of_ble_eq_true rfl, Nat.le_of_ble_eq_true rfl⟩ h (fun _ _ h => h.elim) (fun r15 M16 H locs h hw => ?_)
    refine W.eq (g2 := F0 m 51 ls [.int r15]) rfl ?_
    refine nf_if_eq hx hb d_F_reckon_51 (tgt := 66) (by decide) (fun hc => ?_) (fun hc => ?_)
    · have h := h.1 hc
      refine lv_aload_n hx hb d_F_reckon_66 rfl (lv_at hl 3 rfl) ?_
      refine lv_iload_n hx hb d_F_reckon_67 rfl (lv_at hl 4 rfl) ?_
      refine lv_aload hx hb d_F_reckon_68 (lv_at hl 1 rfl) ?_
      refine lv_aload hx hb d_F_reckon_70 (lv_at hl 0 rfl) ?_
      refine nf_callW (ex := ex) (As := [.ref (a 0), .int x1, .ref (a (10 + (r3 : Fin 9).val)), .ref (a (10 + (r5 : Fin 9).val))]) (st0 := [.ref (a (10 + (r5 : Fin 9).val)), .ref (a (10 + (r3 : Fin 9).val)), .int x1, .ref (a 0)]) (rest := []) K hw (nf_invV hx hb K.2.2.2.1 (nf_Kg K nw_535) (nf_Kg K nw_537) (nf_Kg K nx_F_reckonUnits) (nf_Kg K nw_538) ⟨by decide, by decide⟩ (nf_rcv K hw 0 6 rfl rfl) rfl nl_F_reckonUnits rfl d_F_reckon_72) (c_F_reckonUnits l hfl x1 r3 r5) nw_538 nw_1 rfl ⟨by decide, by decide⟩ (Nat.le_of_ble_eq_true rfl) hl.1 ⟨Nat.le_of_ble_eq_true rfl, Nat.le_of_ble_eq_true rfl⟩ h (fun _ _ h => h) (fun r17 M18 H locs h hw => ?_)
      refine W.eq (g2 := F0 m 75 ls []) rfl ?_
      refine W.widen (k := 9) (n := 54) (by decide) (by decide) ?_
      exact w_F_reckon_75 hfl K r1 M18 _ _ _ h (lv_sub hl [3, 2] rfl) hw
    · have h := h.2 hc
      exact w_F_reckon_54 hfl K x1 r1 r3 r5 M16 _ _ _ h (lv_sub hl [3, 4, 2, 1, 0] rfl) hw
  · have h := h.2 hc
    exact w_F_reckon_54 hfl K x1 r1 r3 r5 M14 _ _ _ h (lv_sub hl [3, 4, 2, 1, 0] rfl) hw
theorem d_JM_abs_II_0 : decode nb_JM_abs_II 0 = .ok (.iload_n 0, 1) := by decide +kernel
theorem d_JM_abs_II_1 : decode nb_JM_abs_II 1 = .ok (.ifCond .ge 8, 3) := by decide +kernel
theorem d_JM_abs_II_4 : decode nb_JM_abs_II 4 = .ok (.iload_n 0, 1) := by decide +kernel
theorem d_JM_abs_II_5 : decode nb_JM_abs_II 5 = .ok (.ineg, 1) := by decide +kernel
theorem d_JM_abs_II_6 : decode nb_JM_abs_II 6 = .ok (.goto 4, 3) := by decide +kernel
theorem d_JM_abs_II_9 : decode nb_JM_abs_II 9 = .ok (.iload_n 0, 1) := by decide +kernel
theorem d_JM_abs_II_10 : decode nb_JM_abs_II 10 = .ok (.ireturn, 1) := by decide +kernel
abbrev rm_JM_abs_II : Room := ({ frames := 0, cells := 0, slots := 0, locals := 0 })
theorem w_JM_abs_II_10 {post : Int32 → nf_M → Prop} (hfl : l.flags = flags0) (K : nf_K p s m args meth c "java/lang/Math" nb_JM_abs_II 1 (some FieldType.int) D a sz) : ∀ (xy0 : Int32) (M : nf_M) (H : Heap) (locs : List Loc) (ls : Array Slot), B_JM_abs_II_10 post xy0 M → lv_has ls 1 [] → nf_W D a s sz H locs M → W p l e rm_JM_abs_II s m args below meth c H locs 0 0 (nf_MQ below (nf_Q nf_jI D a post ex (nf_A a sz)) args s rm_JM_abs_II.cells rm_JM_abs_II.slots (nf_A a sz)) (F0 m 10 ls [.int xy0]) := by
  have hx := K.1
  have hb := K.2.1
  intro xy0 M H locs ls h hl hw
  exact nf_iret K hw d_JM_abs_II_10 rfl (Nat.le_of_ble_eq_true rfl) (Nat.le_of_ble_eq_true rfl) (r := xy0) rfl h
theorem c_JM_abs_II (l : Launch) (hfl : l.flags = flags0) (x0 : Int32) : nf_C nf_jI l nm_JM_abs_II nb_JM_abs_II 1 (some FieldType.int) rm_JM_abs_II (fun a => [.int x0]) (fun M post ex => P_JM_abs_II x0 M post) := by
  refine nf_start (by decide +kernel) (fun a => Nat.le_of_ble_eq_true rfl) ?_
  intro D a sz M post ex p e s m below meth c ls h K hl hw
  have hx := K.1
  have hb := K.2.1
  have hl : lv_has ls 1 [(0, .int x0)] := hl
  refine lv_iload_n hx hb d_JM_abs_II_0 rfl (lv_at hl 0 rfl) ?_
  refine nf_if_ge hx hb d_JM_abs_II_1 (tgt := 9) (by decide) (fun hc => ?_) (fun hc => ?_)
  · have h := h.1 hc
    refine lv_iload_n hx hb d_JM_abs_II_4 rfl (lv_at hl 0 rfl) ?_
    refine lv_ineg hx hb d_JM_abs_II_5 ?_
    refine lv_goto hx hb d_JM_abs_II_6 (tgt := 10) (by decide) ?_
    exact w_JM_abs_II_10 hfl K (-x0) M _ _ _ h (lv_sub hl [] rfl) hw
  · have h := h.2 hc
    refine lv_iload_n hx hb d_JM_abs_II_9 rfl (lv_at hl 0 rfl) ?_
    exact w_JM_abs_II_10 hfl K x0 M _ _ _ h (lv_sub hl [] rfl) hw
theorem d_F_isHalfEvenUp_0 : decode nb_F_isHalfEvenUp 0 = .ok (.dload_n 2, 1) := by decide +kernel
theorem d_F_isHalfEvenUp_1 : decode nb_F_isHalfEvenUp 1 = .ok (.ldc2_w 297, 3) := by decide +kernel
theorem d_F_isHalfEvenUp_4 : decode nb_F_isHalfEvenUp 4 = .ok (.dcmp .l, 1) := by decide +kernel
theorem d_F_isHalfEvenUp_5 : decode nb_F_isHalfEvenUp 5 = .ok (.ifCond .gt 21, 3) := by decide +kernel
theorem d_F_isHalfEvenUp_8 : decode nb_F_isHalfEvenUp 8 = .ok (.dload_n 2, 1) := by decide +kernel
theorem d_F_isHalfEvenUp_9 : decode nb_F_isHalfEvenUp 9 = .ok (.ldc2_w 297, 3) := by decide +kernel
theorem d_F_isHalfEvenUp_12 : decode nb_F_isHalfEvenUp 12 = .ok (.dcmp .l, 1) := by decide +kernel
theorem d_F_isHalfEvenUp_13 : decode nb_F_isHalfEvenUp 13 = .ok (.ifCond .ne 17, 3) := by decide +kernel
theorem d_F_isHalfEvenUp_16 : decode nb_F_isHalfEvenUp 16 = .ok (.lload_n 0, 1) := by decide +kernel
theorem d_F_isHalfEvenUp_17 : decode nb_F_isHalfEvenUp 17 = .ok (.ldc2_w 271, 3) := by decide +kernel
theorem d_F_isHalfEvenUp_20 : decode nb_F_isHalfEvenUp 20 = .ok (.lrem, 1) := by decide +kernel
theorem d_F_isHalfEvenUp_21 : decode nb_F_isHalfEvenUp 21 = .ok (.lconst 0, 1) := by decide +kernel
theorem d_F_isHalfEvenUp_22 : decode nb_F_isHalfEvenUp 22 = .ok (.lcmp, 1) := by decide +kernel
theorem d_F_isHalfEvenUp_23 : decode nb_F_isHalfEvenUp 23 = .ok (.ifCond .eq 7, 3) := by decide +kernel
theorem d_F_isHalfEvenUp_26 : decode nb_F_isHalfEvenUp 26 = .ok (.iconst 1, 1) := by decide +kernel
theorem d_F_isHalfEvenUp_27 : decode nb_F_isHalfEvenUp 27 = .ok (.goto 4, 3) := by decide +kernel
theorem d_F_isHalfEvenUp_30 : decode nb_F_isHalfEvenUp 30 = .ok (.iconst 0, 1) := by decide +kernel
theorem d_F_isHalfEvenUp_31 : decode nb_F_isHalfEvenUp 31 = .ok (.ireturn, 1) := by decide +kernel
abbrev rm_F_isHalfEvenUp : Room := ({ frames := 0, cells := 0, slots := 0, locals := 0 })
theorem w_F_isHalfEvenUp_31 {post : Int32 → nf_M → Prop} (hfl : l.flags = flags0) (K : nf_K p s m args meth c "NumberForge" nb_F_isHalfEvenUp 4 (some FieldType.boolean) D a sz) : ∀ (xy0 : Int32) (M : nf_M) (H : Heap) (locs : List Loc) (ls : Array Slot), B_F_isHalfEvenUp_31 post xy0 M → lv_has ls 4 [] → nf_W D a s sz H locs M → W p l e rm_F_isHalfEvenUp s m args below meth c H locs 0 0 (nf_MQ below (nf_Q nf_jI D a post ex (nf_A a sz)) args s rm_F_isHalfEvenUp.cells rm_F_isHalfEvenUp.slots (nf_A a sz)) (F0 m 31 ls [.int xy0]) := by
  have hx := K.1
  have hb := K.2.1
  intro xy0 M H locs ls h hl hw
  obtain ⟨g1, h⟩ := h
  exact nf_iret K hw d_F_isHalfEvenUp_31 g1 (Nat.le_of_ble_eq_true rfl) (Nat.le_of_ble_eq_true rfl) (r := xy0) rfl h
theorem w_F_isHalfEvenUp_26 {post : Int32 → nf_M → Prop} (hfl : l.flags = flags0) (K : nf_K p s m args meth c "NumberForge" nb_F_isHalfEvenUp 4 (some FieldType.boolean) D a sz) : ∀ (M : nf_M) (H : Heap) (locs : List Loc) (ls : Array Slot), B_F_isHalfEvenUp_26 post  M → lv_has ls 4 [] → nf_W D a s sz H locs M → W p l e rm_F_isHalfEvenUp s m args below meth c H locs 0 0 (nf_MQ below (nf_Q nf_jI D a post ex (nf_A a sz)) args s rm_F_isHalfEvenUp.cells rm_F_isHalfEvenUp.slots (nf_A a sz)) (F0 m 26 ls []) := by
  have hx := K.1
  have hb := K.2.1
  intro  M H locs ls h hl hw
  refine lv_iconst (v := (1 : Int32)) hx hb d_F_isHalfEvenUp_26 (by decide) ?_
  refine lv_goto hx hb d_F_isHalfEvenUp_27 (tgt := 31) (by decide) ?_
  exact w_F_isHalfEvenUp_31 hfl K (1 : Int32) M _ _ _ h (lv_sub hl [] rfl) hw
theorem w_F_isHalfEvenUp_30 {post : Int32 → nf_M → Prop} (hfl : l.flags = flags0) (K : nf_K p s m args meth c "NumberForge" nb_F_isHalfEvenUp 4 (some FieldType.boolean) D a sz) : ∀ (M : nf_M) (H : Heap) (locs : List Loc) (ls : Array Slot), B_F_isHalfEvenUp_30 post  M → lv_has ls 4 [] → nf_W D a s sz H locs M → W p l e rm_F_isHalfEvenUp s m args below meth c H locs 0 0 (nf_MQ below (nf_Q nf_jI D a post ex (nf_A a sz)) args s rm_F_isHalfEvenUp.cells rm_F_isHalfEvenUp.slots (nf_A a sz)) (F0 m 30 ls []) := by
  have hx := K.1
  have hb := K.2.1
  intro  M H locs ls h hl hw
  refine lv_iconst (v := (0 : Int32)) hx hb d_F_isHalfEvenUp_30 (by decide) ?_
  exact w_F_isHalfEvenUp_31 hfl K (0 : Int32) M _ _ _ h (lv_sub hl [] rfl) hw
theorem c_F_isHalfEvenUp (l : Launch) (hfl : l.flags = flags0) (x0 : Int64) (x2 : UInt64) : nf_C nf_jI l nm_F_isHalfEvenUp nb_F_isHalfEvenUp 4 (some FieldType.boolean) rm_F_isHalfEvenUp (fun a => [.long x0, .double x2]) (fun M post ex => P_F_isHalfEvenUp x0 x2 M post) := by
  refine nf_start (plainFor_of_name (by decide +kernel)) (fun a => Nat.le_of_ble_eq_true rfl) ?_
  intro D a sz M post ex p e s m below meth c ls h K hl hw
  have hx := K.1
  have hb := K.2.1
  have hl : lv_has ls 4 [(0, .long x0), (2, .double x2)] := hl
  refine lv_dload_n hx hb d_F_isHalfEvenUp_0 rfl (lv_at hl 1 rfl) ?_
  refine lv_ldc2d (v := (4602678819172646912 : UInt64)) hx hb K.2.2.2.1 (nf_Kg K nw_643) d_F_isHalfEvenUp_1 ?_
  refine nf_dl_gt hx hb d_F_isHalfEvenUp_4 d_F_isHalfEvenUp_5 (tgt := 26) (by decide) (fun hc => ?_) (fun hc => ?_)
  · have h := h.1 hc
    exact w_F_isHalfEvenUp_26 hfl K  M _ _ _ h (lv_sub hl [] rfl) hw
  · have h := h.2 hc
    refine lv_dload_n hx hb d_F_isHalfEvenUp_8 rfl (lv_at hl 1 rfl) ?_
    refine lv_ldc2d (v := (4602678819172646912 : UInt64)) hx hb K.2.2.2.1 (nf_Kg K nw_643) d_F_isHalfEvenUp_9 ?_
    refine nf_dl_ne hx hb d_F_isHalfEvenUp_12 d_F_isHalfEvenUp_13 (tgt := 30) (by decide) (fun hc => ?_) (fun hc => ?_)
    · have h := h.1 hc
      refine lv_lload_n hx hb d_F_isHalfEvenUp_16 rfl (lv_at hl 0 rfl) ?_
      refine lv_ldc2 (v := (2 : Int64)) hx hb K.2.2.2.1 (nf_Kg K nw_586) d_F_isHalfEvenUp_17 ?_
      refine lv_lrem hx hb d_F_isHalfEvenUp_20 (by decide) ?_
      refine lv_lconst (v := (0 : Int64)) hx hb d_F_isHalfEvenUp_21 (by decide) ?_
      refine nf_lc_eq hx hb d_F_isHalfEvenUp_22 d_F_isHalfEvenUp_23 (tgt := 30) (by decide) (fun hc => ?_) (fun hc => ?_)
      · have h := h.1 hc
        exact w_F_isHalfEvenUp_30 hfl K  M _ _ _ h (lv_sub hl [] rfl) hw
      · have h := h.2 hc
        exact w_F_isHalfEvenUp_26 hfl K  M _ _ _ h (lv_sub hl [] rfl) hw
    · have h := h.2 hc
      exact w_F_isHalfEvenUp_30 hfl K  M _ _ _ h (lv_sub hl [] rfl) hw
theorem d_F_isAwayFromZero_0 : decode nb_F_isAwayFromZero 0 = .ok (.iload_n 0, 1) := by decide +kernel
theorem d_F_isAwayFromZero_1 : decode nb_F_isAwayFromZero 1 = .ok (.tableswitch 89 2 4 #[27, 44, 61], 27) := by decide +kernel
theorem d_F_isAwayFromZero_28 : decode nb_F_isAwayFromZero 28 = .ok (.iload_n 1, 1) := by decide +kernel
theorem d_F_isAwayFromZero_29 : decode nb_F_isAwayFromZero 29 = .ok (.ifCond .eq 14, 3) := by decide +kernel
theorem d_F_isAwayFromZero_32 : decode nb_F_isAwayFromZero 32 = .ok (.dload 4, 2) := by decide +kernel
theorem d_F_isAwayFromZero_34 : decode nb_F_isAwayFromZero 34 = .ok (.dconst 0, 1) := by decide +kernel
theorem d_F_isAwayFromZero_35 : decode nb_F_isAwayFromZero 35 = .ok (.dcmp .l, 1) := by decide +kernel
theorem d_F_isAwayFromZero_36 : decode nb_F_isAwayFromZero 36 = .ok (.ifCond .le 7, 3) := by decide +kernel
theorem d_F_isAwayFromZero_39 : decode nb_F_isAwayFromZero 39 = .ok (.iconst 1, 1) := by decide +kernel
theorem d_F_isAwayFromZero_40 : decode nb_F_isAwayFromZero 40 = .ok (.goto 4, 3) := by decide +kernel
theorem d_F_isAwayFromZero_43 : decode nb_F_isAwayFromZero 43 = .ok (.iconst 0, 1) := by decide +kernel
theorem d_F_isAwayFromZero_44 : decode nb_F_isAwayFromZero 44 = .ok (.ireturn, 1) := by decide +kernel
theorem d_F_isAwayFromZero_45 : decode nb_F_isAwayFromZero 45 = .ok (.iload_n 1, 1) := by decide +kernel
theorem d_F_isAwayFromZero_46 : decode nb_F_isAwayFromZero 46 = .ok (.ifCond .ne 14, 3) := by decide +kernel
theorem d_F_isAwayFromZero_49 : decode nb_F_isAwayFromZero 49 = .ok (.dload 4, 2) := by decide +kernel
theorem d_F_isAwayFromZero_51 : decode nb_F_isAwayFromZero 51 = .ok (.dconst 0, 1) := by decide +kernel
theorem d_F_isAwayFromZero_52 : decode nb_F_isAwayFromZero 52 = .ok (.dcmp .l, 1) := by decide +kernel
theorem d_F_isAwayFromZero_53 : decode nb_F_isAwayFromZero 53 = .ok (.ifCond .le 7, 3) := by decide +kernel
theorem d_F_isAwayFromZero_56 : decode nb_F_isAwayFromZero 56 = .ok (.iconst 1, 1) := by decide +kernel
theorem d_F_isAwayFromZero_57 : decode nb_F_isAwayFromZero 57 = .ok (.goto 4, 3) := by decide +kernel
theorem d_F_isAwayFromZero_60 : decode nb_F_isAwayFromZero 60 = .ok (.iconst 0, 1) := by decide +kernel
theorem d_F_isAwayFromZero_61 : decode nb_F_isAwayFromZero 61 = .ok (.ireturn, 1) := by decide +kernel
theorem d_F_isAwayFromZero_62 : decode nb_F_isAwayFromZero 62 = .ok (.dload 4, 2) := by decide +kernel
theorem d_F_isAwayFromZero_64 : decode nb_F_isAwayFromZero 64 = .ok (.ldc2_w 297, 3) := by decide +kernel
theorem d_F_isAwayFromZero_67 : decode nb_F_isAwayFromZero 67 = .ok (.dcmp .l, 1) := by decide +kernel
theorem d_F_isAwayFromZero_68 : decode nb_F_isAwayFromZero 68 = .ok (.ifCond .gt 16, 3) := by decide +kernel
theorem d_F_isAwayFromZero_71 : decode nb_F_isAwayFromZero 71 = .ok (.dload 4, 2) := by decide +kernel
theorem d_F_isAwayFromZero_73 : decode nb_F_isAwayFromZero 73 = .ok (.ldc2_w 297, 3) := by decide +kernel
theorem d_F_isAwayFromZero_76 : decode nb_F_isAwayFromZero 76 = .ok (.dcmp .l, 1) := by decide +kernel
theorem d_F_isAwayFromZero_77 : decode nb_F_isAwayFromZero 77 = .ok (.ifCond .ne 11, 3) := by decide +kernel
theorem d_F_isAwayFromZero_80 : decode nb_F_isAwayFromZero 80 = .ok (.iload_n 1, 1) := by decide +kernel
theorem d_F_isAwayFromZero_81 : decode nb_F_isAwayFromZero 81 = .ok (.ifCond .ne 7, 3) := by decide +kernel
theorem d_F_isAwayFromZero_84 : decode nb_F_isAwayFromZero 84 = .ok (.iconst 1, 1) := by decide +kernel
theorem d_F_isAwayFromZero_85 : decode nb_F_isAwayFromZero 85 = .ok (.goto 4, 3) := by decide +kernel
theorem d_F_isAwayFromZero_88 : decode nb_F_isAwayFromZero 88 = .ok (.iconst 0, 1) := by decide +kernel
theorem d_F_isAwayFromZero_89 : decode nb_F_isAwayFromZero 89 = .ok (.ireturn, 1) := by decide +kernel
theorem d_F_isAwayFromZero_90 : decode nb_F_isAwayFromZero 90 = .ok (.lload_n 2, 1) := by decide +kernel
theorem d_F_isAwayFromZero_91 : decode nb_F_isAwayFromZero 91 = .ok (.dload 4, 2) := by decide +kernel
theorem d_F_isAwayFromZero_93 : decode nb_F_isAwayFromZero 93 = .ok (.invokestatic 293, 3) := by decide +kernel
theorem d_F_isAwayFromZero_96 : decode nb_F_isAwayFromZero 96 = .ok (.ireturn, 1) := by decide +kernel
abbrev rm_F_isAwayFromZero : Room := ({ frames := 1, cells := 0, slots := 0, locals := 23 })
theorem w_F_isAwayFromZero_44 {post : Int32 → nf_M → Prop} (hfl : l.flags = flags0) (K : nf_K p s m args meth c "NumberForge" nb_F_isAwayFromZero 6 (some FieldType.boolean) D a sz) : ∀ (xy0 : Int32) (M : nf_M) (H : Heap) (locs : List Loc) (ls : Array Slot), B_F_isAwayFromZero_44 post xy0 M → lv_has ls 6 [] → nf_W D a s sz H locs M → W p l e rm_F_isAwayFromZero s m args below meth c H locs 0 0 (nf_MQ below (nf_Q nf_jI D a post ex (nf_A a sz)) args s rm_F_isAwayFromZero.cells rm_F_isAwayFromZero.slots (nf_A a sz)) (F0 m 44 ls [.int xy0]) := by
  have hx := K.1
  have hb := K.2.1
  intro xy0 M H locs ls h hl hw
  obtain ⟨g1, h⟩ := h
  exact nf_iret K hw d_F_isAwayFromZero_44 g1 (Nat.le_of_ble_eq_true rfl) (Nat.le_of_ble_eq_true rfl) (r := xy0) rfl h
theorem w_F_isAwayFromZero_43 {post : Int32 → nf_M → Prop} (hfl : l.flags = flags0) (K : nf_K p s m args meth c "NumberForge" nb_F_isAwayFromZero 6 (some FieldType.boolean) D a sz) : ∀ (M : nf_M) (H : Heap) (locs : List Loc) (ls : Array Slot), B_F_isAwayFromZero_43 post  M → lv_has ls 6 [] → nf_W D a s sz H locs M → W p l e rm_F_isAwayFromZero s m args below meth c H locs 0 0 (nf_MQ below (nf_Q nf_jI D a post ex (nf_A a sz)) args s rm_F_isAwayFromZero.cells rm_F_isAwayFromZero.slots (nf_A a sz)) (F0 m 43 ls []) := by
  have hx := K.1
  have hb := K.2.1
  intro  M H locs ls h hl hw
  refine lv_iconst (v := (0 : Int32)) hx hb d_F_isAwayFromZero_43 (by decide) ?_
  exact w_F_isAwayFromZero_44 hfl K (0 : Int32) M _ _ _ h (lv_sub hl [] rfl) hw
theorem w_F_isAwayFromZero_61 {post : Int32 → nf_M → Prop} (hfl : l.flags = flags0) (K : nf_K p s m args meth c "NumberForge" nb_F_isAwayFromZero 6 (some FieldType.boolean) D a sz) : ∀ (xy0 : Int32) (M : nf_M) (H : Heap) (locs : List Loc) (ls : Array Slot), B_F_isAwayFromZero_61 post xy0 M → lv_has ls 6 [] → nf_W D a s sz H locs M → W p l e rm_F_isAwayFromZero s m args below meth c H locs 0 0 (nf_MQ below (nf_Q nf_jI D a post ex (nf_A a sz)) args s rm_F_isAwayFromZero.cells rm_F_isAwayFromZero.slots (nf_A a sz)) (F0 m 61 ls [.int xy0]) := by
  have hx := K.1
  have hb := K.2.1
  intro xy0 M H locs ls h hl hw
  obtain ⟨g1, h⟩ := h
  exact nf_iret K hw d_F_isAwayFromZero_61 g1 (Nat.le_of_ble_eq_true rfl) (Nat.le_of_ble_eq_true rfl) (r := xy0) rfl h
theorem w_F_isAwayFromZero_60 {post : Int32 → nf_M → Prop} (hfl : l.flags = flags0) (K : nf_K p s m args meth c "NumberForge" nb_F_isAwayFromZero 6 (some FieldType.boolean) D a sz) : ∀ (M : nf_M) (H : Heap) (locs : List Loc) (ls : Array Slot), B_F_isAwayFromZero_60 post  M → lv_has ls 6 [] → nf_W D a s sz H locs M → W p l e rm_F_isAwayFromZero s m args below meth c H locs 0 0 (nf_MQ below (nf_Q nf_jI D a post ex (nf_A a sz)) args s rm_F_isAwayFromZero.cells rm_F_isAwayFromZero.slots (nf_A a sz)) (F0 m 60 ls []) := by
  have hx := K.1
  have hb := K.2.1
  intro  M H locs ls h hl hw
  refine lv_iconst (v := (0 : Int32)) hx hb d_F_isAwayFromZero_60 (by decide) ?_
  exact w_F_isAwayFromZero_61 hfl K (0 : Int32) M _ _ _ h (lv_sub hl [] rfl) hw
theorem w_F_isAwayFromZero_89 {post : Int32 → nf_M → Prop} (hfl : l.flags = flags0) (K : nf_K p s m args meth c "NumberForge" nb_F_isAwayFromZero 6 (some FieldType.boolean) D a sz) : ∀ (xy0 : Int32) (M : nf_M) (H : Heap) (locs : List Loc) (ls : Array Slot), B_F_isAwayFromZero_89 post xy0 M → lv_has ls 6 [] → nf_W D a s sz H locs M → W p l e rm_F_isAwayFromZero s m args below meth c H locs 0 0 (nf_MQ below (nf_Q nf_jI D a post ex (nf_A a sz)) args s rm_F_isAwayFromZero.cells rm_F_isAwayFromZero.slots (nf_A a sz)) (F0 m 89 ls [.int xy0]) := by
  have hx := K.1
  have hb := K.2.1
  intro xy0 M H locs ls h hl hw
  obtain ⟨g1, h⟩ := h
  exact nf_iret K hw d_F_isAwayFromZero_89 g1 (Nat.le_of_ble_eq_true rfl) (Nat.le_of_ble_eq_true rfl) (r := xy0) rfl h
theorem w_F_isAwayFromZero_84 {post : Int32 → nf_M → Prop} (hfl : l.flags = flags0) (K : nf_K p s m args meth c "NumberForge" nb_F_isAwayFromZero 6 (some FieldType.boolean) D a sz) : ∀ (M : nf_M) (H : Heap) (locs : List Loc) (ls : Array Slot), B_F_isAwayFromZero_84 post  M → lv_has ls 6 [] → nf_W D a s sz H locs M → W p l e rm_F_isAwayFromZero s m args below meth c H locs 0 0 (nf_MQ below (nf_Q nf_jI D a post ex (nf_A a sz)) args s rm_F_isAwayFromZero.cells rm_F_isAwayFromZero.slots (nf_A a sz)) (F0 m 84 ls []) := by
  have hx := K.1
  have hb := K.2.1
  intro  M H locs ls h hl hw
  refine lv_iconst (v := (1 : Int32)) hx hb d_F_isAwayFromZero_84 (by decide) ?_
  refine lv_goto hx hb d_F_isAwayFromZero_85 (tgt := 89) (by decide) ?_
  exact w_F_isAwayFromZero_89 hfl K (1 : Int32) M _ _ _ h (lv_sub hl [] rfl) hw
theorem w_F_isAwayFromZero_88 {post : Int32 → nf_M → Prop} (hfl : l.flags = flags0) (K : nf_K p s m args meth c "NumberForge" nb_F_isAwayFromZero 6 (some FieldType.boolean) D a sz) : ∀ (M : nf_M) (H : Heap) (locs : List Loc) (ls : Array Slot), B_F_isAwayFromZero_88 post  M → lv_has ls 6 [] → nf_W D a s sz H locs M → W p l e rm_F_isAwayFromZero s m args below meth c H locs 0 0 (nf_MQ below (nf_Q nf_jI D a post ex (nf_A a sz)) args s rm_F_isAwayFromZero.cells rm_F_isAwayFromZero.slots (nf_A a sz)) (F0 m 88 ls []) := by
  have hx := K.1
  have hb := K.2.1
  intro  M H locs ls h hl hw
  refine lv_iconst (v := (0 : Int32)) hx hb d_F_isAwayFromZero_88 (by decide) ?_
  exact w_F_isAwayFromZero_89 hfl K (0 : Int32) M _ _ _ h (lv_sub hl [] rfl) hw
theorem c_F_isAwayFromZero (l : Launch) (hfl : l.flags = flags0) (x0 : Int32) (x1 : Int32) (x2 : Int64) (x4 : UInt64) : nf_C nf_jI l nm_F_isAwayFromZero nb_F_isAwayFromZero 6 (some FieldType.boolean) rm_F_isAwayFromZero (fun a => [.int x0, .int x1, .long x2, .double x4]) (fun M post ex => P_F_isAwayFromZero x0 x1 x2 x4 M post) := by
  refine nf_start (plainFor_of_name (by decide +kernel)) (fun a => Nat.le_of_ble_eq_true rfl) ?_
  intro D a sz M post ex p e s m below meth c ls h K hl hw
  have hx := K.1
  have hb := K.2.1
  have hl : lv_has ls 6 [(0, .int x0), (1, .int x1), (2, .long x2), (4, .double x4)] := hl
  refine lv_iload_n hx hb d_F_isAwayFromZero_0 rfl (lv_at hl 0 rfl) ?_
  by_cases hc : x0 = (2 : Int32)
  · have h := h.1 hc
    refine lv_tableIn hx hb d_F_isAwayFromZero_1 (by rw [hc]; decide) (by rw [hc]; decide) (off := 27) (by rw [hc]; rfl) (tgt := 28) (by decide) ?_
    refine lv_iload_n hx hb d_F_isAwayFromZero_28 rfl (lv_at hl 1 rfl) ?_
    refine nf_if_eq hx hb d_F_isAwayFromZero_29 (tgt := 43) (by decide) (fun hc => ?_) (fun hc => ?_)
    · have h := h.1 hc
      exact w_F_isAwayFromZero_43 hfl K  M _ _ _ h (lv_sub hl [] rfl) hw
    · have h := h.2 hc
      refine lv_dload hx hb d_F_isAwayFromZero_32 (lv_at hl 3 rfl) ?_
      refine lv_dconst0 hx hb d_F_isAwayFromZero_34 ?_
      refine nf_dl_le hx hb d_F_isAwayFromZero_35 d_F_isAwayFromZero_36 (tgt := 43) (by decide) (fun hc => ?_) (fun hc => ?_)
      · have h := h.1 hc
        refine lv_iconst (v := (1 : Int32)) hx hb d_F_isAwayFromZero_39 (by decide) ?_
        refine lv_goto hx hb d_F_isAwayFromZero_40 (tgt := 44) (by decide) ?_
        exact w_F_isAwayFromZero_44 hfl K (1 : Int32) M _ _ _ h (lv_sub hl [] rfl) hw
      · have h := h.2 hc
        exact w_F_isAwayFromZero_43 hfl K  M _ _ _ h (lv_sub hl [] rfl) hw
  have h := h.2 hc
  have q1 := nf_ne hc (k := 2) (by decide)
  clear hc
  by_cases hc : x0 = (3 : Int32)
  · have h := h.1 hc
    refine lv_tableIn hx hb d_F_isAwayFromZero_1 (by rw [hc]; decide) (by rw [hc]; decide) (off := 44) (by rw [hc]; rfl) (tgt := 45) (by decide) ?_
    refine lv_iload_n hx hb d_F_isAwayFromZero_45 rfl (lv_at hl 1 rfl) ?_
    refine nf_if_ne hx hb d_F_isAwayFromZero_46 (tgt := 60) (by decide) (fun hc => ?_) (fun hc => ?_)
    · have h := h.1 hc
      refine lv_dload hx hb d_F_isAwayFromZero_49 (lv_at hl 3 rfl) ?_
      refine lv_dconst0 hx hb d_F_isAwayFromZero_51 ?_
      refine nf_dl_le hx hb d_F_isAwayFromZero_52 d_F_isAwayFromZero_53 (tgt := 60) (by decide) (fun hc => ?_) (fun hc => ?_)
      · have h := h.1 hc
        refine lv_iconst (v := (1 : Int32)) hx hb d_F_isAwayFromZero_56 (by decide) ?_
        refine lv_goto hx hb d_F_isAwayFromZero_57 (tgt := 61) (by decide) ?_
        exact w_F_isAwayFromZero_61 hfl K (1 : Int32) M _ _ _ h (lv_sub hl [] rfl) hw
      · have h := h.2 hc
        exact w_F_isAwayFromZero_60 hfl K  M _ _ _ h (lv_sub hl [] rfl) hw
    · have h := h.2 hc
      exact w_F_isAwayFromZero_60 hfl K  M _ _ _ h (lv_sub hl [] rfl) hw
  have h := h.2 hc
  have q2 := nf_ne hc (k := 3) (by decide)
  clear hc
  by_cases hc : x0 = (4 : Int32)
  · have h := h.1 hc
    refine lv_tableIn hx hb d_F_isAwayFromZero_1 (by rw [hc]; decide) (by rw [hc]; decide) (off := 61) (by rw [hc]; rfl) (tgt := 62) (by decide) ?_
    refine lv_dload hx hb d_F_isAwayFromZero_62 (lv_at hl 3 rfl) ?_
    refine lv_ldc2d (v := (4602678819172646912 : UInt64)) hx hb K.2.2.2.1 (nf_Kg K nw_643) d_F_isAwayFromZero_64 ?_
    refine nf_dl_gt hx hb d_F_isAwayFromZero_67 d_F_isAwayFromZero_68 (tgt := 84) (by decide) (fun hc => ?_) (fun hc => ?_)
    · have h := h.1 hc
      exact w_F_isAwayFromZero_84 hfl K  M _ _ _ h (lv_sub hl [] rfl) hw
    · have h := h.2 hc
      refine lv_dload hx hb d_F_isAwayFromZero_71 (lv_at hl 3 rfl) ?_
      refine lv_ldc2d (v := (4602678819172646912 : UInt64)) hx hb K.2.2.2.1 (nf_Kg K nw_643) d_F_isAwayFromZero_73 ?_
      refine nf_dl_ne hx hb d_F_isAwayFromZero_76 d_F_isAwayFromZero_77 (tgt := 88) (by decide) (fun hc => ?_) (fun hc => ?_)
      · have h := h.1 hc
        refine lv_iload_n hx hb d_F_isAwayFromZero_80 rfl (lv_at hl 1 rfl) ?_
        refine nf_if_ne hx hb d_F_isAwayFromZero_81 (tgt := 88) (by decide) (fun hc => ?_) (fun hc => ?_)
        · have h := h.1 hc
          exact w_F_isAwayFromZero_84 hfl K  M _ _ _ h (lv_sub hl [] rfl) hw
        · have h := h.2 hc
          exact w_F_isAwayFromZero_88 hfl K  M _ _ _ h (lv_sub hl [] rfl) hw
      · have h := h.2 hc
        exact w_F_isAwayFromZero_88 hfl K  M _ _ _ h (lv_sub hl [] rfl) hw
  have h := h.2 hc
  have q3 := nf_ne hc (k := 4) (by decide)
  clear hc
  refine lv_tableOut hx hb d_F_isAwayFromZero_1 (by omega) (tgt := 90) (by decide) ?_
  refine lv_lload_n hx hb d_F_isAwayFromZero_90 rfl (lv_at hl 2 rfl) ?_
  refine lv_dload hx hb d_F_isAwayFromZero_91 (lv_at hl 3 rfl) ?_
  refine nf_callW (ex := (fun _ _ => False)) (As := [.long x2, .double x4]) (st0 := [.double x4, .long x2]) (rest := []) K hw (nf_invS hx hb K.2.2.2.1 (nf_Kg K nw_644) (nf_Kg K nw_645) (nf_Kg K nw_1) (nf_Kg K nw_646) ⟨by decide, by decide⟩ rfl nl_F_isHalfEvenUp rfl d_F_isAwayFromZero_93) (c_F_isHalfEvenUp l hfl x2 x4) nw_646 nw_1 rfl ⟨by decide, by decide⟩ (Nat.le_of_ble_eq_true rfl) hl.1 ⟨Nat.le_of_ble_eq_true rfl, Nat.le_of_ble_eq_true rfl⟩ h (fun _ _ h => h.elim) (fun r4 M5 H locs h hw => ?_)
  refine W.eq (g2 := F0 m 96 ls [.int r4]) rfl ?_
  obtain ⟨g6, h⟩ := h
  exact nf_iret K hw d_F_isAwayFromZero_96 g6 (Nat.le_of_ble_eq_true rfl) (Nat.le_of_ble_eq_true rfl) (r := r4) rfl h
theorem d_F_floatingOne_0 : decode nb_F_floatingOne 0 = .ok (.iload_n 0, 1) := by decide +kernel
theorem d_F_floatingOne_1 : decode nb_F_floatingOne 1 = .ok (.ifCond .ne 6, 3) := by decide +kernel
theorem d_F_floatingOne_4 : decode nb_F_floatingOne 4 = .ok (.dload_n 1, 1) := by decide +kernel
theorem d_F_floatingOne_5 : decode nb_F_floatingOne 5 = .ok (.dneg, 1) := by decide +kernel
theorem d_F_floatingOne_6 : decode nb_F_floatingOne 6 = .ok (.dreturn, 1) := by decide +kernel
theorem d_F_floatingOne_7 : decode nb_F_floatingOne 7 = .ok (.iload_n 0, 1) := by decide +kernel
theorem d_F_floatingOne_8 : decode nb_F_floatingOne 8 = .ok (.iconst 1, 1) := by decide +kernel
theorem d_F_floatingOne_9 : decode nb_F_floatingOne 9 = .ok (.if_icmp .ne 8, 3) := by decide +kernel
theorem d_F_floatingOne_12 : decode nb_F_floatingOne 12 = .ok (.dload_n 1, 1) := by decide +kernel
theorem d_F_floatingOne_13 : decode nb_F_floatingOne 13 = .ok (.invokestatic 287, 3) := by decide +kernel
theorem d_F_floatingOne_16 : decode nb_F_floatingOne 16 = .ok (.dreturn, 1) := by decide +kernel
theorem d_F_floatingOne_17 : decode nb_F_floatingOne 17 = .ok (.dload_n 1, 1) := by decide +kernel
theorem d_F_floatingOne_18 : decode nb_F_floatingOne 18 = .ok (.dconst 0, 1) := by decide +kernel
theorem d_F_floatingOne_19 : decode nb_F_floatingOne 19 = .ok (.dcmp .l, 1) := by decide +kernel
theorem d_F_floatingOne_20 : decode nb_F_floatingOne 20 = .ok (.ifCond .eq 14, 3) := by decide +kernel
theorem d_F_floatingOne_23 : decode nb_F_floatingOne 23 = .ok (.dload_n 1, 1) := by decide +kernel
theorem d_F_floatingOne_24 : decode nb_F_floatingOne 24 = .ok (.invokestatic 287, 3) := by decide +kernel
theorem d_F_floatingOne_27 : decode nb_F_floatingOne 27 = .ok (.ldc2_w 388, 3) := by decide +kernel
theorem d_F_floatingOne_30 : decode nb_F_floatingOne 30 = .ok (.dcmp .l, 1) := by decide +kernel
theorem d_F_floatingOne_31 : decode nb_F_floatingOne 31 = .ok (.ifCond .lt 5, 3) := by decide +kernel
theorem d_F_floatingOne_34 : decode nb_F_floatingOne 34 = .ok (.dload_n 1, 1) := by decide +kernel
theorem d_F_floatingOne_35 : decode nb_F_floatingOne 35 = .ok (.dreturn, 1) := by decide +kernel
theorem d_F_floatingOne_36 : decode nb_F_floatingOne 36 = .ok (.dload_n 1, 1) := by decide +kernel
theorem d_F_floatingOne_37 : decode nb_F_floatingOne 37 = .ok (.invokestatic 287, 3) := by decide +kernel
theorem d_F_floatingOne_40 : decode nb_F_floatingOne 40 = .ok (.d2l, 1) := by decide +kernel
theorem d_F_floatingOne_41 : decode nb_F_floatingOne 41 = .ok (.l2d, 1) := by decide +kernel
theorem d_F_floatingOne_42 : decode nb_F_floatingOne 42 = .ok (.dstore_n 3, 1) := by decide +kernel
theorem d_F_floatingOne_43 : decode nb_F_floatingOne 43 = .ok (.iload_n 0, 1) := by decide +kernel
theorem d_F_floatingOne_44 : decode nb_F_floatingOne 44 = .ok (.dload_n 1, 1) := by decide +kernel
theorem d_F_floatingOne_45 : decode nb_F_floatingOne 45 = .ok (.dconst 0, 1) := by decide +kernel
theorem d_F_floatingOne_46 : decode nb_F_floatingOne 46 = .ok (.dcmp .g, 1) := by decide +kernel
theorem d_F_floatingOne_47 : decode nb_F_floatingOne 47 = .ok (.ifCond .ge 7, 3) := by decide +kernel
theorem d_F_floatingOne_50 : decode nb_F_floatingOne 50 = .ok (.iconst 1, 1) := by decide +kernel
theorem d_F_floatingOne_51 : decode nb_F_floatingOne 51 = .ok (.goto 4, 3) := by decide +kernel
theorem d_F_floatingOne_54 : decode nb_F_floatingOne 54 = .ok (.iconst 0, 1) := by decide +kernel
theorem d_F_floatingOne_55 : decode nb_F_floatingOne 55 = .ok (.dload_n 3, 1) := by decide +kernel
theorem d_F_floatingOne_56 : decode nb_F_floatingOne 56 = .ok (.d2l, 1) := by decide +kernel
theorem d_F_floatingOne_57 : decode nb_F_floatingOne 57 = .ok (.dload_n 1, 1) := by decide +kernel
theorem d_F_floatingOne_58 : decode nb_F_floatingOne 58 = .ok (.invokestatic 287, 3) := by decide +kernel
theorem d_F_floatingOne_61 : decode nb_F_floatingOne 61 = .ok (.dload_n 3, 1) := by decide +kernel
theorem d_F_floatingOne_62 : decode nb_F_floatingOne 62 = .ok (.dsub, 1) := by decide +kernel
theorem d_F_floatingOne_63 : decode nb_F_floatingOne 63 = .ok (.invokestatic 390, 3) := by decide +kernel
theorem d_F_floatingOne_66 : decode nb_F_floatingOne 66 = .ok (.ifCond .eq 7, 3) := by decide +kernel
theorem d_F_floatingOne_69 : decode nb_F_floatingOne 69 = .ok (.dload_n 3, 1) := by decide +kernel
theorem d_F_floatingOne_70 : decode nb_F_floatingOne 70 = .ok (.dconst 1, 1) := by decide +kernel
theorem d_F_floatingOne_71 : decode nb_F_floatingOne 71 = .ok (.dadd, 1) := by decide +kernel
theorem d_F_floatingOne_72 : decode nb_F_floatingOne 72 = .ok (.dstore_n 3, 1) := by decide +kernel
theorem d_F_floatingOne_73 : decode nb_F_floatingOne 73 = .ok (.dload_n 1, 1) := by decide +kernel
theorem d_F_floatingOne_74 : decode nb_F_floatingOne 74 = .ok (.dconst 0, 1) := by decide +kernel
theorem d_F_floatingOne_75 : decode nb_F_floatingOne 75 = .ok (.dcmp .g, 1) := by decide +kernel
theorem d_F_floatingOne_76 : decode nb_F_floatingOne 76 = .ok (.ifCond .ge 8, 3) := by decide +kernel
theorem d_F_floatingOne_79 : decode nb_F_floatingOne 79 = .ok (.dload_n 3, 1) := by decide +kernel
theorem d_F_floatingOne_80 : decode nb_F_floatingOne 80 = .ok (.dneg, 1) := by decide +kernel
theorem d_F_floatingOne_81 : decode nb_F_floatingOne 81 = .ok (.goto 4, 3) := by decide +kernel
theorem d_F_floatingOne_84 : decode nb_F_floatingOne 84 = .ok (.dload_n 3, 1) := by decide +kernel
theorem d_F_floatingOne_85 : decode nb_F_floatingOne 85 = .ok (.dreturn, 1) := by decide +kernel
abbrev rm_F_floatingOne : Room := ({ frames := 2, cells := 0, slots := 0, locals := 48 })
theorem w_F_floatingOne_34 {post : UInt64 → nf_M → Prop} (hfl : l.flags = flags0) (K : nf_K p s m args meth c "NumberForge" nb_F_floatingOne 5 (some FieldType.double) D a sz) : ∀ (x1 : UInt64) (M : nf_M) (H : Heap) (locs : List Loc) (ls : Array Slot), B_F_floatingOne_34 post x1 M → lv_has ls 5 [(1, .double x1)] → nf_W D a s sz H locs M → W p l e rm_F_floatingOne s m args below meth c H locs 0 0 (nf_MQ below (nf_Q nf_jD D a post ex (nf_A a sz)) args s rm_F_floatingOne.cells rm_F_floatingOne.slots (nf_A a sz)) (F0 m 34 ls []) := by
  have hx := K.1
  have hb := K.2.1
  intro x1 M H locs ls h hl hw
  refine lv_dload_n hx hb d_F_floatingOne_34 rfl (lv_at hl 0 rfl) ?_
  exact nf_dret K hw d_F_floatingOne_35 (Nat.le_of_ble_eq_true rfl) (Nat.le_of_ble_eq_true rfl) (r := x1) rfl h
theorem w_F_floatingOne_85 {post : UInt64 → nf_M → Prop} (hfl : l.flags = flags0) (K : nf_K p s m args meth c "NumberForge" nb_F_floatingOne 5 (some FieldType.double) D a sz) : ∀ (xy0 : UInt64) (M : nf_M) (H : Heap) (locs : List Loc) (ls : Array Slot), B_F_floatingOne_85 post xy0 M → lv_has ls 5 [] → nf_W D a s sz H locs M → W p l e rm_F_floatingOne s m args below meth c H locs 0 0 (nf_MQ below (nf_Q nf_jD D a post ex (nf_A a sz)) args s rm_F_floatingOne.cells rm_F_floatingOne.slots (nf_A a sz)) (F0 m 85 ls [.double xy0]) := by
  have hx := K.1
  have hb := K.2.1
  intro xy0 M H locs ls h hl hw
  exact nf_dret K hw d_F_floatingOne_85 (Nat.le_of_ble_eq_true rfl) (Nat.le_of_ble_eq_true rfl) (r := xy0) rfl h
theorem w_F_floatingOne_73 {post : UInt64 → nf_M → Prop} (hfl : l.flags = flags0) (K : nf_K p s m args meth c "NumberForge" nb_F_floatingOne 5 (some FieldType.double) D a sz) : ∀ (x1 : UInt64) (x3 : UInt64) (M : nf_M) (H : Heap) (locs : List Loc) (ls : Array Slot), B_F_floatingOne_73 post x1 x3 M → lv_has ls 5 [(1, .double x1), (3, .double x3)] → nf_W D a s sz H locs M → W p l e rm_F_floatingOne s m args below meth c H locs 0 0 (nf_MQ below (nf_Q nf_jD D a post ex (nf_A a sz)) args s rm_F_floatingOne.cells rm_F_floatingOne.slots (nf_A a sz)) (F0 m 73 ls []) := by
  have hx := K.1
  have hb := K.2.1
  intro x1 x3 M H locs ls h hl hw
  refine lv_dload_n hx hb d_F_floatingOne_73 rfl (lv_at hl 0 rfl) ?_
  refine lv_dconst0 hx hb d_F_floatingOne_74 ?_
  refine nf_dg_ge hx hb d_F_floatingOne_75 d_F_floatingOne_76 (tgt := 84) (by decide) (fun hc => ?_) (fun hc => ?_)
  · have h := h.1 hc
    refine lv_dload_n hx hb d_F_floatingOne_79 rfl (lv_at hl 1 rfl) ?_
    refine lv_dneg hx hb d_F_floatingOne_80 ?_
    refine lv_goto hx hb d_F_floatingOne_81 (tgt := 85) (by decide) ?_
    exact w_F_floatingOne_85 hfl K (FP.dneg x3) M _ _ _ h (lv_sub hl [] rfl) hw
  · have h := h.2 hc
    refine lv_dload_n hx hb d_F_floatingOne_84 rfl (lv_at hl 1 rfl) ?_
    exact w_F_floatingOne_85 hfl K x3 M _ _ _ h (lv_sub hl [] rfl) hw
theorem w_F_floatingOne_55 {post : UInt64 → nf_M → Prop} (hfl : l.flags = flags0) (K : nf_K p s m args meth c "NumberForge" nb_F_floatingOne 5 (some FieldType.double) D a sz) : ∀ (x1 : UInt64) (x3 : UInt64) (xy0 : Int32) (xy1 : Int32) (M : nf_M) (H : Heap) (locs : List Loc) (ls : Array Slot), B_F_floatingOne_55 post x1 x3 xy0 xy1 M → lv_has ls 5 [(1, .double x1), (3, .double x3)] → nf_W D a s sz H locs M → W p l e rm_F_floatingOne s m args below meth c H locs 0 0 (nf_MQ below (nf_Q nf_jD D a post ex (nf_A a sz)) args s rm_F_floatingOne.cells rm_F_floatingOne.slots (nf_A a sz)) (F0 m 55 ls [.int xy0, .int xy1]) := by
  have hx := K.1
  have hb := K.2.1
  intro x1 x3 xy0 xy1 M H locs ls h hl hw
  refine lv_dload_n hx hb d_F_floatingOne_55 rfl (lv_at hl 1 rfl) ?_
  refine lv_d2l hx hb d_F_floatingOne_56 ?_
  refine lv_dload_n hx hb d_F_floatingOne_57 rfl (lv_at hl 0 rfl) ?_
  refine nf_callW (ex := (fun _ _ => False)) (As := [.double x1]) (st0 := [.double x1, .long (FP.d2l x3), .int xy0, .int xy1]) (rest := [.long (FP.d2l x3), .int xy0, .int xy1]) K hw (nf_invS hx hb K.2.2.2.1 (nf_Kg K nw_493) (nf_Kg K nw_494) (nf_Kg K nw_1) (nf_Kg K nw_495) ⟨by decide, by decide⟩ rfl nl_F_amount rfl d_F_floatingOne_58) (c_F_amount l hfl x1) nw_495 nw_1 rfl ⟨by decide, by decide⟩ (Nat.le_of_ble_eq_true rfl) hl.1 ⟨Nat.le_of_ble_eq_true rfl, Nat.le_of_ble_eq_true rfl⟩ h (fun _ _ h => h.elim) (fun r1 M2 H locs h hw => ?_)
  refine W.eq (g2 := F0 m 61 ls [.double r1, .long (FP.d2l x3), .int xy0, .int xy1]) rfl ?_
  refine lv_dload_n hx hb d_F_floatingOne_61 rfl (lv_at hl 1 rfl) ?_
  obtain ⟨g3, h⟩ := h
  refine lv_dsub hx hb d_F_floatingOne_62 g3 ?_
  refine nf_callW (ex := (fun _ _ => False)) (As := [.int xy1, .int xy0, .long (FP.d2l x3), .double (FP.dsub r1 x3)]) (st0 := [.double (FP.dsub r1 x3), .long (FP.d2l x3), .int xy0, .int xy1]) (rest := []) K hw (nf_invS hx hb K.2.2.2.1 (nf_Kg K nw_640) (nf_Kg K nw_641) (nf_Kg K nw_1) (nf_Kg K nw_642) ⟨by decide, by decide⟩ rfl nl_F_isAwayFromZero rfl d_F_floatingOne_63) (c_F_isAwayFromZero l hfl xy1 xy0 (FP.d2l x3) (FP.dsub r1 x3)) nw_642 nw_1 rfl ⟨by decide, by decide⟩ (Nat.le_of_ble_eq_true rfl) hl.1 ⟨Nat.le_of_ble_eq_true rfl, Nat.le_of_ble_eq_true rfl⟩ h (fun _ _ h => h.elim) (fun r4 M5 H locs h hw => ?_)
  refine W.eq (g2 := F0 m 66 ls [.int r4]) rfl ?_
  refine nf_if_eq hx hb d_F_floatingOne_66 (tgt := 73) (by decide) (fun hc => ?_) (fun hc => ?_)
  · have h := h.1 hc
    exact w_F_floatingOne_73 hfl K x1 x3 M5 _ _ _ h (lv_sub hl [0, 1] rfl) hw
  · have h := h.2 hc
    refine lv_dload_n hx hb d_F_floatingOne_69 rfl (lv_at hl 1 rfl) ?_
    refine lv_dconst1 hx hb d_F_floatingOne_70 ?_
    obtain ⟨g6, h⟩ := h
    refine lv_dadd hx hb d_F_floatingOne_71 g6 ?_
    refine lv_topd (fun t7 et7 => ?_)
    have h := h t7 et7
    refine lv_dstore_n (lv' := [(3, .double t7), (1, .double x1)]) hx hb d_F_floatingOne_72 rfl hl (by decide) rfl (fun ls hl => ?_)
    exact w_F_floatingOne_73 hfl K x1 t7 M5 _ _ _ h (lv_sub hl [1, 0] rfl) hw
theorem c_F_floatingOne (l : Launch) (hfl : l.flags = flags0) (x0 : Int32) (x1 : UInt64) : nf_C nf_jD l nm_F_floatingOne nb_F_floatingOne 5 (some FieldType.double) rm_F_floatingOne (fun a => [.int x0, .double x1]) (fun M post ex => P_F_floatingOne x0 x1 M post) := by
  refine nf_start (plainFor_of_name (by decide +kernel)) (fun a => Nat.le_of_ble_eq_true rfl) ?_
  intro D a sz M post ex p e s m below meth c ls h K hl hw
  have hx := K.1
  have hb := K.2.1
  have hl : lv_has ls 5 [(0, .int x0), (1, .double x1)] := hl
  refine lv_iload_n hx hb d_F_floatingOne_0 rfl (lv_at hl 0 rfl) ?_
  refine nf_if_ne hx hb d_F_floatingOne_1 (tgt := 7) (by decide) (fun hc => ?_) (fun hc => ?_)
  · have h := h.1 hc
    refine lv_dload_n hx hb d_F_floatingOne_4 rfl (lv_at hl 1 rfl) ?_
    refine lv_dneg hx hb d_F_floatingOne_5 ?_
    exact nf_dret K hw d_F_floatingOne_6 (Nat.le_of_ble_eq_true rfl) (Nat.le_of_ble_eq_true rfl) (r := FP.dneg x1) rfl h
  · have h := h.2 hc
    refine lv_iload_n hx hb d_F_floatingOne_7 rfl (lv_at hl 0 rfl) ?_
    refine lv_iconst (v := (1 : Int32)) hx hb d_F_floatingOne_8 (by decide) ?_
    refine nf_ic_ne hx hb d_F_floatingOne_9 (tgt := 17) (by decide) (fun hc => ?_) (fun hc => ?_)
    · have h := h.1 hc
      refine lv_dload_n hx hb d_F_floatingOne_12 rfl (lv_at hl 1 rfl) ?_
      refine nf_callW (ex := (fun _ _ => False)) (As := [.double x1]) (st0 := [.double x1]) (rest := []) K hw (nf_invS hx hb K.2.2.2.1 (nf_Kg K nw_493) (nf_Kg K nw_494) (nf_Kg K nw_1) (nf_Kg K nw_495) ⟨by decide, by decide⟩ rfl nl_F_amount rfl d_F_floatingOne_13) (c_F_amount l hfl x1) nw_495 nw_1 rfl ⟨by decide, by decide⟩ (Nat.le_of_ble_eq_true rfl) hl.1 ⟨Nat.le_of_ble_eq_true rfl, Nat.le_of_ble_eq_true rfl⟩ h (fun _ _ h => h.elim) (fun r1 M2 H locs h hw => ?_)
      refine W.eq (g2 := F0 m 16 ls [.double r1]) rfl ?_
      exact nf_dret K hw d_F_floatingOne_16 (Nat.le_of_ble_eq_true rfl) (Nat.le_of_ble_eq_true rfl) (r := r1) rfl h
    · have h := h.2 hc
      refine lv_dload_n hx hb d_F_floatingOne_17 rfl (lv_at hl 1 rfl) ?_
      refine lv_dconst0 hx hb d_F_floatingOne_18 ?_
      refine nf_dl_eq hx hb d_F_floatingOne_19 d_F_floatingOne_20 (tgt := 34) (by decide) (fun hc => ?_) (fun hc => ?_)
      · have h := h.1 hc
        exact w_F_floatingOne_34 hfl K x1 M _ _ _ h (lv_sub hl [1] rfl) hw
      · have h := h.2 hc
        refine lv_dload_n hx hb d_F_floatingOne_23 rfl (lv_at hl 1 rfl) ?_
        refine nf_callW (ex := (fun _ _ => False)) (As := [.double x1]) (st0 := [.double x1]) (rest := []) K hw (nf_invS hx hb K.2.2.2.1 (nf_Kg K nw_493) (nf_Kg K nw_494) (nf_Kg K nw_1) (nf_Kg K nw_495) ⟨by decide, by decide⟩ rfl nl_F_amount rfl d_F_floatingOne_24) (c_F_amount l hfl x1) nw_495 nw_1 rfl ⟨by decide, by decide⟩ (Nat.le_of_ble_eq_true rfl) hl.1 ⟨Nat.le_of_ble_eq_true rfl, Nat.le_of_ble_eq_true rfl⟩ h (fun _ _ h => h.elim) (fun r3 M4 H locs h hw => ?_)
        refine W.eq (g2 := F0 m 27 ls [.double r3]) rfl ?_
        refine lv_ldc2d (v := (4841369599423283200 : UInt64)) hx hb K.2.2.2.1 (nf_Kg K nw_639) d_F_floatingOne_27 ?_
        refine nf_dl_lt hx hb d_F_floatingOne_30 d_F_floatingOne_31 (tgt := 36) (by decide) (fun hc => ?_) (fun hc => ?_)
        · have h := h.1 hc
          exact w_F_floatingOne_34 hfl K x1 M4 _ _ _ h (lv_sub hl [1] rfl) hw
        · have h := h.2 hc
          refine lv_dload_n hx hb d_F_floatingOne_36 rfl (lv_at hl 1 rfl) ?_
          refine nf_callW (ex := (fun _ _ => False)) (As := [.double x1]) (st0 := [.double x1]) (rest := []) K hw (nf_invS hx hb K.2.2.2.1 (nf_Kg K nw_493) (nf_Kg K nw_494) (nf_Kg K nw_1) (nf_Kg K nw_495) ⟨by decide, by decide⟩ rfl nl_F_amount rfl d_F_floatingOne_37) (c_F_amount l hfl x1) nw_495 nw_1 rfl ⟨by decide, by decide⟩ (Nat.le_of_ble_eq_true rfl) hl.1 ⟨Nat.le_of_ble_eq_true rfl, Nat.le_of_ble_eq_true rfl⟩ h (fun _ _ h => h.elim) (fun r5 M6 H locs h hw => ?_)
          refine W.eq (g2 := F0 m 40 ls [.double r5]) rfl ?_
          refine lv_d2l hx hb d_F_floatingOne_40 ?_
          refine lv_l2d hx hb d_F_floatingOne_41 ?_
          refine lv_topd (fun t7 et7 => ?_)
          have h := h t7 et7
          refine lv_dstore_n (lv' := [(3, .double t7), (0, .int x0), (1, .double x1)]) hx hb d_F_floatingOne_42 rfl hl (by decide) rfl (fun ls hl => ?_)
          refine lv_iload_n hx hb d_F_floatingOne_43 rfl (lv_at hl 1 rfl) ?_
          refine lv_dload_n hx hb d_F_floatingOne_44 rfl (lv_at hl 2 rfl) ?_
          refine lv_dconst0 hx hb d_F_floatingOne_45 ?_
          refine nf_dg_ge hx hb d_F_floatingOne_46 d_F_floatingOne_47 (tgt := 54) (by decide) (fun hc => ?_) (fun hc => ?_)
          · have h := h.1 hc
            refine lv_iconst (v := (1 : Int32)) hx hb d_F_floatingOne_50 (by decide) ?_
            refine lv_goto hx hb d_F_floatingOne_51 (tgt := 55) (by decide) ?_
            exact w_F_floatingOne_55 hfl K x1 t7 (1 : Int32) x0 M6 _ _ _ h (lv_sub hl [2, 0] rfl) hw
          · have h := h.2 hc
            refine lv_iconst (v := (0 : Int32)) hx hb d_F_floatingOne_54 (by decide) ?_
            exact w_F_floatingOne_55 hfl K x1 t7 (0 : Int32) x0 M6 _ _ _ h (lv_sub hl [2, 0] rfl) hw
theorem d_JM_floorDiv_0 : decode nb_JM_floorDiv 0 = .ok (.lload_n 0, 1) := by decide +kernel
theorem d_JM_floorDiv_1 : decode nb_JM_floorDiv 1 = .ok (.lload_n 2, 1) := by decide +kernel
theorem d_JM_floorDiv_2 : decode nb_JM_floorDiv 2 = .ok (.ldiv, 1) := by decide +kernel
theorem d_JM_floorDiv_3 : decode nb_JM_floorDiv 3 = .ok (.lstore 4, 2) := by decide +kernel
theorem d_JM_floorDiv_5 : decode nb_JM_floorDiv 5 = .ok (.lload_n 0, 1) := by decide +kernel
theorem d_JM_floorDiv_6 : decode nb_JM_floorDiv 6 = .ok (.lload_n 2, 1) := by decide +kernel
theorem d_JM_floorDiv_7 : decode nb_JM_floorDiv 7 = .ok (.lxor, 1) := by decide +kernel
theorem d_JM_floorDiv_8 : decode nb_JM_floorDiv 8 = .ok (.lconst 0, 1) := by decide +kernel
theorem d_JM_floorDiv_9 : decode nb_JM_floorDiv 9 = .ok (.lcmp, 1) := by decide +kernel
theorem d_JM_floorDiv_10 : decode nb_JM_floorDiv 10 = .ok (.ifCond .ge 17, 3) := by decide +kernel
theorem d_JM_floorDiv_13 : decode nb_JM_floorDiv 13 = .ok (.lload 4, 2) := by decide +kernel
theorem d_JM_floorDiv_15 : decode nb_JM_floorDiv 15 = .ok (.lload_n 2, 1) := by decide +kernel
theorem d_JM_floorDiv_16 : decode nb_JM_floorDiv 16 = .ok (.lmul, 1) := by decide +kernel
theorem d_JM_floorDiv_17 : decode nb_JM_floorDiv 17 = .ok (.lload_n 0, 1) := by decide +kernel
theorem d_JM_floorDiv_18 : decode nb_JM_floorDiv 18 = .ok (.lcmp, 1) := by decide +kernel
theorem d_JM_floorDiv_19 : decode nb_JM_floorDiv 19 = .ok (.ifCond .eq 8, 3) := by decide +kernel
theorem d_JM_floorDiv_22 : decode nb_JM_floorDiv 22 = .ok (.lload 4, 2) := by decide +kernel
theorem d_JM_floorDiv_24 : decode nb_JM_floorDiv 24 = .ok (.lconst 1, 1) := by decide +kernel
theorem d_JM_floorDiv_25 : decode nb_JM_floorDiv 25 = .ok (.lsub, 1) := by decide +kernel
theorem d_JM_floorDiv_26 : decode nb_JM_floorDiv 26 = .ok (.lreturn, 1) := by decide +kernel
theorem d_JM_floorDiv_27 : decode nb_JM_floorDiv 27 = .ok (.lload 4, 2) := by decide +kernel
theorem d_JM_floorDiv_29 : decode nb_JM_floorDiv 29 = .ok (.lreturn, 1) := by decide +kernel
abbrev rm_JM_floorDiv : Room := ({ frames := 0, cells := 0, slots := 0, locals := 0 })
theorem w_JM_floorDiv_27 {post : Int64 → nf_M → Prop} (hfl : l.flags = flags0) (K : nf_K p s m args meth c "java/lang/Math" nb_JM_floorDiv 6 (some FieldType.long) D a sz) : ∀ (x4 : Int64) (M : nf_M) (H : Heap) (locs : List Loc) (ls : Array Slot), B_JM_floorDiv_27 post x4 M → lv_has ls 6 [(4, .long x4)] → nf_W D a s sz H locs M → W p l e rm_JM_floorDiv s m args below meth c H locs 0 0 (nf_MQ below (nf_Q nf_jJ D a post ex (nf_A a sz)) args s rm_JM_floorDiv.cells rm_JM_floorDiv.slots (nf_A a sz)) (F0 m 27 ls []) := by
  have hx := K.1
  have hb := K.2.1
  intro x4 M H locs ls h hl hw
  refine lv_lload hx hb d_JM_floorDiv_27 (lv_at hl 0 rfl) ?_
  exact nf_lret K hw d_JM_floorDiv_29 (Nat.le_of_ble_eq_true rfl) (Nat.le_of_ble_eq_true rfl) (r := x4) rfl h
theorem c_JM_floorDiv (l : Launch) (hfl : l.flags = flags0) (x0 : Int64) (x2 : Int64) : nf_C nf_jJ l nm_JM_floorDiv nb_JM_floorDiv 6 (some FieldType.long) rm_JM_floorDiv (fun a => [.long x0, .long x2]) (fun M post ex => P_JM_floorDiv x0 x2 M post) := by
  refine nf_start (by decide +kernel) (fun a => Nat.le_of_ble_eq_true rfl) ?_
  intro D a sz M post ex p e s m below meth c ls h K hl hw
  have hx := K.1
  have hb := K.2.1
  have hl : lv_has ls 6 [(0, .long x0), (2, .long x2)] := hl
  refine lv_lload_n hx hb d_JM_floorDiv_0 rfl (lv_at hl 0 rfl) ?_
  refine lv_lload_n hx hb d_JM_floorDiv_1 rfl (lv_at hl 1 rfl) ?_
  obtain ⟨g1, h⟩ := h
  refine lv_ldiv hx hb d_JM_floorDiv_2 g1 ?_
  refine lv_topl (fun t2 et2 => ?_)
  have h := h t2 et2
  refine lv_lstore (lv' := [(4, .long t2), (0, .long x0), (2, .long x2)]) hx hb d_JM_floorDiv_3 hl (by decide) rfl (fun ls hl => ?_)
  refine lv_lload_n hx hb d_JM_floorDiv_5 rfl (lv_at hl 1 rfl) ?_
  refine lv_lload_n hx hb d_JM_floorDiv_6 rfl (lv_at hl 2 rfl) ?_
  refine lv_lxor hx hb d_JM_floorDiv_7 ?_
  refine lv_lconst (v := (0 : Int64)) hx hb d_JM_floorDiv_8 (by decide) ?_
  refine nf_lc_ge hx hb d_JM_floorDiv_9 d_JM_floorDiv_10 (tgt := 27) (by decide) (fun hc => ?_) (fun hc => ?_)
  · have h := h.1 hc
    refine lv_lload hx hb d_JM_floorDiv_13 (lv_at hl 0 rfl) ?_
    refine lv_lload_n hx hb d_JM_floorDiv_15 rfl (lv_at hl 2 rfl) ?_
    refine lv_lmul hx hb d_JM_floorDiv_16 ?_
    refine lv_lload_n hx hb d_JM_floorDiv_17 rfl (lv_at hl 1 rfl) ?_
    refine nf_lc_eq hx hb d_JM_floorDiv_18 d_JM_floorDiv_19 (tgt := 27) (by decide) (fun hc => ?_) (fun hc => ?_)
    · have h := h.1 hc
      exact w_JM_floorDiv_27 hfl K t2 M _ _ _ h (lv_sub hl [0] rfl) hw
    · have h := h.2 hc
      refine lv_lload hx hb d_JM_floorDiv_22 (lv_at hl 0 rfl) ?_
      refine lv_lconst (v := (1 : Int64)) hx hb d_JM_floorDiv_24 (by decide) ?_
      refine lv_lsub hx hb d_JM_floorDiv_25 ?_
      exact nf_lret K hw d_JM_floorDiv_26 (Nat.le_of_ble_eq_true rfl) (Nat.le_of_ble_eq_true rfl) (r := t2 - (1 : Int64)) rfl h
  · have h := h.2 hc
    exact w_JM_floorDiv_27 hfl K t2 M _ _ _ h (lv_sub hl [0] rfl) hw
theorem d_F_floor_0 : decode nb_F_floor 0 = .ok (.lload_n 2, 1) := by decide +kernel
theorem d_F_floor_1 : decode nb_F_floor 1 = .ok (.lconst 0, 1) := by decide +kernel
theorem d_F_floor_2 : decode nb_F_floor 2 = .ok (.lcmp, 1) := by decide +kernel
theorem d_F_floor_3 : decode nb_F_floor 3 = .ok (.ifCond .ne 7, 3) := by decide +kernel
theorem d_F_floor_6 : decode nb_F_floor 6 = .ok (.lconst 0, 1) := by decide +kernel
theorem d_F_floor_7 : decode nb_F_floor 7 = .ok (.goto 8, 3) := by decide +kernel
theorem d_F_floor_10 : decode nb_F_floor 10 = .ok (.lload_n 0, 1) := by decide +kernel
theorem d_F_floor_11 : decode nb_F_floor 11 = .ok (.lload_n 2, 1) := by decide +kernel
theorem d_F_floor_12 : decode nb_F_floor 12 = .ok (.invokestatic 404, 3) := by decide +kernel
theorem d_F_floor_15 : decode nb_F_floor 15 = .ok (.lreturn, 1) := by decide +kernel
abbrev rm_F_floor : Room := ({ frames := 1, cells := 0, slots := 0, locals := 25 })
theorem w_F_floor_15 {post : Int64 → nf_M → Prop} (hfl : l.flags = flags0) (K : nf_K p s m args meth c "NumberForge" nb_F_floor 4 (some FieldType.long) D a sz) : ∀ (xy0 : Int64) (M : nf_M) (H : Heap) (locs : List Loc) (ls : Array Slot), B_F_floor_15 post xy0 M → lv_has ls 4 [] → nf_W D a s sz H locs M → W p l e rm_F_floor s m args below meth c H locs 0 0 (nf_MQ below (nf_Q nf_jJ D a post ex (nf_A a sz)) args s rm_F_floor.cells rm_F_floor.slots (nf_A a sz)) (F0 m 15 ls [.long xy0]) := by
  have hx := K.1
  have hb := K.2.1
  intro xy0 M H locs ls h hl hw
  exact nf_lret K hw d_F_floor_15 (Nat.le_of_ble_eq_true rfl) (Nat.le_of_ble_eq_true rfl) (r := xy0) rfl h
theorem c_F_floor (l : Launch) (hfl : l.flags = flags0) (x0 : Int64) (x2 : Int64) : nf_C nf_jJ l nm_F_floor nb_F_floor 4 (some FieldType.long) rm_F_floor (fun a => [.long x0, .long x2]) (fun M post ex => P_F_floor x0 x2 M post) := by
  refine nf_start (plainFor_of_name (by decide +kernel)) (fun a => Nat.le_of_ble_eq_true rfl) ?_
  intro D a sz M post ex p e s m below meth c ls h K hl hw
  have hx := K.1
  have hb := K.2.1
  have hl : lv_has ls 4 [(0, .long x0), (2, .long x2)] := hl
  refine lv_lload_n hx hb d_F_floor_0 rfl (lv_at hl 1 rfl) ?_
  refine lv_lconst (v := (0 : Int64)) hx hb d_F_floor_1 (by decide) ?_
  refine nf_lc_ne hx hb d_F_floor_2 d_F_floor_3 (tgt := 10) (by decide) (fun hc => ?_) (fun hc => ?_)
  · have h := h.1 hc
    refine lv_lconst (v := (0 : Int64)) hx hb d_F_floor_6 (by decide) ?_
    refine lv_goto hx hb d_F_floor_7 (tgt := 15) (by decide) ?_
    exact w_F_floor_15 hfl K (0 : Int64) M _ _ _ h (lv_sub hl [] rfl) hw
  · have h := h.2 hc
    refine lv_lload_n hx hb d_F_floor_10 rfl (lv_at hl 0 rfl) ?_
    refine lv_lload_n hx hb d_F_floor_11 rfl (lv_at hl 1 rfl) ?_
    refine nf_callW (ex := (fun _ _ => False)) (As := [.long x0, .long x2]) (st0 := [.long x2, .long x0]) (rest := []) K hw (nf_invS hx hb K.2.2.2.1 (nf_Kg K nw_657) (nf_Kg K nw_658) (nf_Kg K nw_4) (nf_Kg K nw_659) ⟨by decide, by decide⟩ rfl nl_JM_floorDiv rfl d_F_floor_12) (c_JM_floorDiv l hfl x0 x2) nw_659 nw_4 rfl ⟨by decide, by decide⟩ (Nat.le_of_ble_eq_true rfl) hl.1 ⟨Nat.le_of_ble_eq_true rfl, Nat.le_of_ble_eq_true rfl⟩ h (fun _ _ h => h.elim) (fun r1 M2 H locs h hw => ?_)
    refine W.eq (g2 := F0 m 15 ls [.long r1]) rfl ?_
    exact w_F_floor_15 hfl K r1 M2 _ _ _ h (lv_sub hl [] rfl) hw
theorem d_F_overHalfEven_0 : decode nb_F_overHalfEven 0 = .ok (.lload_n 0, 1) := by decide +kernel
theorem d_F_overHalfEven_1 : decode nb_F_overHalfEven 1 = .ok (.lload_n 2, 1) := by decide +kernel
theorem d_F_overHalfEven_2 : decode nb_F_overHalfEven 2 = .ok (.invokestatic 260, 3) := by decide +kernel
theorem d_F_overHalfEven_5 : decode nb_F_overHalfEven 5 = .ok (.lstore 4, 2) := by decide +kernel
theorem d_F_overHalfEven_7 : decode nb_F_overHalfEven 7 = .ok (.lload 4, 2) := by decide +kernel
theorem d_F_overHalfEven_9 : decode nb_F_overHalfEven 9 = .ok (.lload 4, 2) := by decide +kernel
theorem d_F_overHalfEven_11 : decode nb_F_overHalfEven 11 = .ok (.lload_n 0, 1) := by decide +kernel
theorem d_F_overHalfEven_12 : decode nb_F_overHalfEven 12 = .ok (.lload_n 2, 1) := by decide +kernel
theorem d_F_overHalfEven_13 : decode nb_F_overHalfEven 13 = .ok (.invokestatic 264, 3) := by decide +kernel
theorem d_F_overHalfEven_16 : decode nb_F_overHalfEven 16 = .ok (.lload_n 2, 1) := by decide +kernel
theorem d_F_overHalfEven_17 : decode nb_F_overHalfEven 17 = .ok (.invokestatic 267, 3) := by decide +kernel
theorem d_F_overHalfEven_20 : decode nb_F_overHalfEven 20 = .ok (.ifCond .eq 7, 3) := by decide +kernel
theorem d_F_overHalfEven_23 : decode nb_F_overHalfEven 23 = .ok (.iconst 1, 1) := by decide +kernel
theorem d_F_overHalfEven_24 : decode nb_F_overHalfEven 24 = .ok (.goto 4, 3) := by decide +kernel
theorem d_F_overHalfEven_27 : decode nb_F_overHalfEven 27 = .ok (.iconst 0, 1) := by decide +kernel
theorem d_F_overHalfEven_28 : decode nb_F_overHalfEven 28 = .ok (.i2l, 1) := by decide +kernel
theorem d_F_overHalfEven_29 : decode nb_F_overHalfEven 29 = .ok (.ladd, 1) := by decide +kernel
theorem d_F_overHalfEven_30 : decode nb_F_overHalfEven 30 = .ok (.lreturn, 1) := by decide +kernel
abbrev rm_F_overHalfEven : Room := ({ frames := 1, cells := 0, slots := 0, locals := 25 })
theorem w_F_overHalfEven_28 {post : Int64 → nf_M → Prop} (hfl : l.flags = flags0) (K : nf_K p s m args meth c "NumberForge" nb_F_overHalfEven 6 (some FieldType.long) D a sz) : ∀ (xy0 : Int32) (xy1 : Int64) (M : nf_M) (H : Heap) (locs : List Loc) (ls : Array Slot), B_F_overHalfEven_28 post xy0 xy1 M → lv_has ls 6 [] → nf_W D a s sz H locs M → W p l e rm_F_overHalfEven s m args below meth c H locs 0 0 (nf_MQ below (nf_Q nf_jJ D a post ex (nf_A a sz)) args s rm_F_overHalfEven.cells rm_F_overHalfEven.slots (nf_A a sz)) (F0 m 28 ls [.int xy0, .long xy1]) := by
  have hx := K.1
  have hb := K.2.1
  intro xy0 xy1 M H locs ls h hl hw
  refine lv_i2l hx hb d_F_overHalfEven_28 rfl ?_
  refine lv_ladd hx hb d_F_overHalfEven_29 ?_
  exact nf_lret K hw d_F_overHalfEven_30 (Nat.le_of_ble_eq_true rfl) (Nat.le_of_ble_eq_true rfl) (r := xy1 + (xy0.toInt64)) rfl h
theorem c_F_overHalfEven (l : Launch) (hfl : l.flags = flags0) (x0 : Int64) (x2 : Int64) : nf_C nf_jJ l nm_F_overHalfEven nb_F_overHalfEven 6 (some FieldType.long) rm_F_overHalfEven (fun a => [.long x0, .long x2]) (fun M post ex => P_F_overHalfEven x0 x2 M post) := by
  refine nf_start (plainFor_of_name (by decide +kernel)) (fun a => Nat.le_of_ble_eq_true rfl) ?_
  intro D a sz M post ex p e s m below meth c ls h K hl hw
  have hx := K.1
  have hb := K.2.1
  have hl : lv_has ls 6 [(0, .long x0), (2, .long x2)] := hl
  refine lv_lload_n hx hb d_F_overHalfEven_0 rfl (lv_at hl 0 rfl) ?_
  refine lv_lload_n hx hb d_F_overHalfEven_1 rfl (lv_at hl 1 rfl) ?_
  refine nf_callW (ex := (fun _ _ => False)) (As := [.long x0, .long x2]) (st0 := [.long x2, .long x0]) (rest := []) K hw (nf_invS hx hb K.2.2.2.1 (nf_Kg K nw_553) (nf_Kg K nw_554) (nf_Kg K nw_1) (nf_Kg K nw_555) ⟨by decide, by decide⟩ rfl nl_F_over rfl d_F_overHalfEven_2) (c_F_over l hfl x0 x2) nw_555 nw_1 rfl ⟨by decide, by decide⟩ (Nat.le_of_ble_eq_true rfl) hl.1 ⟨Nat.le_of_ble_eq_true rfl, Nat.le_of_ble_eq_true rfl⟩ h (fun _ _ h => h.elim) (fun r1 M2 H locs h hw => ?_)
  refine W.eq (g2 := F0 m 5 ls [.long r1]) rfl ?_
  refine lv_lstore (lv' := [(4, .long r1), (0, .long x0), (2, .long x2)]) hx hb d_F_overHalfEven_5 hl (by decide) rfl (fun ls hl => ?_)
  refine lv_lload hx hb d_F_overHalfEven_7 (lv_at hl 0 rfl) ?_
  refine lv_lload hx hb d_F_overHalfEven_9 (lv_at hl 0 rfl) ?_
  refine lv_lload_n hx hb d_F_overHalfEven_11 rfl (lv_at hl 1 rfl) ?_
  refine lv_lload_n hx hb d_F_overHalfEven_12 rfl (lv_at hl 2 rfl) ?_
  refine nf_callW (ex := (fun _ _ => False)) (As := [.long x0, .long x2]) (st0 := [.long x2, .long x0, .long r1, .long r1]) (rest := [.long r1, .long r1]) K hw (nf_invS hx hb K.2.2.2.1 (nf_Kg K nw_628) (nf_Kg K nw_581) (nf_Kg K nw_1) (nf_Kg K nw_582) ⟨by decide, by decide⟩ rfl nl_F_left rfl d_F_overHalfEven_13) (c_F_left l hfl x0 x2) nw_582 nw_1 rfl ⟨by decide, by decide⟩ (Nat.le_of_ble_eq_true rfl) hl.1 ⟨Nat.le_of_ble_eq_true rfl, Nat.le_of_ble_eq_true rfl⟩ h (fun _ _ h => h.elim) (fun r3 M4 H locs h hw => ?_)
  refine W.eq (g2 := F0 m 16 ls [.long r3, .long r1, .long r1]) rfl ?_
  refine lv_lload_n hx hb d_F_overHalfEven_16 rfl (lv_at hl 2 rfl) ?_
  refine nf_callW (ex := (fun _ _ => False)) (As := [.long r1, .long r3, .long x2]) (st0 := [.long x2, .long r3, .long r1, .long r1]) (rest := [.long r1]) K hw (nf_invS hx hb K.2.2.2.1 (nf_Kg K nw_618) (nf_Kg K nw_584) (nf_Kg K nw_1) (nf_Kg K nw_585) ⟨by decide, by decide⟩ rfl nl_F_isRoundedUp rfl d_F_overHalfEven_17) (c_F_isRoundedUp l hfl r1 r3 x2) nw_585 nw_1 rfl ⟨by decide, by decide⟩ (Nat.le_of_ble_eq_true rfl) hl.1 ⟨Nat.le_of_ble_eq_true rfl, Nat.le_of_ble_eq_true rfl⟩ h (fun _ _ h => h.elim) (fun r5 M6 H locs h hw => ?_)
  refine W.eq (g2 := F0 m 20 ls [.int r5, .long r1]) rfl ?_
  refine nf_if_eq hx hb d_F_overHalfEven_20 (tgt := 27) (by decide) (fun hc => ?_) (fun hc => ?_)
  · have h := h.1 hc
    refine lv_iconst (v := (0 : Int32)) hx hb d_F_overHalfEven_27 (by decide) ?_
    exact w_F_overHalfEven_28 hfl K (0 : Int32) r1 M6 _ _ _ h (lv_sub hl [] rfl) hw
  · have h := h.2 hc
    refine lv_iconst (v := (1 : Int32)) hx hb d_F_overHalfEven_23 (by decide) ?_
    refine lv_goto hx hb d_F_overHalfEven_24 (tgt := 28) (by decide) ?_
    exact w_F_overHalfEven_28 hfl K (1 : Int32) r1 M6 _ _ _ h (lv_sub hl [] rfl) hw
theorem d_F_signedHalfEven_0 : decode nb_F_signedHalfEven 0 = .ok (.lload_n 0, 1) := by decide +kernel
theorem d_F_signedHalfEven_1 : decode nb_F_signedHalfEven 1 = .ok (.invokestatic 193, 3) := by decide +kernel
theorem d_F_signedHalfEven_4 : decode nb_F_signedHalfEven 4 = .ok (.lload_n 2, 1) := by decide +kernel
theorem d_F_signedHalfEven_5 : decode nb_F_signedHalfEven 5 = .ok (.invokestatic 407, 3) := by decide +kernel
theorem d_F_signedHalfEven_8 : decode nb_F_signedHalfEven 8 = .ok (.lstore 4, 2) := by decide +kernel
theorem d_F_signedHalfEven_10 : decode nb_F_signedHalfEven 10 = .ok (.lload_n 0, 1) := by decide +kernel
theorem d_F_signedHalfEven_11 : decode nb_F_signedHalfEven 11 = .ok (.lconst 0, 1) := by decide +kernel
theorem d_F_signedHalfEven_12 : decode nb_F_signedHalfEven 12 = .ok (.lcmp, 1) := by decide +kernel
theorem d_F_signedHalfEven_13 : decode nb_F_signedHalfEven 13 = .ok (.ifCond .ge 9, 3) := by decide +kernel
theorem d_F_signedHalfEven_16 : decode nb_F_signedHalfEven 16 = .ok (.lload 4, 2) := by decide +kernel
theorem d_F_signedHalfEven_18 : decode nb_F_signedHalfEven 18 = .ok (.lneg, 1) := by decide +kernel
theorem d_F_signedHalfEven_19 : decode nb_F_signedHalfEven 19 = .ok (.goto 5, 3) := by decide +kernel
theorem d_F_signedHalfEven_22 : decode nb_F_signedHalfEven 22 = .ok (.lload 4, 2) := by decide +kernel
theorem d_F_signedHalfEven_24 : decode nb_F_signedHalfEven 24 = .ok (.lreturn, 1) := by decide +kernel
abbrev rm_F_signedHalfEven : Room := ({ frames := 2, cells := 0, slots := 0, locals := 50 })
theorem w_F_signedHalfEven_24 {post : Int64 → nf_M → Prop} (hfl : l.flags = flags0) (K : nf_K p s m args meth c "NumberForge" nb_F_signedHalfEven 6 (some FieldType.long) D a sz) : ∀ (xy0 : Int64) (M : nf_M) (H : Heap) (locs : List Loc) (ls : Array Slot), B_F_signedHalfEven_24 post xy0 M → lv_has ls 6 [] → nf_W D a s sz H locs M → W p l e rm_F_signedHalfEven s m args below meth c H locs 0 0 (nf_MQ below (nf_Q nf_jJ D a post ex (nf_A a sz)) args s rm_F_signedHalfEven.cells rm_F_signedHalfEven.slots (nf_A a sz)) (F0 m 24 ls [.long xy0]) := by
  have hx := K.1
  have hb := K.2.1
  intro xy0 M H locs ls h hl hw
  exact nf_lret K hw d_F_signedHalfEven_24 (Nat.le_of_ble_eq_true rfl) (Nat.le_of_ble_eq_true rfl) (r := xy0) rfl h
theorem c_F_signedHalfEven (l : Launch) (hfl : l.flags = flags0) (x0 : Int64) (x2 : Int64) : nf_C nf_jJ l nm_F_signedHalfEven nb_F_signedHalfEven 6 (some FieldType.long) rm_F_signedHalfEven (fun a => [.long x0, .long x2]) (fun M post ex => P_F_signedHalfEven x0 x2 M post) := by
  refine nf_start (plainFor_of_name (by decide +kernel)) (fun a => Nat.le_of_ble_eq_true rfl) ?_
  intro D a sz M post ex p e s m below meth c ls h K hl hw
  have hx := K.1
  have hb := K.2.1
  have hl : lv_has ls 6 [(0, .long x0), (2, .long x2)] := hl
  refine lv_lload_n hx hb d_F_signedHalfEven_0 rfl (lv_at hl 0 rfl) ?_
  refine nf_callW (ex := (fun _ _ => False)) (As := [.long x0]) (st0 := [.long x0]) (rest := []) K hw (nf_invS hx hb K.2.2.2.1 (nf_Kg K nw_549) (nf_Kg K nw_550) (nf_Kg K nw_4) (nf_Kg K nw_551) ⟨by decide, by decide⟩ rfl nl_JM_abs_JJ rfl d_F_signedHalfEven_1) (c_JM_abs_JJ l hfl x0) nw_551 nw_4 rfl ⟨by decide, by decide⟩ (Nat.le_of_ble_eq_true rfl) hl.1 ⟨Nat.le_of_ble_eq_true rfl, Nat.le_of_ble_eq_true rfl⟩ h (fun _ _ h => h.elim) (fun r1 M2 H locs h hw => ?_)
  refine W.eq (g2 := F0 m 4 ls [.long r1]) rfl ?_
  refine lv_lload_n hx hb d_F_signedHalfEven_4 rfl (lv_at hl 1 rfl) ?_
  refine nf_callW (ex := (fun _ _ => False)) (As := [.long r1, .long x2]) (st0 := [.long x2, .long r1]) (rest := []) K hw (nf_invS hx hb K.2.2.2.1 (nf_Kg K nw_663) (nf_Kg K nw_664) (nf_Kg K nw_1) (nf_Kg K nw_665) ⟨by decide, by decide⟩ rfl nl_F_overHalfEven rfl d_F_signedHalfEven_5) (c_F_overHalfEven l hfl r1 x2) nw_665 nw_1 rfl ⟨by decide, by decide⟩ (Nat.le_of_ble_eq_true rfl) hl.1 ⟨Nat.le_of_ble_eq_true rfl, Nat.le_of_ble_eq_true rfl⟩ h (fun _ _ h => h.elim) (fun r3 M4 H locs h hw => ?_)
  refine W.eq (g2 := F0 m 8 ls [.long r3]) rfl ?_
  refine lv_lstore (lv' := [(4, .long r3), (0, .long x0), (2, .long x2)]) hx hb d_F_signedHalfEven_8 hl (by decide) rfl (fun ls hl => ?_)
  refine lv_lload_n hx hb d_F_signedHalfEven_10 rfl (lv_at hl 1 rfl) ?_
  refine lv_lconst (v := (0 : Int64)) hx hb d_F_signedHalfEven_11 (by decide) ?_
  refine nf_lc_ge hx hb d_F_signedHalfEven_12 d_F_signedHalfEven_13 (tgt := 22) (by decide) (fun hc => ?_) (fun hc => ?_)
  · have h := h.1 hc
    refine lv_lload hx hb d_F_signedHalfEven_16 (lv_at hl 0 rfl) ?_
    refine lv_lneg hx hb d_F_signedHalfEven_18 ?_
    refine lv_goto hx hb d_F_signedHalfEven_19 (tgt := 24) (by decide) ?_
    exact w_F_signedHalfEven_24 hfl K (-r3) M4 _ _ _ h (lv_sub hl [] rfl) hw
  · have h := h.2 hc
    refine lv_lload hx hb d_F_signedHalfEven_22 (lv_at hl 0 rfl) ?_
    exact w_F_signedHalfEven_24 hfl K r3 M4 _ _ _ h (lv_sub hl [] rfl) hw
end NW2
