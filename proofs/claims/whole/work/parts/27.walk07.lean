/-! walks (printed by wip/whole/gen/drive.py) -/
section NW7
variable {p : Program} {l : Launch} {e : Env} {s : State} {m : MethodId} {args : Array Value} {below : List Frame} {meth : Method} {c : Code} {D : va_G} {a : Nat → Nat} {sz : Nat} {ex : Nat → nf_M → Prop}
theorem d_M_reckonFloat_0 : decode nb_M_reckonFloat 0 = .ok (.iload_n 1, 1) := by decide +kernel
theorem d_M_reckonFloat_1 : decode nb_M_reckonFloat 1 = .ok (.fload_n 2, 1) := by decide +kernel
theorem d_M_reckonFloat_2 : decode nb_M_reckonFloat 2 = .ok (.f2d, 1) := by decide +kernel
theorem d_M_reckonFloat_3 : decode nb_M_reckonFloat 3 = .ok (.fload_n 3, 1) := by decide +kernel
theorem d_M_reckonFloat_4 : decode nb_M_reckonFloat 4 = .ok (.f2d, 1) := by decide +kernel
theorem d_M_reckonFloat_5 : decode nb_M_reckonFloat 5 = .ok (.invokestatic 174, 3) := by decide +kernel
theorem d_M_reckonFloat_8 : decode nb_M_reckonFloat 8 = .ok (.ifCond .eq 11, 3) := by decide +kernel
theorem d_M_reckonFloat_11 : decode nb_M_reckonFloat 11 = .ok (.aload_n 0, 1) := by decide +kernel
theorem d_M_reckonFloat_12 : decode nb_M_reckonFloat 12 = .ok (.iconst 4, 1) := by decide +kernel
theorem d_M_reckonFloat_13 : decode nb_M_reckonFloat 13 = .ok (.putfield 67, 3) := by decide +kernel
theorem d_M_reckonFloat_16 : decode nb_M_reckonFloat 16 = .ok (.goto 78, 3) := by decide +kernel
theorem d_M_reckonFloat_19 : decode nb_M_reckonFloat 19 = .ok (.iload_n 1, 1) := by decide +kernel
theorem d_M_reckonFloat_20 : decode nb_M_reckonFloat 20 = .ok (.iconst 4, 1) := by decide +kernel
theorem d_M_reckonFloat_21 : decode nb_M_reckonFloat 21 = .ok (.if_icmp .ne 18, 3) := by decide +kernel
theorem d_M_reckonFloat_24 : decode nb_M_reckonFloat 24 = .ok (.fload_n 2, 1) := by decide +kernel
theorem d_M_reckonFloat_25 : decode nb_M_reckonFloat 25 = .ok (.fload_n 3, 1) := by decide +kernel
theorem d_M_reckonFloat_26 : decode nb_M_reckonFloat 26 = .ok (.fdiv, 1) := by decide +kernel
theorem d_M_reckonFloat_27 : decode nb_M_reckonFloat 27 = .ok (.fstore 4, 2) := by decide +kernel
theorem d_M_reckonFloat_29 : decode nb_M_reckonFloat 29 = .ok (.aload_n 0, 1) := by decide +kernel
theorem d_M_reckonFloat_30 : decode nb_M_reckonFloat 30 = .ok (.fload 4, 2) := by decide +kernel
theorem d_M_reckonFloat_32 : decode nb_M_reckonFloat 32 = .ok (.f2d, 1) := by decide +kernel
theorem d_M_reckonFloat_33 : decode nb_M_reckonFloat 33 = .ok (.invokevirtual 178, 3) := by decide +kernel
theorem d_M_reckonFloat_36 : decode nb_M_reckonFloat 36 = .ok (.goto 58, 3) := by decide +kernel
theorem d_M_reckonFloat_39 : decode nb_M_reckonFloat 39 = .ok (.iload_n 1, 1) := by decide +kernel
theorem d_M_reckonFloat_40 : decode nb_M_reckonFloat 40 = .ok (.ifCond .ne 9, 3) := by decide +kernel
theorem d_M_reckonFloat_43 : decode nb_M_reckonFloat 43 = .ok (.fload_n 2, 1) := by decide +kernel
theorem d_M_reckonFloat_44 : decode nb_M_reckonFloat 44 = .ok (.fload_n 3, 1) := by decide +kernel
theorem d_M_reckonFloat_45 : decode nb_M_reckonFloat 45 = .ok (.fadd, 1) := by decide +kernel
theorem d_M_reckonFloat_46 : decode nb_M_reckonFloat 46 = .ok (.goto 39, 3) := by decide +kernel
theorem d_M_reckonFloat_49 : decode nb_M_reckonFloat 49 = .ok (.iload_n 1, 1) := by decide +kernel
theorem d_M_reckonFloat_50 : decode nb_M_reckonFloat 50 = .ok (.iconst 1, 1) := by decide +kernel
theorem d_M_reckonFloat_51 : decode nb_M_reckonFloat 51 = .ok (.if_icmp .ne 9, 3) := by decide +kernel
theorem d_M_reckonFloat_54 : decode nb_M_reckonFloat 54 = .ok (.fload_n 2, 1) := by decide +kernel
theorem d_M_reckonFloat_55 : decode nb_M_reckonFloat 55 = .ok (.fload_n 3, 1) := by decide +kernel
theorem d_M_reckonFloat_56 : decode nb_M_reckonFloat 56 = .ok (.fsub, 1) := by decide +kernel
theorem d_M_reckonFloat_57 : decode nb_M_reckonFloat 57 = .ok (.goto 28, 3) := by decide +kernel
theorem d_M_reckonFloat_60 : decode nb_M_reckonFloat 60 = .ok (.iload_n 1, 1) := by decide +kernel
theorem d_M_reckonFloat_61 : decode nb_M_reckonFloat 61 = .ok (.iconst 2, 1) := by decide +kernel
theorem d_M_reckonFloat_62 : decode nb_M_reckonFloat 62 = .ok (.if_icmp .ne 9, 3) := by decide +kernel
theorem d_M_reckonFloat_65 : decode nb_M_reckonFloat 65 = .ok (.fload_n 2, 1) := by decide +kernel
theorem d_M_reckonFloat_66 : decode nb_M_reckonFloat 66 = .ok (.fload_n 3, 1) := by decide +kernel
theorem d_M_reckonFloat_67 : decode nb_M_reckonFloat 67 = .ok (.fmul, 1) := by decide +kernel
theorem d_M_reckonFloat_68 : decode nb_M_reckonFloat 68 = .ok (.goto 17, 3) := by decide +kernel
theorem d_M_reckonFloat_71 : decode nb_M_reckonFloat 71 = .ok (.iload_n 1, 1) := by decide +kernel
theorem d_M_reckonFloat_72 : decode nb_M_reckonFloat 72 = .ok (.iconst 3, 1) := by decide +kernel
theorem d_M_reckonFloat_73 : decode nb_M_reckonFloat 73 = .ok (.if_icmp .ne 9, 3) := by decide +kernel
theorem d_M_reckonFloat_76 : decode nb_M_reckonFloat 76 = .ok (.fload_n 2, 1) := by decide +kernel
theorem d_M_reckonFloat_77 : decode nb_M_reckonFloat 77 = .ok (.fload_n 3, 1) := by decide +kernel
theorem d_M_reckonFloat_78 : decode nb_M_reckonFloat 78 = .ok (.fdiv, 1) := by decide +kernel
theorem d_M_reckonFloat_79 : decode nb_M_reckonFloat 79 = .ok (.goto 6, 3) := by decide +kernel
theorem d_M_reckonFloat_82 : decode nb_M_reckonFloat 82 = .ok (.fload_n 2, 1) := by decide +kernel
theorem d_M_reckonFloat_83 : decode nb_M_reckonFloat 83 = .ok (.fload_n 3, 1) := by decide +kernel
theorem d_M_reckonFloat_84 : decode nb_M_reckonFloat 84 = .ok (.frem, 1) := by decide +kernel
theorem d_M_reckonFloat_85 : decode nb_M_reckonFloat 85 = .ok (.fstore 4, 2) := by decide +kernel
theorem d_M_reckonFloat_87 : decode nb_M_reckonFloat 87 = .ok (.aload_n 0, 1) := by decide +kernel
theorem d_M_reckonFloat_88 : decode nb_M_reckonFloat 88 = .ok (.fload 4, 2) := by decide +kernel
theorem d_M_reckonFloat_90 : decode nb_M_reckonFloat 90 = .ok (.f2d, 1) := by decide +kernel
theorem d_M_reckonFloat_91 : decode nb_M_reckonFloat 91 = .ok (.putfield 134, 3) := by decide +kernel
theorem d_M_reckonFloat_94 : decode nb_M_reckonFloat 94 = .ok (.return_, 1) := by decide +kernel
abbrev rm_M_reckonFloat : Room := ({ frames := 2, cells := 0, slots := 0, locals := 48 })
theorem w_M_reckonFloat_94 {post : Unit → nf_M → Prop} (hfl : l.flags = flags0) (K : nf_K p s m args meth c "NumberForgeModel" nb_M_reckonFloat 5 none D a sz) : ∀ (M : nf_M) (H : Heap) (locs : List Loc) (ls : Array Slot), B_M_reckonFloat_94 post  M → lv_has ls 5 [] → nf_W D a s sz H locs M → W p l e rm_M_reckonFloat s m args below meth c H locs 0 0 (nf_MQ below (nf_Q nf_jN D a post ex (nf_A a sz)) args s rm_M_reckonFloat.cells rm_M_reckonFloat.slots (nf_A a sz)) (F0 m 94 ls []) := by
  have hx := K.1
  have hb := K.2.1
  intro  M H locs ls h hl hw
  exact nf_vret K hw d_M_reckonFloat_94 (Nat.le_of_ble_eq_true rfl) (Nat.le_of_ble_eq_true rfl) (r := ()) rfl h
theorem w_M_reckonFloat_85 {post : Unit → nf_M → Prop} (hfl : l.flags = flags0) (K : nf_K p s m args meth c "NumberForgeModel" nb_M_reckonFloat 5 none D a sz) : ∀ (xy0 : UInt32) (M : nf_M) (H : Heap) (locs : List Loc) (ls : Array Slot), B_M_reckonFloat_85 post xy0 M → lv_has ls 5 [(0, .ref (a 19))] → nf_W D a s sz H locs M → W p l e rm_M_reckonFloat s m args below meth c H locs 0 0 (nf_MQ below (nf_Q nf_jN D a post ex (nf_A a sz)) args s rm_M_reckonFloat.cells rm_M_reckonFloat.slots (nf_A a sz)) (F0 m 85 ls [.float xy0]) := by
  have hx := K.1
  have hb := K.2.1
  intro xy0 M H locs ls h hl hw
  refine lv_fstore (lv' := [(4, .float xy0), (0, .ref (a 19))]) hx hb d_M_reckonFloat_85 hl (by decide) rfl (fun ls hl => ?_)
  refine lv_aload_n hx hb d_M_reckonFloat_87 rfl (lv_at hl 1 rfl) ?_
  refine lv_fload hx hb d_M_reckonFloat_88 (lv_at hl 0 rfl) ?_
  obtain ⟨g1, h⟩ := h
  refine lv_f2d hx hb d_M_reckonFloat_90 g1 ?_
  refine lv_topd (fun t2 et2 => ?_)
  have h := h t2 et2
  refine nf_put (M' := ms_D M 19 12 t2) K hw 19 7 12 nw_943 rfl rfl rfl ni_M ny_M nq_M nn_M (by decide) rfl rfl rfl rfl (Nat.le_of_ble_eq_true rfl) d_M_reckonFloat_91 (fun H locs hw => ?_)
  obtain ⟨M3, eM3⟩ : ∃ z, z = ms_D M 19 12 t2 := ⟨_, rfl⟩
  rw [← eM3] at hw
  have h := h M3 eM3
  exact w_M_reckonFloat_94 hfl K  M3 _ _ _ h (lv_sub hl [] rfl) hw
theorem c_M_reckonFloat (l : Launch) (hfl : l.flags = flags0) (x1 : Int32) (x2 : UInt32) (x3 : UInt32) : nf_C nf_jN l nm_M_reckonFloat nb_M_reckonFloat 5 none rm_M_reckonFloat (fun a => [.ref (a 19), .int x1, .float x2, .float x3]) (fun M post ex => P_M_reckonFloat x1 x2 x3 M post) := by
  refine nf_start (plainFor_of_name (by decide +kernel)) (fun a => Nat.le_of_ble_eq_true rfl) ?_
  intro D a sz M post ex p e s m below meth c ls h K hl hw
  have hx := K.1
  have hb := K.2.1
  have hl : lv_has ls 5 [(0, .ref (a 19)), (1, .int x1), (2, .float x2), (3, .float x3)] := hl
  refine lv_iload_n hx hb d_M_reckonFloat_0 rfl (lv_at hl 1 rfl) ?_
  refine lv_fload_n hx hb d_M_reckonFloat_1 rfl (lv_at hl 2 rfl) ?_
  obtain ⟨g1, h⟩ := h
  refine lv_f2d hx hb d_M_reckonFloat_2 g1 ?_
  refine lv_fload_n hx hb d_M_reckonFloat_3 rfl (lv_at hl 3 rfl) ?_
  obtain ⟨g2, h⟩ := h
  refine lv_f2d hx hb d_M_reckonFloat_4 g2 ?_
  refine nf_callW (ex := (fun _ _ => False)) (As := [.int x1, .double (FP.f2d x2), .double (FP.f2d x3)]) (st0 := [.double (FP.f2d x3), .double (FP.f2d x2), .int x1]) (rest := []) K hw (nf_invS hx hb K.2.2.2.1 (nf_Kg K nw_1094) (nf_Kg K nw_1095) (nf_Kg K nw_9) (nf_Kg K nw_1096) ⟨by decide, by decide⟩ rfl nl_M_isOdd rfl d_M_reckonFloat_5) (c_M_isOdd l hfl x1 (FP.f2d x2) (FP.f2d x3)) nw_1096 nw_9 rfl ⟨by decide, by decide⟩ (Nat.le_of_ble_eq_true rfl) hl.1 ⟨Nat.le_of_ble_eq_true rfl, Nat.le_of_ble_eq_true rfl⟩ h (fun _ _ h => h.elim) (fun r3 M4 H locs h hw => ?_)
  refine W.eq (g2 := F0 m 8 ls [.int r3]) rfl ?_
  refine nf_if_eq hx hb d_M_reckonFloat_8 (tgt := 19) (by decide) (fun hc => ?_) (fun hc => ?_)
  · have h := h.1 hc
    refine lv_iload_n hx hb d_M_reckonFloat_19 rfl (lv_at hl 1 rfl) ?_
    refine lv_iconst (v := (4 : Int32)) hx hb d_M_reckonFloat_20 (by decide) ?_
    refine nf_ic_ne hx hb d_M_reckonFloat_21 (tgt := 39) (by decide) (fun hc => ?_) (fun hc => ?_)
    · have h := h.1 hc
      refine lv_fload_n hx hb d_M_reckonFloat_24 rfl (lv_at hl 2 rfl) ?_
      refine lv_fload_n hx hb d_M_reckonFloat_25 rfl (lv_at hl 3 rfl) ?_
      obtain ⟨g5, h⟩ := h
      refine lv_fdiv hx hb d_M_reckonFloat_26 g5 ?_
      refine lv_topf (fun t6 et6 => ?_)
      have h := h t6 et6
      refine lv_fstore (lv' := [(4, .float t6), (0, .ref (a 19)), (1, .int x1), (2, .float x2), (3, .float x3)]) hx hb d_M_reckonFloat_27 hl (by decide) rfl (fun ls hl => ?_)
      refine lv_aload_n hx hb d_M_reckonFloat_29 rfl (lv_at hl 1 rfl) ?_
      refine lv_fload hx hb d_M_reckonFloat_30 (lv_at hl 0 rfl) ?_
      obtain ⟨g7, h⟩ := h
      refine lv_f2d hx hb d_M_reckonFloat_32 g7 ?_
      refine nf_callW (ex := (fun _ _ => False)) (As := [.ref (a 19), .double (FP.f2d t6)]) (st0 := [.double (FP.f2d t6), .ref (a 19)]) (rest := []) K hw (nf_invV hx hb K.2.2.2.1 (nf_Kg K nw_1102) (nf_Kg K nw_1104) (nf_Kg K nx_M_wholePart) (nf_Kg K nw_1105) ⟨by decide, by decide⟩ (nf_rcv K hw 19 7 rfl rfl) rfl nl_M_wholePart rfl d_M_reckonFloat_33) (c_M_wholePart l hfl (FP.f2d t6)) nw_1105 nw_9 rfl ⟨by decide, by decide⟩ (Nat.le_of_ble_eq_true rfl) hl.1 ⟨Nat.le_of_ble_eq_true rfl, Nat.le_of_ble_eq_true rfl⟩ h (fun _ _ h => h.elim) (fun r8 M9 H locs h hw => ?_)
      refine W.eq (g2 := F0 m 36 ls []) rfl ?_
      refine lv_goto hx hb d_M_reckonFloat_36 (tgt := 94) (by decide) ?_
      exact w_M_reckonFloat_94 hfl K  M9 _ _ _ h (lv_sub hl [] rfl) hw
    · have h := h.2 hc
      refine lv_iload_n hx hb d_M_reckonFloat_39 rfl (lv_at hl 1 rfl) ?_
      refine nf_if_ne hx hb d_M_reckonFloat_40 (tgt := 49) (by decide) (fun hc => ?_) (fun hc => ?_)
      · have h := h.1 hc
        refine lv_fload_n hx hb d_M_reckonFloat_43 rfl (lv_at hl 2 rfl) ?_
        refine lv_fload_n hx hb d_M_reckonFloat_44 rfl (lv_at hl 3 rfl) ?_
        obtain ⟨g10, h⟩ := h
        refine lv_fadd hx hb d_M_reckonFloat_45 g10 ?_
        refine lv_goto hx hb d_M_reckonFloat_46 (tgt := 85) (by decide) ?_
        exact w_M_reckonFloat_85 hfl K (FP.fadd x2 x3) M4 _ _ _ h (lv_sub hl [0] rfl) hw
      · have h := h.2 hc
        refine lv_iload_n hx hb d_M_reckonFloat_49 rfl (lv_at hl 1 rfl) ?_
        refine lv_iconst (v := (1 : Int32)) hx hb d_M_reckonFloat_50 (by decide) ?_
        refine nf_ic_ne hx hb d_M_reckonFloat_51 (tgt := 60) (by decide) (fun hc => ?_) (fun hc => ?_)
        · have h := h.1 hc
          refine lv_fload_n hx hb d_M_reckonFloat_54 rfl (lv_at hl 2 rfl) ?_
          refine lv_fload_n hx hb d_M_reckonFloat_55 rfl (lv_at hl 3 rfl) ?_
          obtain ⟨g11, h⟩ := h
          refine lv_fsub hx hb d_M_reckonFloat_56 g11 ?_
          refine lv_goto hx hb d_M_reckonFloat_57 (tgt := 85) (by decide) ?_
          exact w_M_reckonFloat_85 hfl K (FP.fsub x2 x3) M4 _ _ _ h (lv_sub hl [0] rfl) hw
        · have h := h.2 hc
          refine lv_iload_n hx hb d_M_reckonFloat_60 rfl (lv_at hl 1 rfl) ?_
          refine lv_iconst (v := (2 : Int32)) hx hb d_M_reckonFloat_61 (by decide) ?_
          refine nf_ic_ne hx hb d_M_reckonFloat_62 (tgt := 71) (by decide) (fun hc => ?_) (fun hc => ?_)
          · have h := h.1 hc
            refine lv_fload_n hx hb d_M_reckonFloat_65 rfl (lv_at hl 2 rfl) ?_
            refine lv_fload_n hx hb d_M_reckonFloat_66 rfl (lv_at hl 3 rfl) ?_
            obtain ⟨g12, h⟩ := h
            refine lv_fmul hx hb d_M_reckonFloat_67 g12 ?_
            refine lv_goto hx hb d_M_reckonFloat_68 (tgt := 85) (by decide) ?_
            exact w_M_reckonFloat_85 hfl K (FP.fmul x2 x3) M4 _ _ _ h (lv_sub hl [0] rfl) hw
          · have h := h.2 hc
            refine lv_iload_n hx hb d_M_reckonFloat_71 rfl (lv_at hl 1 rfl) ?_
            refine lv_iconst (v := (3 : Int32)) hx hb d_M_reckonFloat_72 (by decide) ?_
            refine nf_ic_ne hx hb d_M_reckonFloat_73 (tgt := 82) (by decide) (fun hc => ?_) (fun hc => ?_)
            · have h := h.1 hc
              refine lv_fload_n hx hb d_M_reckonFloat_76 rfl (lv_at hl 2 rfl) ?_
              refine lv_fload_n hx hb d_M_reckonFloat_77 rfl (lv_at hl 3 rfl) ?_
              obtain ⟨g13, h⟩ := h
              refine lv_fdiv hx hb d_M_reckonFloat_78 g13 ?_
              refine lv_goto hx hb d_M_reckonFloat_79 (tgt := 85) (by decide) ?_
              exact w_M_reckonFloat_85 hfl K (FP.fdiv x2 x3) M4 _ _ _ h (lv_sub hl [0] rfl) hw
            · have h := h.2 hc
              refine lv_fload_n hx hb d_M_reckonFloat_82 rfl (lv_at hl 2 rfl) ?_
              refine lv_fload_n hx hb d_M_reckonFloat_83 rfl (lv_at hl 3 rfl) ?_
              obtain ⟨g14, h⟩ := h
              refine lv_frem hx hb d_M_reckonFloat_84 g14 ?_
              exact w_M_reckonFloat_85 hfl K (FP.frem x2 x3) M4 _ _ _ h (lv_sub hl [0] rfl) hw
  · have h := h.2 hc
    refine lv_aload_n hx hb d_M_reckonFloat_11 rfl (lv_at hl 0 rfl) ?_
    refine lv_iconst (v := (4 : Int32)) hx hb d_M_reckonFloat_12 (by decide) ?_
    refine nf_put (M' := ms_I M4 19 9 (4 : Int32)) K hw 19 7 9 nw_940 rfl rfl rfl ni_M ny_M nq_M nn_M (by decide) rfl rfl rfl rfl (Nat.le_of_ble_eq_true rfl) d_M_reckonFloat_13 (fun H locs hw => ?_)
    obtain ⟨M15, eM15⟩ : ∃ z, z = ms_I M4 19 9 (4 : Int32) := ⟨_, rfl⟩
    rw [← eM15] at hw
    have h := h M15 eM15
    refine lv_goto hx hb d_M_reckonFloat_16 (tgt := 94) (by decide) ?_
    exact w_M_reckonFloat_94 hfl K  M15 _ _ _ h (lv_sub hl [] rfl) hw
theorem d_M_millionths_0 : decode nb_M_millionths 0 = .ok (.lload_n 0, 1) := by decide +kernel
theorem d_M_millionths_1 : decode nb_M_millionths 1 = .ok (.iload_n 2, 1) := by decide +kernel
theorem d_M_millionths_2 : decode nb_M_millionths 2 = .ok (.invokestatic 42, 3) := by decide +kernel
theorem d_M_millionths_5 : decode nb_M_millionths 5 = .ok (.lrem, 1) := by decide +kernel
theorem d_M_millionths_6 : decode nb_M_millionths 6 = .ok (.bipush 6, 2) := by decide +kernel
theorem d_M_millionths_8 : decode nb_M_millionths 8 = .ok (.iload_n 2, 1) := by decide +kernel
theorem d_M_millionths_9 : decode nb_M_millionths 9 = .ok (.isub, 1) := by decide +kernel
theorem d_M_millionths_10 : decode nb_M_millionths 10 = .ok (.invokestatic 42, 3) := by decide +kernel
theorem d_M_millionths_13 : decode nb_M_millionths 13 = .ok (.lmul, 1) := by decide +kernel
theorem d_M_millionths_14 : decode nb_M_millionths 14 = .ok (.lreturn, 1) := by decide +kernel
abbrev rm_M_millionths : Room := ({ frames := 1, cells := 0, slots := 0, locals := 23 })
theorem c_M_millionths (l : Launch) (hfl : l.flags = flags0) (x0 : Int64) (x2 : Int32) : nf_C nf_jJ l nm_M_millionths nb_M_millionths 3 (some FieldType.long) rm_M_millionths (fun a => [.long x0, .int x2]) (fun M post ex => P_M_millionths x0 x2 M post) := by
  refine nf_start (plainFor_of_name (by decide +kernel)) (fun a => Nat.le_of_ble_eq_true rfl) ?_
  intro D a sz M post ex p e s m below meth c ls h K hl hw
  have hx := K.1
  have hb := K.2.1
  have hl : lv_has ls 3 [(0, .long x0), (2, .int x2)] := hl
  refine lv_lload_n hx hb d_M_millionths_0 rfl (lv_at hl 0 rfl) ?_
  refine lv_iload_n hx hb d_M_millionths_1 rfl (lv_at hl 1 rfl) ?_
  refine nf_callW (ex := (fun _ _ => False)) (As := [.int x2]) (st0 := [.int x2, .long x0]) (rest := [.long x0]) K hw (nf_invS hx hb K.2.2.2.1 (nf_Kg K nw_1066) (nf_Kg K nw_1067) (nf_Kg K nw_9) (nf_Kg K nw_1068) ⟨by decide, by decide⟩ rfl nl_M_power rfl d_M_millionths_2) (c_M_power l hfl x2) nw_1068 nw_9 rfl ⟨by decide, by decide⟩ (Nat.le_of_ble_eq_true rfl) hl.1 ⟨Nat.le_of_ble_eq_true rfl, Nat.le_of_ble_eq_true rfl⟩ h (fun _ _ h => h.elim) (fun r1 M2 H locs h hw => ?_)
  refine W.eq (g2 := F0 m 5 ls [.long r1, .long x0]) rfl ?_
  obtain ⟨g3, h⟩ := h
  refine lv_lrem hx hb d_M_millionths_5 g3 ?_
  refine lv_bipush (v := (6 : Int32)) hx hb d_M_millionths_6 (by decide) ?_
  refine lv_iload_n hx hb d_M_millionths_8 rfl (lv_at hl 1 rfl) ?_
  refine lv_isub hx hb d_M_millionths_9 ?_
  refine nf_callW (ex := (fun _ _ => False)) (As := [.int ((6 : Int32) - x2)]) (st0 := [.int ((6 : Int32) - x2), .long (x0 - x0 / r1 * r1)]) (rest := [.long (x0 - x0 / r1 * r1)]) K hw (nf_invS hx hb K.2.2.2.1 (nf_Kg K nw_1066) (nf_Kg K nw_1067) (nf_Kg K nw_9) (nf_Kg K nw_1068) ⟨by decide, by decide⟩ rfl nl_M_power rfl d_M_millionths_10) (c_M_power l hfl ((6 : Int32) - x2)) nw_1068 nw_9 rfl ⟨by decide, by decide⟩ (Nat.le_of_ble_eq_true rfl) hl.1 ⟨Nat.le_of_ble_eq_true rfl, Nat.le_of_ble_eq_true rfl⟩ h (fun _ _ h => h.elim) (fun r4 M5 H locs h hw => ?_)
  refine W.eq (g2 := F0 m 13 ls [.long r4, .long (x0 - x0 / r1 * r1)]) rfl ?_
  refine lv_lmul hx hb d_M_millionths_13 ?_
  exact nf_lret K hw d_M_millionths_14 (Nat.le_of_ble_eq_true rfl) (Nat.le_of_ble_eq_true rfl) (r := (x0 - x0 / r1 * r1) * r4) rfl h
theorem d_M_amount_0 : decode nb_M_amount 0 = .ok (.lload_n 0, 1) := by decide +kernel
theorem d_M_amount_1 : decode nb_M_amount 1 = .ok (.lconst 0, 1) := by decide +kernel
theorem d_M_amount_2 : decode nb_M_amount 2 = .ok (.lcmp, 1) := by decide +kernel
theorem d_M_amount_3 : decode nb_M_amount 3 = .ok (.ifCond .ge 8, 3) := by decide +kernel
theorem d_M_amount_6 : decode nb_M_amount 6 = .ok (.lload_n 0, 1) := by decide +kernel
theorem d_M_amount_7 : decode nb_M_amount 7 = .ok (.lneg, 1) := by decide +kernel
theorem d_M_amount_8 : decode nb_M_amount 8 = .ok (.goto 4, 3) := by decide +kernel
theorem d_M_amount_11 : decode nb_M_amount 11 = .ok (.lload_n 0, 1) := by decide +kernel
theorem d_M_amount_12 : decode nb_M_amount 12 = .ok (.lreturn, 1) := by decide +kernel
abbrev rm_M_amount : Room := ({ frames := 0, cells := 0, slots := 0, locals := 0 })
theorem w_M_amount_12 {post : Int64 → nf_M → Prop} (hfl : l.flags = flags0) (K : nf_K p s m args meth c "NumberForgeModel" nb_M_amount 2 (some FieldType.long) D a sz) : ∀ (xy0 : Int64) (M : nf_M) (H : Heap) (locs : List Loc) (ls : Array Slot), B_M_amount_12 post xy0 M → lv_has ls 2 [] → nf_W D a s sz H locs M → W p l e rm_M_amount s m args below meth c H locs 0 0 (nf_MQ below (nf_Q nf_jJ D a post ex (nf_A a sz)) args s rm_M_amount.cells rm_M_amount.slots (nf_A a sz)) (F0 m 12 ls [.long xy0]) := by
  have hx := K.1
  have hb := K.2.1
  intro xy0 M H locs ls h hl hw
  exact nf_lret K hw d_M_amount_12 (Nat.le_of_ble_eq_true rfl) (Nat.le_of_ble_eq_true rfl) (r := xy0) rfl h
theorem c_M_amount (l : Launch) (hfl : l.flags = flags0) (x0 : Int64) : nf_C nf_jJ l nm_M_amount nb_M_amount 2 (some FieldType.long) rm_M_amount (fun a => [.long x0]) (fun M post ex => P_M_amount x0 M post) := by
  refine nf_start (plainFor_of_name (by decide +kernel)) (fun a => Nat.le_of_ble_eq_true rfl) ?_
  intro D a sz M post ex p e s m below meth c ls h K hl hw
  have hx := K.1
  have hb := K.2.1
  have hl : lv_has ls 2 [(0, .long x0)] := hl
  refine lv_lload_n hx hb d_M_amount_0 rfl (lv_at hl 0 rfl) ?_
  refine lv_lconst (v := (0 : Int64)) hx hb d_M_amount_1 (by decide) ?_
  refine nf_lc_ge hx hb d_M_amount_2 d_M_amount_3 (tgt := 11) (by decide) (fun hc => ?_) (fun hc => ?_)
  · have h := h.1 hc
    refine lv_lload_n hx hb d_M_amount_6 rfl (lv_at hl 0 rfl) ?_
    refine lv_lneg hx hb d_M_amount_7 ?_
    refine lv_goto hx hb d_M_amount_8 (tgt := 12) (by decide) ?_
    exact w_M_amount_12 hfl K (-x0) M _ _ _ h (lv_sub hl [] rfl) hw
  · have h := h.2 hc
    refine lv_lload_n hx hb d_M_amount_11 rfl (lv_at hl 0 rfl) ?_
    exact w_M_amount_12 hfl K x0 M _ _ _ h (lv_sub hl [] rfl) hw
theorem d_M_addDigits_0 : decode nb_M_addDigits 0 = .ok (.iload_n 3, 1) := by decide +kernel
theorem d_M_addDigits_1 : decode nb_M_addDigits 1 = .ok (.iconst 1, 1) := by decide +kernel
theorem d_M_addDigits_2 : decode nb_M_addDigits 2 = .ok (.isub, 1) := by decide +kernel
theorem d_M_addDigits_3 : decode nb_M_addDigits 3 = .ok (.istore 4, 2) := by decide +kernel
theorem d_M_addDigits_5 : decode nb_M_addDigits 5 = .ok (.iload 4, 2) := by decide +kernel
theorem d_M_addDigits_7 : decode nb_M_addDigits 7 = .ok (.ifCond .lt 40, 3) := by decide +kernel
theorem d_M_addDigits_10 : decode nb_M_addDigits 10 = .ok (.aload_n 0, 1) := by decide +kernel
theorem d_M_addDigits_11 : decode nb_M_addDigits 11 = .ok (.getfield 30, 3) := by decide +kernel
theorem d_M_addDigits_14 : decode nb_M_addDigits 14 = .ok (.aload_n 0, 1) := by decide +kernel
theorem d_M_addDigits_15 : decode nb_M_addDigits 15 = .ok (.getfield 62, 3) := by decide +kernel
theorem d_M_addDigits_18 : decode nb_M_addDigits 18 = .ok (.lload_n 1, 1) := by decide +kernel
theorem d_M_addDigits_19 : decode nb_M_addDigits 19 = .ok (.iload 4, 2) := by decide +kernel
theorem d_M_addDigits_21 : decode nb_M_addDigits 21 = .ok (.invokestatic 42, 3) := by decide +kernel
theorem d_M_addDigits_24 : decode nb_M_addDigits 24 = .ok (.ldiv, 1) := by decide +kernel
theorem d_M_addDigits_25 : decode nb_M_addDigits 25 = .ok (.ldc2_w 40, 3) := by decide +kernel
theorem d_M_addDigits_28 : decode nb_M_addDigits 28 = .ok (.lrem, 1) := by decide +kernel
theorem d_M_addDigits_29 : decode nb_M_addDigits 29 = .ok (.l2i, 1) := by decide +kernel
theorem d_M_addDigits_30 : decode nb_M_addDigits 30 = .ok (.iastore, 1) := by decide +kernel
theorem d_M_addDigits_31 : decode nb_M_addDigits 31 = .ok (.aload_n 0, 1) := by decide +kernel
theorem d_M_addDigits_32 : decode nb_M_addDigits 32 = .ok (.dup, 1) := by decide +kernel
theorem d_M_addDigits_33 : decode nb_M_addDigits 33 = .ok (.getfield 62, 3) := by decide +kernel
theorem d_M_addDigits_36 : decode nb_M_addDigits 36 = .ok (.iconst 1, 1) := by decide +kernel
theorem d_M_addDigits_37 : decode nb_M_addDigits 37 = .ok (.iadd, 1) := by decide +kernel
theorem d_M_addDigits_38 : decode nb_M_addDigits 38 = .ok (.putfield 62, 3) := by decide +kernel
theorem d_M_addDigits_41 : decode nb_M_addDigits 41 = .ok (.iinc 4 (-1), 3) := by decide +kernel
theorem d_M_addDigits_44 : decode nb_M_addDigits 44 = .ok (.goto (-39), 3) := by decide +kernel
theorem d_M_addDigits_47 : decode nb_M_addDigits 47 = .ok (.return_, 1) := by decide +kernel
abbrev rm_M_addDigits : Room := ({ frames := 1, cells := 0, slots := 0, locals := 23 })
theorem w_M_addDigits_5 {post : Unit → nf_M → Prop} (hfl : l.flags = flags0) (K : nf_K p s m args meth c "NumberForgeModel" nb_M_addDigits 5 none D a sz) : ∀ (n : Nat) (x1 : Int64) (x4 : Int32) (M : nf_M) (H : Heap) (locs : List Loc) (ls : Array Slot), B_M_addDigits_5 post n x1 x4 M → lv_has ls 5 [(0, .ref (a 19)), (1, .long x1), (4, .int x4)] → nf_W D a s sz H locs M → W p l e rm_M_addDigits s m args below meth c H locs 0 0 (nf_MQ below (nf_Q nf_jN D a post ex (nf_A a sz)) args s rm_M_addDigits.cells rm_M_addDigits.slots (nf_A a sz)) (F0 m 5 ls []) := by
  have hx := K.1
  have hb := K.2.1
  intro n
  induction n with
  | zero => intro x1 x4 M H locs ls h hl hw; exact h.elim
  | succ n ih =>
    intro x1 x4 M H locs ls h hl hw
    refine lv_iload hx hb d_M_addDigits_5 (lv_at hl 2 rfl) ?_
    refine nf_if_lt hx hb d_M_addDigits_7 (tgt := 47) (by decide) (fun hc => ?_) (fun hc => ?_)
    · have h := h.1 hc
      exact nf_vret K hw d_M_addDigits_47 (Nat.le_of_ble_eq_true rfl) (Nat.le_of_ble_eq_true rfl) (r := ()) rfl h
    · have h := h.2 hc
      refine lv_aload_n hx hb d_M_addDigits_10 rfl (lv_at hl 0 rfl) ?_
      refine nf_get (v := .ref (a 26)) K hw 19 7 14 nw_945 rfl rfl ni_M (by decide) rfl rfl d_M_addDigits_11 ?_
      refine lv_aload_n hx hb d_M_addDigits_14 rfl (lv_at hl 0 rfl) ?_
      refine nf_get (v := .int (mg_I M 19 13)) K hw 19 7 13 nw_944 rfl rfl ni_M (by decide) rfl rfl d_M_addDigits_15 ?_
      refine lv_lload_n hx hb d_M_addDigits_18 rfl (lv_at hl 1 rfl) ?_
      refine lv_iload hx hb d_M_addDigits_19 (lv_at hl 2 rfl) ?_
      refine nf_callW (ex := (fun _ _ => False)) (As := [.int x4]) (st0 := [.int x4, .long x1, .int (mg_I M 19 13), .ref (a 26)]) (rest := [.long x1, .int (mg_I M 19 13), .ref (a 26)]) K hw (nf_invS hx hb K.2.2.2.1 (nf_Kg K nw_1066) (nf_Kg K nw_1067) (nf_Kg K nw_9) (nf_Kg K nw_1068) ⟨by decide, by decide⟩ rfl nl_M_power rfl d_M_addDigits_21) (c_M_power l hfl x4) nw_1068 nw_9 rfl ⟨by decide, by decide⟩ (Nat.le_of_ble_eq_true rfl) hl.1 ⟨Nat.le_of_ble_eq_true rfl, Nat.le_of_ble_eq_true rfl⟩ h (fun _ _ h => h.elim) (fun r1 M2 H locs h hw => ?_)
      refine W.eq (g2 := F0 m 24 ls [.long r1, .long x1, .int (mg_I M 19 13), .ref (a 26)]) rfl ?_
      obtain ⟨g3, h⟩ := h
      refine lv_ldiv hx hb d_M_addDigits_24 g3 ?_
      refine lv_ldc2 (v := (10 : Int64)) hx hb K.2.2.2.1 (nf_Kg K nw_1038) d_M_addDigits_25 ?_
      refine lv_lrem hx hb d_M_addDigits_28 (by decide) ?_
      refine lv_l2i hx hb d_M_addDigits_29 rfl ?_
      refine lv_topi (fun t4 et4 => ?_)
      have h := h t4 et4
      obtain ⟨g5, h⟩ := h
      refine nf_iast (M' := ms_I M2 26 (mg_I M 19 13).toNatClampNeg t4) K hw 26 9 rfl rfl g5 rfl d_M_addDigits_30 (fun H locs hw => ?_)
      obtain ⟨M6, eM6⟩ : ∃ z, z = ms_I M2 26 (mg_I M 19 13).toNatClampNeg t4 := ⟨_, rfl⟩
      rw [← eM6] at hw
      have h := h M6 eM6
      refine lv_aload_n hx hb d_M_addDigits_31 rfl (lv_at hl 0 rfl) ?_
      refine lv_dup hx hb d_M_addDigits_32 rfl ?_
      refine nf_get (v := .int (mg_I M6 19 13)) K hw 19 7 13 nw_944 rfl rfl ni_M (by decide) rfl rfl d_M_addDigits_33 ?_
      refine lv_iconst (v := (1 : Int32)) hx hb d_M_addDigits_36 (by decide) ?_
      refine lv_iadd hx hb d_M_addDigits_37 ?_
      refine lv_topi (fun t7 et7 => ?_)
      have h := h t7 et7
      refine nf_put (M' := ms_I M6 19 13 t7) K hw 19 7 13 nw_944 rfl rfl rfl ni_M ny_M nq_M nn_M (by decide) rfl rfl rfl rfl (Nat.le_of_ble_eq_true rfl) d_M_addDigits_38 (fun H locs hw => ?_)
      obtain ⟨M8, eM8⟩ : ∃ z, z = ms_I M6 19 13 t7 := ⟨_, rfl⟩
      rw [← eM8] at hw
      have h := h M8 eM8
      refine lv_iinc (k := 2) (v := x4 + (-1 : Int32)) (lv' := [(4, .int (x4 + (-1 : Int32))), (0, .ref (a 19)), (1, .long x1)]) hx hb d_M_addDigits_41 hl rfl (nf_inc (by decide)) (by decide) rfl (fun ls hl => ?_)
      refine lv_goto hx hb d_M_addDigits_44 (tgt := 5) (by decide) ?_
      exact ih x1 (x4 + (-1 : Int32)) M8 _ _ _ h (lv_sub hl [1, 2, 0] rfl) hw
theorem c_M_addDigits (l : Launch) (hfl : l.flags = flags0) (x1 : Int64) (x3 : Int32) : nf_C nf_jN l nm_M_addDigits nb_M_addDigits 5 none rm_M_addDigits (fun a => [.ref (a 19), .long x1, .int x3]) (fun M post ex => P_M_addDigits x1 x3 M post) := by
  refine nf_start (plainFor_of_name (by decide +kernel)) (fun a => Nat.le_of_ble_eq_true rfl) ?_
  intro D a sz M post ex p e s m below meth c ls h K hl hw
  have hx := K.1
  have hb := K.2.1
  have hl : lv_has ls 5 [(0, .ref (a 19)), (1, .long x1), (3, .int x3)] := hl
  refine lv_iload_n hx hb d_M_addDigits_0 rfl (lv_at hl 2 rfl) ?_
  refine lv_iconst (v := (1 : Int32)) hx hb d_M_addDigits_1 (by decide) ?_
  refine lv_isub hx hb d_M_addDigits_2 ?_
  refine lv_topi (fun t1 et1 => ?_)
  have h := h t1 et1
  refine lv_istore (lv' := [(4, .int t1), (0, .ref (a 19)), (1, .long x1), (3, .int x3)]) hx hb d_M_addDigits_3 hl (by decide) rfl (fun ls hl => ?_)
  obtain ⟨n, h⟩ := h
  exact w_M_addDigits_5 hfl K n x1 t1 M _ _ _ h (lv_sub hl [1, 2, 0] rfl) hw
theorem d_M_sum_0 : decode nb_M_sum 0 = .ok (.lload_n 1, 1) := by decide +kernel
theorem d_M_sum_1 : decode nb_M_sum 1 = .ok (.iload_n 3, 1) := by decide +kernel
theorem d_M_sum_2 : decode nb_M_sum 2 = .ok (.invokestatic 42, 3) := by decide +kernel
theorem d_M_sum_5 : decode nb_M_sum 5 = .ok (.ldiv, 1) := by decide +kernel
theorem d_M_sum_6 : decode nb_M_sum 6 = .ok (.lload 4, 2) := by decide +kernel
theorem d_M_sum_8 : decode nb_M_sum 8 = .ok (.iload 6, 2) := by decide +kernel
theorem d_M_sum_10 : decode nb_M_sum 10 = .ok (.invokestatic 42, 3) := by decide +kernel
theorem d_M_sum_13 : decode nb_M_sum 13 = .ok (.ldiv, 1) := by decide +kernel
theorem d_M_sum_14 : decode nb_M_sum 14 = .ok (.ladd, 1) := by decide +kernel
theorem d_M_sum_15 : decode nb_M_sum 15 = .ok (.lstore 7, 2) := by decide +kernel
theorem d_M_sum_17 : decode nb_M_sum 17 = .ok (.lload_n 1, 1) := by decide +kernel
theorem d_M_sum_18 : decode nb_M_sum 18 = .ok (.iload_n 3, 1) := by decide +kernel
theorem d_M_sum_19 : decode nb_M_sum 19 = .ok (.invokestatic 93, 3) := by decide +kernel
theorem d_M_sum_22 : decode nb_M_sum 22 = .ok (.lload 4, 2) := by decide +kernel
theorem d_M_sum_24 : decode nb_M_sum 24 = .ok (.iload 6, 2) := by decide +kernel
theorem d_M_sum_26 : decode nb_M_sum 26 = .ok (.invokestatic 93, 3) := by decide +kernel
theorem d_M_sum_29 : decode nb_M_sum 29 = .ok (.ladd, 1) := by decide +kernel
theorem d_M_sum_30 : decode nb_M_sum 30 = .ok (.lstore 9, 2) := by decide +kernel
theorem d_M_sum_32 : decode nb_M_sum 32 = .ok (.lload 7, 2) := by decide +kernel
theorem d_M_sum_34 : decode nb_M_sum 34 = .ok (.lload 9, 2) := by decide +kernel
theorem d_M_sum_36 : decode nb_M_sum 36 = .ok (.ldc2_w 97, 3) := by decide +kernel
theorem d_M_sum_39 : decode nb_M_sum 39 = .ok (.ldiv, 1) := by decide +kernel
theorem d_M_sum_40 : decode nb_M_sum 40 = .ok (.ladd, 1) := by decide +kernel
theorem d_M_sum_41 : decode nb_M_sum 41 = .ok (.lstore 7, 2) := by decide +kernel
theorem d_M_sum_43 : decode nb_M_sum 43 = .ok (.lload 9, 2) := by decide +kernel
theorem d_M_sum_45 : decode nb_M_sum 45 = .ok (.ldc2_w 97, 3) := by decide +kernel
theorem d_M_sum_48 : decode nb_M_sum 48 = .ok (.lrem, 1) := by decide +kernel
theorem d_M_sum_49 : decode nb_M_sum 49 = .ok (.lstore 9, 2) := by decide +kernel
theorem d_M_sum_51 : decode nb_M_sum 51 = .ok (.lload 7, 2) := by decide +kernel
theorem d_M_sum_53 : decode nb_M_sum 53 = .ok (.lconst 0, 1) := by decide +kernel
theorem d_M_sum_54 : decode nb_M_sum 54 = .ok (.lcmp, 1) := by decide +kernel
theorem d_M_sum_55 : decode nb_M_sum 55 = .ok (.ifCond .le 27, 3) := by decide +kernel
theorem d_M_sum_58 : decode nb_M_sum 58 = .ok (.lload 9, 2) := by decide +kernel
theorem d_M_sum_60 : decode nb_M_sum 60 = .ok (.lconst 0, 1) := by decide +kernel
theorem d_M_sum_61 : decode nb_M_sum 61 = .ok (.lcmp, 1) := by decide +kernel
theorem d_M_sum_62 : decode nb_M_sum 62 = .ok (.ifCond .ge 20, 3) := by decide +kernel
theorem d_M_sum_65 : decode nb_M_sum 65 = .ok (.lload 7, 2) := by decide +kernel
theorem d_M_sum_67 : decode nb_M_sum 67 = .ok (.lconst 1, 1) := by decide +kernel
theorem d_M_sum_68 : decode nb_M_sum 68 = .ok (.lsub, 1) := by decide +kernel
theorem d_M_sum_69 : decode nb_M_sum 69 = .ok (.lstore 7, 2) := by decide +kernel
theorem d_M_sum_71 : decode nb_M_sum 71 = .ok (.lload 9, 2) := by decide +kernel
theorem d_M_sum_73 : decode nb_M_sum 73 = .ok (.ldc2_w 97, 3) := by decide +kernel
theorem d_M_sum_76 : decode nb_M_sum 76 = .ok (.ladd, 1) := by decide +kernel
theorem d_M_sum_77 : decode nb_M_sum 77 = .ok (.lstore 9, 2) := by decide +kernel
theorem d_M_sum_79 : decode nb_M_sum 79 = .ok (.goto 31, 3) := by decide +kernel
theorem d_M_sum_82 : decode nb_M_sum 82 = .ok (.lload 7, 2) := by decide +kernel
theorem d_M_sum_84 : decode nb_M_sum 84 = .ok (.lconst 0, 1) := by decide +kernel
theorem d_M_sum_85 : decode nb_M_sum 85 = .ok (.lcmp, 1) := by decide +kernel
theorem d_M_sum_86 : decode nb_M_sum 86 = .ok (.ifCond .ge 24, 3) := by decide +kernel
theorem d_M_sum_89 : decode nb_M_sum 89 = .ok (.lload 9, 2) := by decide +kernel
theorem d_M_sum_91 : decode nb_M_sum 91 = .ok (.lconst 0, 1) := by decide +kernel
theorem d_M_sum_92 : decode nb_M_sum 92 = .ok (.lcmp, 1) := by decide +kernel
theorem d_M_sum_93 : decode nb_M_sum 93 = .ok (.ifCond .le 17, 3) := by decide +kernel
theorem d_M_sum_96 : decode nb_M_sum 96 = .ok (.lload 7, 2) := by decide +kernel
theorem d_M_sum_98 : decode nb_M_sum 98 = .ok (.lconst 1, 1) := by decide +kernel
theorem d_M_sum_99 : decode nb_M_sum 99 = .ok (.ladd, 1) := by decide +kernel
theorem d_M_sum_100 : decode nb_M_sum 100 = .ok (.lstore 7, 2) := by decide +kernel
theorem d_M_sum_102 : decode nb_M_sum 102 = .ok (.lload 9, 2) := by decide +kernel
theorem d_M_sum_104 : decode nb_M_sum 104 = .ok (.ldc2_w 97, 3) := by decide +kernel
theorem d_M_sum_107 : decode nb_M_sum 107 = .ok (.lsub, 1) := by decide +kernel
theorem d_M_sum_108 : decode nb_M_sum 108 = .ok (.lstore 9, 2) := by decide +kernel
theorem d_M_sum_110 : decode nb_M_sum 110 = .ok (.aload_n 0, 1) := by decide +kernel
theorem d_M_sum_111 : decode nb_M_sum 111 = .ok (.iconst 0, 1) := by decide +kernel
theorem d_M_sum_112 : decode nb_M_sum 112 = .ok (.putfield 62, 3) := by decide +kernel
theorem d_M_sum_115 : decode nb_M_sum 115 = .ok (.aload_n 0, 1) := by decide +kernel
theorem d_M_sum_116 : decode nb_M_sum 116 = .ok (.lload 7, 2) := by decide +kernel
theorem d_M_sum_118 : decode nb_M_sum 118 = .ok (.invokestatic 81, 3) := by decide +kernel
theorem d_M_sum_121 : decode nb_M_sum 121 = .ok (.bipush 19, 2) := by decide +kernel
theorem d_M_sum_123 : decode nb_M_sum 123 = .ok (.invokevirtual 85, 3) := by decide +kernel
theorem d_M_sum_126 : decode nb_M_sum 126 = .ok (.aload_n 0, 1) := by decide +kernel
theorem d_M_sum_127 : decode nb_M_sum 127 = .ok (.lload 9, 2) := by decide +kernel
theorem d_M_sum_129 : decode nb_M_sum 129 = .ok (.invokestatic 81, 3) := by decide +kernel
theorem d_M_sum_132 : decode nb_M_sum 132 = .ok (.bipush 6, 2) := by decide +kernel
theorem d_M_sum_134 : decode nb_M_sum 134 = .ok (.invokevirtual 85, 3) := by decide +kernel
theorem d_M_sum_137 : decode nb_M_sum 137 = .ok (.aload_n 0, 1) := by decide +kernel
theorem d_M_sum_138 : decode nb_M_sum 138 = .ok (.lload 7, 2) := by decide +kernel
theorem d_M_sum_140 : decode nb_M_sum 140 = .ok (.lconst 0, 1) := by decide +kernel
theorem d_M_sum_141 : decode nb_M_sum 141 = .ok (.lcmp, 1) := by decide +kernel
theorem d_M_sum_142 : decode nb_M_sum 142 = .ok (.ifCond .lt 10, 3) := by decide +kernel
theorem d_M_sum_145 : decode nb_M_sum 145 = .ok (.lload 9, 2) := by decide +kernel
theorem d_M_sum_147 : decode nb_M_sum 147 = .ok (.lconst 0, 1) := by decide +kernel
theorem d_M_sum_148 : decode nb_M_sum 148 = .ok (.lcmp, 1) := by decide +kernel
theorem d_M_sum_149 : decode nb_M_sum 149 = .ok (.ifCond .ge 7, 3) := by decide +kernel
theorem d_M_sum_152 : decode nb_M_sum 152 = .ok (.iconst 1, 1) := by decide +kernel
theorem d_M_sum_153 : decode nb_M_sum 153 = .ok (.goto 4, 3) := by decide +kernel
theorem d_M_sum_156 : decode nb_M_sum 156 = .ok (.iconst 0, 1) := by decide +kernel
theorem d_M_sum_157 : decode nb_M_sum 157 = .ok (.bipush 6, 2) := by decide +kernel
theorem d_M_sum_159 : decode nb_M_sum 159 = .ok (.iconst 0, 1) := by decide +kernel
theorem d_M_sum_160 : decode nb_M_sum 160 = .ok (.invokevirtual 89, 3) := by decide +kernel
theorem d_M_sum_163 : decode nb_M_sum 163 = .ok (.return_, 1) := by decide +kernel
abbrev rm_M_sum : Room := ({ frames := 2, cells := 0, slots := 0, locals := 51 })
theorem w_M_sum_157 {post : Unit → nf_M → Prop} (hfl : l.flags = flags0) (K : nf_K p s m args meth c "NumberForgeModel" nb_M_sum 11 none D a sz) : ∀ (xy0 : Int32) (M : nf_M) (H : Heap) (locs : List Loc) (ls : Array Slot), B_M_sum_157 post xy0 M → lv_has ls 11 [] → nf_W D a s sz H locs M → W p l e rm_M_sum s m args below meth c H locs 0 0 (nf_MQ below (nf_Q nf_jN D a post ex (nf_A a sz)) args s rm_M_sum.cells rm_M_sum.slots (nf_A a sz)) (F0 m 157 ls [.int xy0, .ref (a 19)]) := by
  have hx := K.1
  have hb := K.2.1
  intro xy0 M H locs ls h hl hw
  refine lv_bipush (v := (6 : Int32)) hx hb d_M_sum_157 (by decide) ?_
  refine lv_iconst (v := (0 : Int32)) hx hb d_M_sum_159 (by decide) ?_
  refine nf_callW (ex := (fun _ _ => False)) (As := [.ref (a 19), .int xy0, .int (6 : Int32), .int (0 : Int32)]) (st0 := [.int (0 : Int32), .int (6 : Int32), .int xy0, .ref (a 19)]) (rest := []) K hw (nf_invV hx hb K.2.2.2.1 (nf_Kg K nw_1029) (nf_Kg K nw_1031) (nf_Kg K nx_M_settle) (nf_Kg K nw_1032) ⟨by decide, by decide⟩ (nf_rcv K hw 19 7 rfl rfl) rfl nl_M_settle rfl d_M_sum_160) (c_M_settle l hfl xy0 (6 : Int32) (0 : Int32)) nw_1032 nw_9 rfl ⟨by decide, by decide⟩ (Nat.le_of_ble_eq_true rfl) hl.1 ⟨Nat.le_of_ble_eq_true rfl, Nat.le_of_ble_eq_true rfl⟩ h (fun _ _ h => h.elim) (fun r1 M2 H locs h hw => ?_)
  refine W.eq (g2 := F0 m 163 ls []) rfl ?_
  exact nf_vret K hw d_M_sum_163 (Nat.le_of_ble_eq_true rfl) (Nat.le_of_ble_eq_true rfl) (r := ()) rfl h
theorem w_M_sum_152 {post : Unit → nf_M → Prop} (hfl : l.flags = flags0) (K : nf_K p s m args meth c "NumberForgeModel" nb_M_sum 11 none D a sz) : ∀ (M : nf_M) (H : Heap) (locs : List Loc) (ls : Array Slot), B_M_sum_152 post  M → lv_has ls 11 [] → nf_W D a s sz H locs M → W p l e rm_M_sum s m args below meth c H locs 0 0 (nf_MQ below (nf_Q nf_jN D a post ex (nf_A a sz)) args s rm_M_sum.cells rm_M_sum.slots (nf_A a sz)) (F0 m 152 ls [.ref (a 19)]) := by
  have hx := K.1
  have hb := K.2.1
  intro  M H locs ls h hl hw
  refine lv_iconst (v := (1 : Int32)) hx hb d_M_sum_152 (by decide) ?_
  refine lv_goto hx hb d_M_sum_153 (tgt := 157) (by decide) ?_
  exact w_M_sum_157 hfl K (1 : Int32) M _ _ _ h (lv_sub hl [] rfl) hw
theorem w_M_sum_110 {post : Unit → nf_M → Prop} (hfl : l.flags = flags0) (K : nf_K p s m args meth c "NumberForgeModel" nb_M_sum 11 none D a sz) : ∀ (x7 : Int64) (x9 : Int64) (M : nf_M) (H : Heap) (locs : List Loc) (ls : Array Slot), B_M_sum_110 post x7 x9 M → lv_has ls 11 [(0, .ref (a 19)), (7, .long x7), (9, .long x9)] → nf_W D a s sz H locs M → W p l e rm_M_sum s m args below meth c H locs 0 0 (nf_MQ below (nf_Q nf_jN D a post ex (nf_A a sz)) args s rm_M_sum.cells rm_M_sum.slots (nf_A a sz)) (F0 m 110 ls []) := by
  have hx := K.1
  have hb := K.2.1
  intro x7 x9 M H locs ls h hl hw
  refine lv_aload_n hx hb d_M_sum_110 rfl (lv_at hl 0 rfl) ?_
  refine lv_iconst (v := (0 : Int32)) hx hb d_M_sum_111 (by decide) ?_
  refine nf_put (M' := ms_I M 19 13 (0 : Int32)) K hw 19 7 13 nw_944 rfl rfl rfl ni_M ny_M nq_M nn_M (by decide) rfl rfl rfl rfl (Nat.le_of_ble_eq_true rfl) d_M_sum_112 (fun H locs hw => ?_)
  obtain ⟨M1, eM1⟩ : ∃ z, z = ms_I M 19 13 (0 : Int32) := ⟨_, rfl⟩
  rw [← eM1] at hw
  have h := h M1 eM1
  refine lv_aload_n hx hb d_M_sum_115 rfl (lv_at hl 0 rfl) ?_
  refine lv_lload hx hb d_M_sum_116 (lv_at hl 1 rfl) ?_
  refine nf_callW (ex := (fun _ _ => False)) (As := [.long x7]) (st0 := [.long x7, .ref (a 19)]) (rest := [.ref (a 19)]) K hw (nf_invS hx hb K.2.2.2.1 (nf_Kg K nw_1124) (nf_Kg K nw_1125) (nf_Kg K nw_9) (nf_Kg K nw_1126) ⟨by decide, by decide⟩ rfl nl_M_amount rfl d_M_sum_118) (c_M_amount l hfl x7) nw_1126 nw_9 rfl ⟨by decide, by decide⟩ (Nat.le_of_ble_eq_true rfl) hl.1 ⟨Nat.le_of_ble_eq_true rfl, Nat.le_of_ble_eq_true rfl⟩ h (fun _ _ h => h.elim) (fun r2 M3 H locs h hw => ?_)
  refine W.eq (g2 := F0 m 121 ls [.long r2, .ref (a 19)]) rfl ?_
  refine lv_bipush (v := (19 : Int32)) hx hb d_M_sum_121 (by decide) ?_
  refine nf_callW (ex := (fun _ _ => False)) (As := [.ref (a 19), .long r2, .int (19 : Int32)]) (st0 := [.int (19 : Int32), .long r2, .ref (a 19)]) (rest := []) K hw (nf_invV hx hb K.2.2.2.1 (nf_Kg K nw_1127) (nf_Kg K nw_1129) (nf_Kg K nx_M_addDigits) (nf_Kg K nw_1130) ⟨by decide, by decide⟩ (nf_rcv K hw 19 7 rfl rfl) rfl nl_M_addDigits rfl d_M_sum_123) (c_M_addDigits l hfl r2 (19 : Int32)) nw_1130 nw_9 rfl ⟨by decide, by decide⟩ (Nat.le_of_ble_eq_true rfl) hl.1 ⟨Nat.le_of_ble_eq_true rfl, Nat.le_of_ble_eq_true rfl⟩ h (fun _ _ h => h.elim) (fun r4 M5 H locs h hw => ?_)
  refine W.eq (g2 := F0 m 126 ls []) rfl ?_
  refine lv_aload_n hx hb d_M_sum_126 rfl (lv_at hl 0 rfl) ?_
  refine lv_lload hx hb d_M_sum_127 (lv_at hl 2 rfl) ?_
  refine nf_callW (ex := (fun _ _ => False)) (As := [.long x9]) (st0 := [.long x9, .ref (a 19)]) (rest := [.ref (a 19)]) K hw (nf_invS hx hb K.2.2.2.1 (nf_Kg K nw_1124) (nf_Kg K nw_1125) (nf_Kg K nw_9) (nf_Kg K nw_1126) ⟨by decide, by decide⟩ rfl nl_M_amount rfl d_M_sum_129) (c_M_amount l hfl x9) nw_1126 nw_9 rfl ⟨by decide, by decide⟩ (Nat.le_of_ble_eq_true rfl) hl.1 ⟨Nat.le_of_ble_eq_true rfl, Nat.le_of_ble_eq_true rfl⟩ h (fun _ _ h => h.elim) (fun r6 M7 H locs h hw => ?_)
  refine W.eq (g2 := F0 m 132 ls [.long r6, .ref (a 19)]) rfl ?_
  refine lv_bipush (v := (6 : Int32)) hx hb d_M_sum_132 (by decide) ?_
  refine nf_callW (ex := (fun _ _ => False)) (As := [.ref (a 19), .long r6, .int (6 : Int32)]) (st0 := [.int (6 : Int32), .long r6, .ref (a 19)]) (rest := []) K hw (nf_invV hx hb K.2.2.2.1 (nf_Kg K nw_1127) (nf_Kg K nw_1129) (nf_Kg K nx_M_addDigits) (nf_Kg K nw_1130) ⟨by decide, by decide⟩ (nf_rcv K hw 19 7 rfl rfl) rfl nl_M_addDigits rfl d_M_sum_134) (c_M_addDigits l hfl r6 (6 : Int32)) nw_1130 nw_9 rfl ⟨by decide, by decide⟩ (Nat.le_of_ble_eq_true rfl) hl.1 ⟨Nat.le_of_ble_eq_true rfl, Nat.le_of_ble_eq_true rfl⟩ h (fun _ _ h => h.elim) (fun r8 M9 H locs h hw => ?_)
  refine W.eq (g2 := F0 m 137 ls []) rfl ?_
  refine lv_aload_n hx hb d_M_sum_137 rfl (lv_at hl 0 rfl) ?_
  refine lv_lload hx hb d_M_sum_138 (lv_at hl 1 rfl) ?_
  refine lv_lconst (v := (0 : Int64)) hx hb d_M_sum_140 (by decide) ?_
  refine nf_lc_lt hx hb d_M_sum_141 d_M_sum_142 (tgt := 152) (by decide) (fun hc => ?_) (fun hc => ?_)
  · have h := h.1 hc
    exact w_M_sum_152 hfl K  M9 _ _ _ h (lv_sub hl [] rfl) hw
  · have h := h.2 hc
    refine lv_lload hx hb d_M_sum_145 (lv_at hl 2 rfl) ?_
    refine lv_lconst (v := (0 : Int64)) hx hb d_M_sum_147 (by decide) ?_
    refine nf_lc_ge hx hb d_M_sum_148 d_M_sum_149 (tgt := 156) (by decide) (fun hc => ?_) (fun hc => ?_)
    · have h := h.1 hc
      exact w_M_sum_152 hfl K  M9 _ _ _ h (lv_sub hl [] rfl) hw
    · have h := h.2 hc
      refine lv_iconst (v := (0 : Int32)) hx hb d_M_sum_156 (by decide) ?_
      exact w_M_sum_157 hfl K (0 : Int32) M9 _ _ _ h (lv_sub hl [] rfl) hw
theorem w_M_sum_82 {post : Unit → nf_M → Prop} (hfl : l.flags = flags0) (K : nf_K p s m args meth c "NumberForgeModel" nb_M_sum 11 none D a sz) : ∀ (x7 : Int64) (x9 : Int64) (M : nf_M) (H : Heap) (locs : List Loc) (ls : Array Slot), B_M_sum_82 post x7 x9 M → lv_has ls 11 [(0, .ref (a 19)), (7, .long x7), (9, .long x9)] → nf_W D a s sz H locs M → W p l e rm_M_sum s m args below meth c H locs 0 0 (nf_MQ below (nf_Q nf_jN D a post ex (nf_A a sz)) args s rm_M_sum.cells rm_M_sum.slots (nf_A a sz)) (F0 m 82 ls []) := by
  have hx := K.1
  have hb := K.2.1
  intro x7 x9 M H locs ls h hl hw
  refine lv_lload hx hb d_M_sum_82 (lv_at hl 1 rfl) ?_
  refine lv_lconst (v := (0 : Int64)) hx hb d_M_sum_84 (by decide) ?_
  refine nf_lc_ge hx hb d_M_sum_85 d_M_sum_86 (tgt := 110) (by decide) (fun hc => ?_) (fun hc => ?_)
  · have h := h.1 hc
    refine lv_lload hx hb d_M_sum_89 (lv_at hl 2 rfl) ?_
    refine lv_lconst (v := (0 : Int64)) hx hb d_M_sum_91 (by decide) ?_
    refine nf_lc_le hx hb d_M_sum_92 d_M_sum_93 (tgt := 110) (by decide) (fun hc => ?_) (fun hc => ?_)
    · have h := h.1 hc
      refine lv_lload hx hb d_M_sum_96 (lv_at hl 1 rfl) ?_
      refine lv_lconst (v := (1 : Int64)) hx hb d_M_sum_98 (by decide) ?_
      refine lv_ladd hx hb d_M_sum_99 ?_
      refine lv_topl (fun t1 et1 => ?_)
      have h := h t1 et1
      refine lv_lstore (lv' := [(7, .long t1), (0, .ref (a 19)), (9, .long x9)]) hx hb d_M_sum_100 hl (by decide) rfl (fun ls hl => ?_)
      refine lv_lload hx hb d_M_sum_102 (lv_at hl 2 rfl) ?_
      refine lv_ldc2 (v := (1000000 : Int64)) hx hb K.2.2.2.1 (nf_Kg K nw_1123) d_M_sum_104 ?_
      refine lv_lsub hx hb d_M_sum_107 ?_
      refine lv_topl (fun t2 et2 => ?_)
      have h := h t2 et2
      refine lv_lstore (lv' := [(9, .long t2), (7, .long t1), (0, .ref (a 19))]) hx hb d_M_sum_108 hl (by decide) rfl (fun ls hl => ?_)
      exact w_M_sum_110 hfl K t1 t2 M _ _ _ h (lv_sub hl [2, 1, 0] rfl) hw
    · have h := h.2 hc
      exact w_M_sum_110 hfl K x7 x9 M _ _ _ h (lv_sub hl [0, 1, 2] rfl) hw
  · have h := h.2 hc
    exact w_M_sum_110 hfl K x7 x9 M _ _ _ h (lv_sub hl [0, 1, 2] rfl) hw
theorem c_M_sum (l : Launch) (hfl : l.flags = flags0) (x1 : Int64) (x3 : Int32) (x4 : Int64) (x6 : Int32) : nf_C nf_jN l nm_M_sum nb_M_sum 11 none rm_M_sum (fun a => [.ref (a 19), .long x1, .int x3, .long x4, .int x6]) (fun M post ex => P_M_sum x1 x3 x4 x6 M post) := by
  refine nf_start (plainFor_of_name (by decide +kernel)) (fun a => Nat.le_of_ble_eq_true rfl) ?_
  intro D a sz M post ex p e s m below meth c ls h K hl hw
  have hx := K.1
  have hb := K.2.1
  have hl : lv_has ls 11 [(0, .ref (a 19)), (1, .long x1), (3, .int x3), (4, .long x4), (6, .int x6)] := hl
  refine lv_lload_n hx hb d_M_sum_0 rfl (lv_at hl 1 rfl) ?_
  refine lv_iload_n hx hb d_M_sum_1 rfl (lv_at hl 2 rfl) ?_
  refine nf_callW (ex := (fun _ _ => False)) (As := [.int x3]) (st0 := [.int x3, .long x1]) (rest := [.long x1]) K hw (nf_invS hx hb K.2.2.2.1 (nf_Kg K nw_1066) (nf_Kg K nw_1067) (nf_Kg K nw_9) (nf_Kg K nw_1068) ⟨by decide, by decide⟩ rfl nl_M_power rfl d_M_sum_2) (c_M_power l hfl x3) nw_1068 nw_9 rfl ⟨by decide, by decide⟩ (Nat.le_of_ble_eq_true rfl) hl.1 ⟨Nat.le_of_ble_eq_true rfl, Nat.le_of_ble_eq_true rfl⟩ h (fun _ _ h => h.elim) (fun r1 M2 H locs h hw => ?_)
  refine W.eq (g2 := F0 m 5 ls [.long r1, .long x1]) rfl ?_
  obtain ⟨g3, h⟩ := h
  refine lv_ldiv hx hb d_M_sum_5 g3 ?_
  refine lv_lload hx hb d_M_sum_6 (lv_at hl 3 rfl) ?_
  refine lv_iload hx hb d_M_sum_8 (lv_at hl 4 rfl) ?_
  refine nf_callW (ex := (fun _ _ => False)) (As := [.int x6]) (st0 := [.int x6, .long x4, .long (x1 / r1)]) (rest := [.long x4, .long (x1 / r1)]) K hw (nf_invS hx hb K.2.2.2.1 (nf_Kg K nw_1066) (nf_Kg K nw_1067) (nf_Kg K nw_9) (nf_Kg K nw_1068) ⟨by decide, by decide⟩ rfl nl_M_power rfl d_M_sum_10) (c_M_power l hfl x6) nw_1068 nw_9 rfl ⟨by decide, by decide⟩ (Nat.le_of_ble_eq_true rfl) hl.1 ⟨Nat.le_of_ble_eq_true rfl, Nat.le_of_ble_eq_true rfl⟩ h (fun _ _ h => h.elim) (fun r4 M5 H locs h hw => ?_)
  refine W.eq (g2 := F0 m 13 ls [.long r4, .long x4, .long (x1 / r1)]) rfl ?_
  obtain ⟨g6, h⟩ := h
  refine lv_ldiv hx hb d_M_sum_13 g6 ?_
  refine lv_ladd hx hb d_M_sum_14 ?_
  refine lv_topl (fun t7 et7 => ?_)
  have h := h t7 et7
  refine lv_lstore (lv' := [(7, .long t7), (0, .ref (a 19)), (1, .long x1), (3, .int x3), (4, .long x4), (6, .int x6)]) hx hb d_M_sum_15 hl (by decide) rfl (fun ls hl => ?_)
  refine lv_lload_n hx hb d_M_sum_17 rfl (lv_at hl 2 rfl) ?_
  refine lv_iload_n hx hb d_M_sum_18 rfl (lv_at hl 3 rfl) ?_
  refine nf_callW (ex := (fun _ _ => False)) (As := [.long x1, .int x3]) (st0 := [.int x3, .long x1]) (rest := []) K hw (nf_invS hx hb K.2.2.2.1 (nf_Kg K nw_1120) (nf_Kg K nw_1121) (nf_Kg K nw_9) (nf_Kg K nw_1122) ⟨by decide, by decide⟩ rfl nl_M_millionths rfl d_M_sum_19) (c_M_millionths l hfl x1 x3) nw_1122 nw_9 rfl ⟨by decide, by decide⟩ (Nat.le_of_ble_eq_true rfl) hl.1 ⟨Nat.le_of_ble_eq_true rfl, Nat.le_of_ble_eq_true rfl⟩ h (fun _ _ h => h.elim) (fun r8 M9 H locs h hw => ?_)
  refine W.eq (g2 := F0 m 22 ls [.long r8]) rfl ?_
  refine lv_lload hx hb d_M_sum_22 (lv_at hl 4 rfl) ?_
  refine lv_iload hx hb d_M_sum_24 (lv_at hl 5 rfl) ?_
  refine nf_callW (ex := (fun _ _ => False)) (As := [.long x4, .int x6]) (st0 := [.int x6, .long x4, .long r8]) (rest := [.long r8]) K hw (nf_invS hx hb K.2.2.2.1 (nf_Kg K nw_1120) (nf_Kg K nw_1121) (nf_Kg K nw_9) (nf_Kg K nw_1122) ⟨by decide, by decide⟩ rfl nl_M_millionths rfl d_M_sum_26) (c_M_millionths l hfl x4 x6) nw_1122 nw_9 rfl ⟨by decide, by decide⟩ (Nat.le_of_ble_eq_true rfl) hl.1 ⟨Nat.le_of_ble_eq_true rfl, Nat.le_of_ble_eq_true rfl⟩ h (fun _ _ h => h.elim) (fun r10 M11 H locs h hw => ?_)
  refine W.eq (g2 := F0 m 29 ls [.long r10, .long r8]) rfl ?_
  refine lv_ladd hx hb d_M_sum_29 ?_
  refine lv_topl (fun t12 et12 => ?_)
  have h := h t12 et12
  refine lv_lstore (lv' := [(9, .long t12), (7, .long t7), (0, .ref (a 19)), (1, .long x1), (3, .int x3), (4, .long x4), (6, .int x6)]) hx hb d_M_sum_30 hl (by decide) rfl (fun ls hl => ?_)
  refine lv_lload hx hb d_M_sum_32 (lv_at hl 1 rfl) ?_
  refine lv_lload hx hb d_M_sum_34 (lv_at hl 0 rfl) ?_
  refine lv_ldc2 (v := (1000000 : Int64)) hx hb K.2.2.2.1 (nf_Kg K nw_1123) d_M_sum_36 ?_
  refine lv_ldiv hx hb d_M_sum_39 (by decide) ?_
  refine lv_ladd hx hb d_M_sum_40 ?_
  refine lv_topl (fun t13 et13 => ?_)
  have h := h t13 et13
  refine lv_lstore (lv' := [(7, .long t13), (9, .long t12), (0, .ref (a 19)), (1, .long x1), (3, .int x3), (4, .long x4), (6, .int x6)]) hx hb d_M_sum_41 hl (by decide) rfl (fun ls hl => ?_)
  refine lv_lload hx hb d_M_sum_43 (lv_at hl 1 rfl) ?_
  refine lv_ldc2 (v := (1000000 : Int64)) hx hb K.2.2.2.1 (nf_Kg K nw_1123) d_M_sum_45 ?_
  refine lv_lrem hx hb d_M_sum_48 (by decide) ?_
  refine lv_topl (fun t14 et14 => ?_)
  have h := h t14 et14
  refine lv_lstore (lv' := [(9, .long t14), (7, .long t13), (0, .ref (a 19)), (1, .long x1), (3, .int x3), (4, .long x4), (6, .int x6)]) hx hb d_M_sum_49 hl (by decide) rfl (fun ls hl => ?_)
  refine lv_lload hx hb d_M_sum_51 (lv_at hl 1 rfl) ?_
  refine lv_lconst (v := (0 : Int64)) hx hb d_M_sum_53 (by decide) ?_
  refine nf_lc_le hx hb d_M_sum_54 d_M_sum_55 (tgt := 82) (by decide) (fun hc => ?_) (fun hc => ?_)
  · have h := h.1 hc
    refine lv_lload hx hb d_M_sum_58 (lv_at hl 0 rfl) ?_
    refine lv_lconst (v := (0 : Int64)) hx hb d_M_sum_60 (by decide) ?_
    refine nf_lc_ge hx hb d_M_sum_61 d_M_sum_62 (tgt := 82) (by decide) (fun hc => ?_) (fun hc => ?_)
    · have h := h.1 hc
      refine lv_lload hx hb d_M_sum_65 (lv_at hl 1 rfl) ?_
      refine lv_lconst (v := (1 : Int64)) hx hb d_M_sum_67 (by decide) ?_
      refine lv_lsub hx hb d_M_sum_68 ?_
      refine lv_topl (fun t15 et15 => ?_)
      have h := h t15 et15
      refine lv_lstore (lv' := [(7, .long t15), (9, .long t14), (0, .ref (a 19)), (1, .long x1), (3, .int x3), (4, .long x4), (6, .int x6)]) hx hb d_M_sum_69 hl (by decide) rfl (fun ls hl => ?_)
      refine lv_lload hx hb d_M_sum_71 (lv_at hl 1 rfl) ?_
      refine lv_ldc2 (v := (1000000 : Int64)) hx hb K.2.2.2.1 (nf_Kg K nw_1123) d_M_sum_73 ?_
      refine lv_ladd hx hb d_M_sum_76 ?_
      refine lv_topl (fun t16 et16 => ?_)
      have h := h t16 et16
      refine lv_lstore (lv' := [(9, .long t16), (7, .long t15), (0, .ref (a 19)), (1, .long x1), (3, .int x3), (4, .long x4), (6, .int x6)]) hx hb d_M_sum_77 hl (by decide) rfl (fun ls hl => ?_)
      refine lv_goto hx hb d_M_sum_79 (tgt := 110) (by decide) ?_
      exact w_M_sum_110 hfl K t15 t16 M11 _ _ _ h (lv_sub hl [2, 1, 0] rfl) hw
    · have h := h.2 hc
      exact w_M_sum_82 hfl K t13 t14 M11 _ _ _ h (lv_sub hl [2, 1, 0] rfl) hw
  · have h := h.2 hc
    exact w_M_sum_82 hfl K t13 t14 M11 _ _ _ h (lv_sub hl [2, 1, 0] rfl) hw
theorem d_M_product_0 : decode nb_M_product 0 = .ok (.lload_n 1, 1) := by decide +kernel
theorem d_M_product_1 : decode nb_M_product 1 = .ok (.invokestatic 81, 3) := by decide +kernel
theorem d_M_product_4 : decode nb_M_product 4 = .ok (.lstore 7, 2) := by decide +kernel
theorem d_M_product_6 : decode nb_M_product 6 = .ok (.lload 4, 2) := by decide +kernel
theorem d_M_product_8 : decode nb_M_product 8 = .ok (.invokestatic 81, 3) := by decide +kernel
theorem d_M_product_11 : decode nb_M_product 11 = .ok (.lstore 9, 2) := by decide +kernel
theorem d_M_product_13 : decode nb_M_product 13 = .ok (.lload 7, 2) := by decide +kernel
theorem d_M_product_15 : decode nb_M_product 15 = .ok (.ldc2_w 99, 3) := by decide +kernel
theorem d_M_product_18 : decode nb_M_product 18 = .ok (.lrem, 1) := by decide +kernel
theorem d_M_product_19 : decode nb_M_product 19 = .ok (.lstore 11, 2) := by decide +kernel
theorem d_M_product_21 : decode nb_M_product 21 = .ok (.lload 7, 2) := by decide +kernel
theorem d_M_product_23 : decode nb_M_product 23 = .ok (.ldc2_w 99, 3) := by decide +kernel
theorem d_M_product_26 : decode nb_M_product 26 = .ok (.ldiv, 1) := by decide +kernel
theorem d_M_product_27 : decode nb_M_product 27 = .ok (.lstore 13, 2) := by decide +kernel
theorem d_M_product_29 : decode nb_M_product 29 = .ok (.lload 9, 2) := by decide +kernel
theorem d_M_product_31 : decode nb_M_product 31 = .ok (.ldc2_w 99, 3) := by decide +kernel
theorem d_M_product_34 : decode nb_M_product 34 = .ok (.lrem, 1) := by decide +kernel
theorem d_M_product_35 : decode nb_M_product 35 = .ok (.lstore 15, 2) := by decide +kernel
theorem d_M_product_37 : decode nb_M_product 37 = .ok (.lload 9, 2) := by decide +kernel
theorem d_M_product_39 : decode nb_M_product 39 = .ok (.ldc2_w 99, 3) := by decide +kernel
theorem d_M_product_42 : decode nb_M_product 42 = .ok (.ldiv, 1) := by decide +kernel
theorem d_M_product_43 : decode nb_M_product 43 = .ok (.lstore 17, 2) := by decide +kernel
theorem d_M_product_45 : decode nb_M_product 45 = .ok (.lload 11, 2) := by decide +kernel
theorem d_M_product_47 : decode nb_M_product 47 = .ok (.lload 15, 2) := by decide +kernel
theorem d_M_product_49 : decode nb_M_product 49 = .ok (.lmul, 1) := by decide +kernel
theorem d_M_product_50 : decode nb_M_product 50 = .ok (.lstore 19, 2) := by decide +kernel
theorem d_M_product_52 : decode nb_M_product 52 = .ok (.lload 11, 2) := by decide +kernel
theorem d_M_product_54 : decode nb_M_product 54 = .ok (.lload 17, 2) := by decide +kernel
theorem d_M_product_56 : decode nb_M_product 56 = .ok (.lmul, 1) := by decide +kernel
theorem d_M_product_57 : decode nb_M_product 57 = .ok (.lload 13, 2) := by decide +kernel
theorem d_M_product_59 : decode nb_M_product 59 = .ok (.lload 15, 2) := by decide +kernel
theorem d_M_product_61 : decode nb_M_product 61 = .ok (.lmul, 1) := by decide +kernel
theorem d_M_product_62 : decode nb_M_product 62 = .ok (.ladd, 1) := by decide +kernel
theorem d_M_product_63 : decode nb_M_product 63 = .ok (.lload 19, 2) := by decide +kernel
theorem d_M_product_65 : decode nb_M_product 65 = .ok (.ldc2_w 99, 3) := by decide +kernel
theorem d_M_product_68 : decode nb_M_product 68 = .ok (.ldiv, 1) := by decide +kernel
theorem d_M_product_69 : decode nb_M_product 69 = .ok (.ladd, 1) := by decide +kernel
theorem d_M_product_70 : decode nb_M_product 70 = .ok (.lstore 21, 2) := by decide +kernel
theorem d_M_product_72 : decode nb_M_product 72 = .ok (.lload 13, 2) := by decide +kernel
theorem d_M_product_74 : decode nb_M_product 74 = .ok (.lload 17, 2) := by decide +kernel
theorem d_M_product_76 : decode nb_M_product 76 = .ok (.lmul, 1) := by decide +kernel
theorem d_M_product_77 : decode nb_M_product 77 = .ok (.lload 21, 2) := by decide +kernel
theorem d_M_product_79 : decode nb_M_product 79 = .ok (.ldc2_w 99, 3) := by decide +kernel
theorem d_M_product_82 : decode nb_M_product 82 = .ok (.ldiv, 1) := by decide +kernel
theorem d_M_product_83 : decode nb_M_product 83 = .ok (.ladd, 1) := by decide +kernel
theorem d_M_product_84 : decode nb_M_product 84 = .ok (.lstore 23, 2) := by decide +kernel
theorem d_M_product_86 : decode nb_M_product 86 = .ok (.aload_n 0, 1) := by decide +kernel
theorem d_M_product_87 : decode nb_M_product 87 = .ok (.iconst 0, 1) := by decide +kernel
theorem d_M_product_88 : decode nb_M_product 88 = .ok (.putfield 62, 3) := by decide +kernel
theorem d_M_product_91 : decode nb_M_product 91 = .ok (.aload_n 0, 1) := by decide +kernel
theorem d_M_product_92 : decode nb_M_product 92 = .ok (.lload 23, 2) := by decide +kernel
theorem d_M_product_94 : decode nb_M_product 94 = .ok (.bipush 19, 2) := by decide +kernel
theorem d_M_product_96 : decode nb_M_product 96 = .ok (.invokevirtual 85, 3) := by decide +kernel
theorem d_M_product_99 : decode nb_M_product 99 = .ok (.aload_n 0, 1) := by decide +kernel
theorem d_M_product_100 : decode nb_M_product 100 = .ok (.lload 21, 2) := by decide +kernel
theorem d_M_product_102 : decode nb_M_product 102 = .ok (.ldc2_w 99, 3) := by decide +kernel
theorem d_M_product_105 : decode nb_M_product 105 = .ok (.lrem, 1) := by decide +kernel
theorem d_M_product_106 : decode nb_M_product 106 = .ok (.bipush 8, 2) := by decide +kernel
theorem d_M_product_108 : decode nb_M_product 108 = .ok (.invokevirtual 85, 3) := by decide +kernel
theorem d_M_product_111 : decode nb_M_product 111 = .ok (.aload_n 0, 1) := by decide +kernel
theorem d_M_product_112 : decode nb_M_product 112 = .ok (.lload 19, 2) := by decide +kernel
theorem d_M_product_114 : decode nb_M_product 114 = .ok (.ldc2_w 99, 3) := by decide +kernel
theorem d_M_product_117 : decode nb_M_product 117 = .ok (.lrem, 1) := by decide +kernel
theorem d_M_product_118 : decode nb_M_product 118 = .ok (.bipush 8, 2) := by decide +kernel
theorem d_M_product_120 : decode nb_M_product 120 = .ok (.invokevirtual 85, 3) := by decide +kernel
theorem d_M_product_123 : decode nb_M_product 123 = .ok (.aload_n 0, 1) := by decide +kernel
theorem d_M_product_124 : decode nb_M_product 124 = .ok (.lload_n 1, 1) := by decide +kernel
theorem d_M_product_125 : decode nb_M_product 125 = .ok (.lconst 0, 1) := by decide +kernel
theorem d_M_product_126 : decode nb_M_product 126 = .ok (.lcmp, 1) := by decide +kernel
theorem d_M_product_127 : decode nb_M_product 127 = .ok (.ifCond .ge 7, 3) := by decide +kernel
theorem d_M_product_130 : decode nb_M_product 130 = .ok (.iconst 1, 1) := by decide +kernel
theorem d_M_product_131 : decode nb_M_product 131 = .ok (.goto 4, 3) := by decide +kernel
theorem d_M_product_134 : decode nb_M_product 134 = .ok (.iconst 0, 1) := by decide +kernel
theorem d_M_product_135 : decode nb_M_product 135 = .ok (.lload 4, 2) := by decide +kernel
theorem d_M_product_137 : decode nb_M_product 137 = .ok (.lconst 0, 1) := by decide +kernel
theorem d_M_product_138 : decode nb_M_product 138 = .ok (.lcmp, 1) := by decide +kernel
theorem d_M_product_139 : decode nb_M_product 139 = .ok (.ifCond .ge 7, 3) := by decide +kernel
theorem d_M_product_142 : decode nb_M_product 142 = .ok (.iconst 1, 1) := by decide +kernel
theorem d_M_product_143 : decode nb_M_product 143 = .ok (.goto 4, 3) := by decide +kernel
theorem d_M_product_146 : decode nb_M_product 146 = .ok (.iconst 0, 1) := by decide +kernel
theorem d_M_product_147 : decode nb_M_product 147 = .ok (.if_icmp .eq 7, 3) := by decide +kernel
theorem d_M_product_150 : decode nb_M_product 150 = .ok (.iconst 1, 1) := by decide +kernel
theorem d_M_product_151 : decode nb_M_product 151 = .ok (.goto 4, 3) := by decide +kernel
theorem d_M_product_154 : decode nb_M_product 154 = .ok (.iconst 0, 1) := by decide +kernel
theorem d_M_product_155 : decode nb_M_product 155 = .ok (.iload_n 3, 1) := by decide +kernel
theorem d_M_product_156 : decode nb_M_product 156 = .ok (.iload 6, 2) := by decide +kernel
theorem d_M_product_158 : decode nb_M_product 158 = .ok (.iadd, 1) := by decide +kernel
theorem d_M_product_159 : decode nb_M_product 159 = .ok (.iconst 0, 1) := by decide +kernel
theorem d_M_product_160 : decode nb_M_product 160 = .ok (.invokevirtual 89, 3) := by decide +kernel
theorem d_M_product_163 : decode nb_M_product 163 = .ok (.return_, 1) := by decide +kernel
abbrev rm_M_product : Room := ({ frames := 2, cells := 0, slots := 0, locals := 51 })
theorem w_M_product_155 {post : Unit → nf_M → Prop} (hfl : l.flags = flags0) (K : nf_K p s m args meth c "NumberForgeModel" nb_M_product 25 none D a sz) : ∀ (x3 : Int32) (x6 : Int32) (xy0 : Int32) (M : nf_M) (H : Heap) (locs : List Loc) (ls : Array Slot), B_M_product_155 post x3 x6 xy0 M → lv_has ls 25 [(3, .int x3), (6, .int x6)] → nf_W D a s sz H locs M → W p l e rm_M_product s m args below meth c H locs 0 0 (nf_MQ below (nf_Q nf_jN D a post ex (nf_A a sz)) args s rm_M_product.cells rm_M_product.slots (nf_A a sz)) (F0 m 155 ls [.int xy0, .ref (a 19)]) := by
  have hx := K.1
  have hb := K.2.1
  intro x3 x6 xy0 M H locs ls h hl hw
  refine lv_iload_n hx hb d_M_product_155 rfl (lv_at hl 0 rfl) ?_
  refine lv_iload hx hb d_M_product_156 (lv_at hl 1 rfl) ?_
  refine lv_iadd hx hb d_M_product_158 ?_
  refine lv_iconst (v := (0 : Int32)) hx hb d_M_product_159 (by decide) ?_
  refine nf_callW (ex := (fun _ _ => False)) (As := [.ref (a 19), .int xy0, .int (x3 + x6), .int (0 : Int32)]) (st0 := [.int (0 : Int32), .int (x3 + x6), .int xy0, .ref (a 19)]) (rest := []) K hw (nf_invV hx hb K.2.2.2.1 (nf_Kg K nw_1029) (nf_Kg K nw_1031) (nf_Kg K nx_M_settle) (nf_Kg K nw_1032) ⟨by decide, by decide⟩ (nf_rcv K hw 19 7 rfl rfl) rfl nl_M_settle rfl d_M_product_160) (c_M_settle l hfl xy0 (x3 + x6) (0 : Int32)) nw_1032 nw_9 rfl ⟨by decide, by decide⟩ (Nat.le_of_ble_eq_true rfl) hl.1 ⟨Nat.le_of_ble_eq_true rfl, Nat.le_of_ble_eq_true rfl⟩ h (fun _ _ h => h.elim) (fun r1 M2 H locs h hw => ?_)
  refine W.eq (g2 := F0 m 163 ls []) rfl ?_
  exact nf_vret K hw d_M_product_163 (Nat.le_of_ble_eq_true rfl) (Nat.le_of_ble_eq_true rfl) (r := ()) rfl h
theorem w_M_product_147 {post : Unit → nf_M → Prop} (hfl : l.flags = flags0) (K : nf_K p s m args meth c "NumberForgeModel" nb_M_product 25 none D a sz) : ∀ (x3 : Int32) (x6 : Int32) (xy0 : Int32) (xy1 : Int32) (M : nf_M) (H : Heap) (locs : List Loc) (ls : Array Slot), B_M_product_147 post x3 x6 xy0 xy1 M → lv_has ls 25 [(3, .int x3), (6, .int x6)] → nf_W D a s sz H locs M → W p l e rm_M_product s m args below meth c H locs 0 0 (nf_MQ below (nf_Q nf_jN D a post ex (nf_A a sz)) args s rm_M_product.cells rm_M_product.slots (nf_A a sz)) (F0 m 147 ls [.int xy0, .int xy1, .ref (a 19)]) := by
  have hx := K.1
  have hb := K.2.1
  intro x3 x6 xy0 xy1 M H locs ls h hl hw
  refine nf_ic_eq hx hb d_M_product_147 (tgt := 154) (by decide) (fun hc => ?_) (fun hc => ?_)
  · have h := h.1 hc
    refine lv_iconst (v := (0 : Int32)) hx hb d_M_product_154 (by decide) ?_
    exact w_M_product_155 hfl K x3 x6 (0 : Int32) M _ _ _ h (lv_sub hl [0, 1] rfl) hw
  · have h := h.2 hc
    refine lv_iconst (v := (1 : Int32)) hx hb d_M_product_150 (by decide) ?_
    refine lv_goto hx hb d_M_product_151 (tgt := 155) (by decide) ?_
    exact w_M_product_155 hfl K x3 x6 (1 : Int32) M _ _ _ h (lv_sub hl [0, 1] rfl) hw
theorem w_M_product_135 {post : Unit → nf_M → Prop} (hfl : l.flags = flags0) (K : nf_K p s m args meth c "NumberForgeModel" nb_M_product 25 none D a sz) : ∀ (x3 : Int32) (x4 : Int64) (x6 : Int32) (xy0 : Int32) (M : nf_M) (H : Heap) (locs : List Loc) (ls : Array Slot), B_M_product_135 post x3 x4 x6 xy0 M → lv_has ls 25 [(3, .int x3), (4, .long x4), (6, .int x6)] → nf_W D a s sz H locs M → W p l e rm_M_product s m args below meth c H locs 0 0 (nf_MQ below (nf_Q nf_jN D a post ex (nf_A a sz)) args s rm_M_product.cells rm_M_product.slots (nf_A a sz)) (F0 m 135 ls [.int xy0, .ref (a 19)]) := by
  have hx := K.1
  have hb := K.2.1
  intro x3 x4 x6 xy0 M H locs ls h hl hw
  refine lv_lload hx hb d_M_product_135 (lv_at hl 1 rfl) ?_
  refine lv_lconst (v := (0 : Int64)) hx hb d_M_product_137 (by decide) ?_
  refine nf_lc_ge hx hb d_M_product_138 d_M_product_139 (tgt := 146) (by decide) (fun hc => ?_) (fun hc => ?_)
  · have h := h.1 hc
    refine lv_iconst (v := (1 : Int32)) hx hb d_M_product_142 (by decide) ?_
    refine lv_goto hx hb d_M_product_143 (tgt := 147) (by decide) ?_
    exact w_M_product_147 hfl K x3 x6 (1 : Int32) xy0 M _ _ _ h (lv_sub hl [0, 2] rfl) hw
  · have h := h.2 hc
    refine lv_iconst (v := (0 : Int32)) hx hb d_M_product_146 (by decide) ?_
    exact w_M_product_147 hfl K x3 x6 (0 : Int32) xy0 M _ _ _ h (lv_sub hl [0, 2] rfl) hw
theorem c_M_product (l : Launch) (hfl : l.flags = flags0) (x1 : Int64) (x3 : Int32) (x4 : Int64) (x6 : Int32) : nf_C nf_jN l nm_M_product nb_M_product 25 none rm_M_product (fun a => [.ref (a 19), .long x1, .int x3, .long x4, .int x6]) (fun M post ex => P_M_product x1 x3 x4 x6 M post) := by
  refine nf_start (plainFor_of_name (by decide +kernel)) (fun a => Nat.le_of_ble_eq_true rfl) ?_
  intro D a sz M post ex p e s m below meth c ls h K hl hw
  have hx := K.1
  have hb := K.2.1
  have hl : lv_has ls 25 [(0, .ref (a 19)), (1, .long x1), (3, .int x3), (4, .long x4), (6, .int x6)] := hl
  refine lv_lload_n hx hb d_M_product_0 rfl (lv_at hl 1 rfl) ?_
  refine nf_callW (ex := (fun _ _ => False)) (As := [.long x1]) (st0 := [.long x1]) (rest := []) K hw (nf_invS hx hb K.2.2.2.1 (nf_Kg K nw_1124) (nf_Kg K nw_1125) (nf_Kg K nw_9) (nf_Kg K nw_1126) ⟨by decide, by decide⟩ rfl nl_M_amount rfl d_M_product_1) (c_M_amount l hfl x1) nw_1126 nw_9 rfl ⟨by decide, by decide⟩ (Nat.le_of_ble_eq_true rfl) hl.1 ⟨Nat.le_of_ble_eq_true rfl, Nat.le_of_ble_eq_true rfl⟩ h (fun _ _ h => h.elim) (fun r1 M2 H locs h hw => ?_)
  refine W.eq (g2 := F0 m 4 ls [.long r1]) rfl ?_
  refine lv_lstore (lv' := [(7, .long r1), (0, .ref (a 19)), (1, .long x1), (3, .int x3), (4, .long x4), (6, .int x6)]) hx hb d_M_product_4 hl (by decide) rfl (fun ls hl => ?_)
  refine lv_lload hx hb d_M_product_6 (lv_at hl 4 rfl) ?_
  refine nf_callW (ex := (fun _ _ => False)) (As := [.long x4]) (st0 := [.long x4]) (rest := []) K hw (nf_invS hx hb K.2.2.2.1 (nf_Kg K nw_1124) (nf_Kg K nw_1125) (nf_Kg K nw_9) (nf_Kg K nw_1126) ⟨by decide, by decide⟩ rfl nl_M_amount rfl d_M_product_8) (c_M_amount l hfl x4) nw_1126 nw_9 rfl ⟨by decide, by decide⟩ (Nat.le_of_ble_eq_true rfl) hl.1 ⟨Nat.le_of_ble_eq_true rfl, Nat.le_of_ble_eq_true rfl⟩ h (fun _ _ h => h.elim) (fun r3 M4 H locs h hw => ?_)
  refine W.eq (g2 := F0 m 11 ls [.long r3]) rfl ?_
  refine lv_lstore (lv' := [(9, .long r3), (7, .long r1), (0, .ref (a 19)), (1, .long x1), (3, .int x3), (4, .long x4), (6, .int x6)]) hx hb d_M_product_11 hl (by decide) rfl (fun ls hl => ?_)
  refine lv_lload hx hb d_M_product_13 (lv_at hl 1 rfl) ?_
  refine lv_ldc2 (v := (100000000 : Int64)) hx hb K.2.2.2.1 (nf_Kg K nw_1135) d_M_product_15 ?_
  refine lv_lrem hx hb d_M_product_18 (by decide) ?_
  refine lv_topl (fun t5 et5 => ?_)
  have h := h t5 et5
  refine lv_lstore (lv' := [(11, .long t5), (9, .long r3), (7, .long r1), (0, .ref (a 19)), (1, .long x1), (3, .int x3), (4, .long x4), (6, .int x6)]) hx hb d_M_product_19 hl (by decide) rfl (fun ls hl => ?_)
  refine lv_lload hx hb d_M_product_21 (lv_at hl 2 rfl) ?_
  refine lv_ldc2 (v := (100000000 : Int64)) hx hb K.2.2.2.1 (nf_Kg K nw_1135) d_M_product_23 ?_
  refine lv_ldiv hx hb d_M_product_26 (by decide) ?_
  refine lv_topl (fun t6 et6 => ?_)
  have h := h t6 et6
  refine lv_lstore (lv' := [(13, .long t6), (11, .long t5), (9, .long r3), (7, .long r1), (0, .ref (a 19)), (1, .long x1), (3, .int x3), (4, .long x4), (6, .int x6)]) hx hb d_M_product_27 hl (by decide) rfl (fun ls hl => ?_)
  refine lv_lload hx hb d_M_product_29 (lv_at hl 2 rfl) ?_
  refine lv_ldc2 (v := (100000000 : Int64)) hx hb K.2.2.2.1 (nf_Kg K nw_1135) d_M_product_31 ?_
  refine lv_lrem hx hb d_M_product_34 (by decide) ?_
  refine lv_topl (fun t7 et7 => ?_)
  have h := h t7 et7
  refine lv_lstore (lv' := [(15, .long t7), (13, .long t6), (11, .long t5), (9, .long r3), (7, .long r1), (0, .ref (a 19)), (1, .long x1), (3, .int x3), (4, .long x4), (6, .int x6)]) hx hb d_M_product_35 hl (by decide) rfl (fun ls hl => ?_)
  refine lv_lload hx hb d_M_product_37 (lv_at hl 3 rfl) ?_
  refine lv_ldc2 (v := (100000000 : Int64)) hx hb K.2.2.2.1 (nf_Kg K nw_1135) d_M_product_39 ?_
  refine lv_ldiv hx hb d_M_product_42 (by decide) ?_
  refine lv_topl (fun t8 et8 => ?_)
  have h := h t8 et8
  refine lv_lstore (lv' := [(17, .long t8), (15, .long t7), (13, .long t6), (11, .long t5), (9, .long r3), (7, .long r1), (0, .ref (a 19)), (1, .long x1), (3, .int x3), (4, .long x4), (6, .int x6)]) hx hb d_M_product_43 hl (by decide) rfl (fun ls hl => ?_)
  refine lv_lload hx hb d_M_product_45 (lv_at hl 3 rfl) ?_
  refine lv_lload hx hb d_M_product_47 (lv_at hl 1 rfl) ?_
  refine lv_lmul hx hb d_M_product_49 ?_
  refine lv_topl (fun t9 et9 => ?_)
  have h := h t9 et9
  refine lv_lstore (lv' := [(19, .long t9), (17, .long t8), (15, .long t7), (13, .long t6), (11, .long t5), (9, .long r3), (7, .long r1), (0, .ref (a 19)), (1, .long x1), (3, .int x3), (4, .long x4), (6, .int x6)]) hx hb d_M_product_50 hl (by decide) rfl (fun ls hl => ?_)
  refine lv_lload hx hb d_M_product_52 (lv_at hl 4 rfl) ?_
  refine lv_lload hx hb d_M_product_54 (lv_at hl 1 rfl) ?_
  refine lv_lmul hx hb d_M_product_56 ?_
  refine lv_lload hx hb d_M_product_57 (lv_at hl 3 rfl) ?_
  refine lv_lload hx hb d_M_product_59 (lv_at hl 2 rfl) ?_
  refine lv_lmul hx hb d_M_product_61 ?_
  refine lv_ladd hx hb d_M_product_62 ?_
  refine lv_lload hx hb d_M_product_63 (lv_at hl 0 rfl) ?_
  refine lv_ldc2 (v := (100000000 : Int64)) hx hb K.2.2.2.1 (nf_Kg K nw_1135) d_M_product_65 ?_
  refine lv_ldiv hx hb d_M_product_68 (by decide) ?_
  refine lv_ladd hx hb d_M_product_69 ?_
  refine lv_topl (fun t10 et10 => ?_)
  have h := h t10 et10
  refine lv_lstore (lv' := [(21, .long t10), (19, .long t9), (17, .long t8), (15, .long t7), (13, .long t6), (11, .long t5), (9, .long r3), (7, .long r1), (0, .ref (a 19)), (1, .long x1), (3, .int x3), (4, .long x4), (6, .int x6)]) hx hb d_M_product_70 hl (by decide) rfl (fun ls hl => ?_)
  refine lv_lload hx hb d_M_product_72 (lv_at hl 4 rfl) ?_
  refine lv_lload hx hb d_M_product_74 (lv_at hl 2 rfl) ?_
  refine lv_lmul hx hb d_M_product_76 ?_
  refine lv_lload hx hb d_M_product_77 (lv_at hl 0 rfl) ?_
  refine lv_ldc2 (v := (100000000 : Int64)) hx hb K.2.2.2.1 (nf_Kg K nw_1135) d_M_product_79 ?_
  refine lv_ldiv hx hb d_M_product_82 (by decide) ?_
  refine lv_ladd hx hb d_M_product_83 ?_
  refine lv_topl (fun t11 et11 => ?_)
  have h := h t11 et11
  refine lv_lstore (lv' := [(23, .long t11), (21, .long t10), (19, .long t9), (17, .long t8), (15, .long t7), (13, .long t6), (11, .long t5), (9, .long r3), (7, .long r1), (0, .ref (a 19)), (1, .long x1), (3, .int x3), (4, .long x4), (6, .int x6)]) hx hb d_M_product_84 hl (by decide) rfl (fun ls hl => ?_)
  refine lv_aload_n hx hb d_M_product_86 rfl (lv_at hl 9 rfl) ?_
  refine lv_iconst (v := (0 : Int32)) hx hb d_M_product_87 (by decide) ?_
  refine nf_put (M' := ms_I M4 19 13 (0 : Int32)) K hw 19 7 13 nw_944 rfl rfl rfl ni_M ny_M nq_M nn_M (by decide) rfl rfl rfl rfl (Nat.le_of_ble_eq_true rfl) d_M_product_88 (fun H locs hw => ?_)
  obtain ⟨M12, eM12⟩ : ∃ z, z = ms_I M4 19 13 (0 : Int32) := ⟨_, rfl⟩
  rw [← eM12] at hw
  have h := h M12 eM12
  refine lv_aload_n hx hb d_M_product_91 rfl (lv_at hl 9 rfl) ?_
  refine lv_lload hx hb d_M_product_92 (lv_at hl 0 rfl) ?_
  refine lv_bipush (v := (19 : Int32)) hx hb d_M_product_94 (by decide) ?_
  refine nf_callW (ex := (fun _ _ => False)) (As := [.ref (a 19), .long t11, .int (19 : Int32)]) (st0 := [.int (19 : Int32), .long t11, .ref (a 19)]) (rest := []) K hw (nf_invV hx hb K.2.2.2.1 (nf_Kg K nw_1127) (nf_Kg K nw_1129) (nf_Kg K nx_M_addDigits) (nf_Kg K nw_1130) ⟨by decide, by decide⟩ (nf_rcv K hw 19 7 rfl rfl) rfl nl_M_addDigits rfl d_M_product_96) (c_M_addDigits l hfl t11 (19 : Int32)) nw_1130 nw_9 rfl ⟨by decide, by decide⟩ (Nat.le_of_ble_eq_true rfl) hl.1 ⟨Nat.le_of_ble_eq_true rfl, Nat.le_of_ble_eq_true rfl⟩ h (fun _ _ h => h.elim) (fun r13 M14 H locs h hw => ?_)
  refine W.eq (g2 := F0 m 99 ls []) rfl ?_
  refine lv_aload_n hx hb d_M_product_99 rfl (lv_at hl 9 rfl) ?_
  refine lv_lload hx hb d_M_product_100 (lv_at hl 1 rfl) ?_
  refine lv_ldc2 (v := (100000000 : Int64)) hx hb K.2.2.2.1 (nf_Kg K nw_1135) d_M_product_102 ?_
  refine lv_lrem hx hb d_M_product_105 (by decide) ?_
  refine lv_bipush (v := (8 : Int32)) hx hb d_M_product_106 (by decide) ?_
  refine nf_callW (ex := (fun _ _ => False)) (As := [.ref (a 19), .long (t10 - t10 / (100000000 : Int64) * (100000000 : Int64)), .int (8 : Int32)]) (st0 := [.int (8 : Int32), .long (t10 - t10 / (100000000 : Int64) * (100000000 : Int64)), .ref (a 19)]) (rest := []) K hw (nf_invV hx hb K.2.2.2.1 (nf_Kg K nw_1127) (nf_Kg K nw_1129) (nf_Kg K nx_M_addDigits) (nf_Kg K nw_1130) ⟨by decide, by decide⟩ (nf_rcv K hw 19 7 rfl rfl) rfl nl_M_addDigits rfl d_M_product_108) (c_M_addDigits l hfl (t10 - t10 / (100000000 : Int64) * (100000000 : Int64)) (8 : Int32)) nw_1130 nw_9 rfl ⟨by decide, by decide⟩ (Nat.le_of_ble_eq_true rfl) hl.1 ⟨Nat.le_of_ble_eq_true rfl, Nat.le_of_ble_eq_true rfl⟩ h (fun _ _ h => h.elim) (fun r15 M16 H locs h hw => ?_)
  refine W.eq (g2 := F0 m 111 ls []) rfl ?_
  refine lv_aload_n hx hb d_M_product_111 rfl (lv_at hl 9 rfl) ?_
  refine lv_lload hx hb d_M_product_112 (lv_at hl 2 rfl) ?_
  refine lv_ldc2 (v := (100000000 : Int64)) hx hb K.2.2.2.1 (nf_Kg K nw_1135) d_M_product_114 ?_
  refine lv_lrem hx hb d_M_product_117 (by decide) ?_
  refine lv_bipush (v := (8 : Int32)) hx hb d_M_product_118 (by decide) ?_
  refine nf_callW (ex := (fun _ _ => False)) (As := [.ref (a 19), .long (t9 - t9 / (100000000 : Int64) * (100000000 : Int64)), .int (8 : Int32)]) (st0 := [.int (8 : Int32), .long (t9 - t9 / (100000000 : Int64) * (100000000 : Int64)), .ref (a 19)]) (rest := []) K hw (nf_invV hx hb K.2.2.2.1 (nf_Kg K nw_1127) (nf_Kg K nw_1129) (nf_Kg K nx_M_addDigits) (nf_Kg K nw_1130) ⟨by decide, by decide⟩ (nf_rcv K hw 19 7 rfl rfl) rfl nl_M_addDigits rfl d_M_product_120) (c_M_addDigits l hfl (t9 - t9 / (100000000 : Int64) * (100000000 : Int64)) (8 : Int32)) nw_1130 nw_9 rfl ⟨by decide, by decide⟩ (Nat.le_of_ble_eq_true rfl) hl.1 ⟨Nat.le_of_ble_eq_true rfl, Nat.le_of_ble_eq_true rfl⟩ h (fun _ _ h => h.elim) (fun r17 M18 H locs h hw => ?_)
  refine W.eq (g2 := F0 m 123 ls []) rfl ?_
  refine lv_aload_n hx hb d_M_product_123 rfl (lv_at hl 9 rfl) ?_
  refine lv_lload_n hx hb d_M_product_124 rfl (lv_at hl 10 rfl) ?_
  refine lv_lconst (v := (0 : Int64)) hx hb d_M_product_125 (by decide) ?_
  refine nf_lc_ge hx hb d_M_product_126 d_M_product_127 (tgt := 134) (by decide) (fun hc => ?_) (fun hc => ?_)
  · have h := h.1 hc
    refine lv_iconst (v := (1 : Int32)) hx hb d_M_product_130 (by decide) ?_
    refine lv_goto hx hb d_M_product_131 (tgt := 135) (by decide) ?_
    exact w_M_product_135 hfl K x3 x4 x6 (1 : Int32) M18 _ _ _ h (lv_sub hl [11, 12, 13] rfl) hw
  · have h := h.2 hc
    refine lv_iconst (v := (0 : Int32)) hx hb d_M_product_134 (by decide) ?_
    exact w_M_product_135 hfl K x3 x4 x6 (0 : Int32) M18 _ _ _ h (lv_sub hl [11, 12, 13] rfl) hw
theorem d_M_quotient_0 : decode nb_M_quotient 0 = .ok (.lload_n 1, 1) := by decide +kernel
theorem d_M_quotient_1 : decode nb_M_quotient 1 = .ok (.invokestatic 81, 3) := by decide +kernel
theorem d_M_quotient_4 : decode nb_M_quotient 4 = .ok (.lstore 8, 2) := by decide +kernel
theorem d_M_quotient_6 : decode nb_M_quotient 6 = .ok (.lload 4, 2) := by decide +kernel
theorem d_M_quotient_8 : decode nb_M_quotient 8 = .ok (.invokestatic 81, 3) := by decide +kernel
theorem d_M_quotient_11 : decode nb_M_quotient 11 = .ok (.lstore 10, 2) := by decide +kernel
theorem d_M_quotient_13 : decode nb_M_quotient 13 = .ok (.aload_n 0, 1) := by decide +kernel
theorem d_M_quotient_14 : decode nb_M_quotient 14 = .ok (.iconst 0, 1) := by decide +kernel
theorem d_M_quotient_15 : decode nb_M_quotient 15 = .ok (.putfield 62, 3) := by decide +kernel
theorem d_M_quotient_18 : decode nb_M_quotient 18 = .ok (.aload_n 0, 1) := by decide +kernel
theorem d_M_quotient_19 : decode nb_M_quotient 19 = .ok (.lload 8, 2) := by decide +kernel
theorem d_M_quotient_21 : decode nb_M_quotient 21 = .ok (.lload 10, 2) := by decide +kernel
theorem d_M_quotient_23 : decode nb_M_quotient 23 = .ok (.ldiv, 1) := by decide +kernel
theorem d_M_quotient_24 : decode nb_M_quotient 24 = .ok (.bipush 19, 2) := by decide +kernel
theorem d_M_quotient_26 : decode nb_M_quotient 26 = .ok (.invokevirtual 85, 3) := by decide +kernel
theorem d_M_quotient_29 : decode nb_M_quotient 29 = .ok (.lload 8, 2) := by decide +kernel
theorem d_M_quotient_31 : decode nb_M_quotient 31 = .ok (.lload 10, 2) := by decide +kernel
theorem d_M_quotient_33 : decode nb_M_quotient 33 = .ok (.lrem, 1) := by decide +kernel
theorem d_M_quotient_34 : decode nb_M_quotient 34 = .ok (.lstore 12, 2) := by decide +kernel
theorem d_M_quotient_36 : decode nb_M_quotient 36 = .ok (.iload 6, 2) := by decide +kernel
theorem d_M_quotient_38 : decode nb_M_quotient 38 = .ok (.iload_n 3, 1) := by decide +kernel
theorem d_M_quotient_39 : decode nb_M_quotient 39 = .ok (.isub, 1) := by decide +kernel
theorem d_M_quotient_40 : decode nb_M_quotient 40 = .ok (.iload 7, 2) := by decide +kernel
theorem d_M_quotient_42 : decode nb_M_quotient 42 = .ok (.ifCond .eq 8, 3) := by decide +kernel
theorem d_M_quotient_45 : decode nb_M_quotient 45 = .ok (.bipush 6, 2) := by decide +kernel
theorem d_M_quotient_47 : decode nb_M_quotient 47 = .ok (.goto 4, 3) := by decide +kernel
theorem d_M_quotient_50 : decode nb_M_quotient 50 = .ok (.iconst 0, 1) := by decide +kernel
theorem d_M_quotient_51 : decode nb_M_quotient 51 = .ok (.iadd, 1) := by decide +kernel
theorem d_M_quotient_52 : decode nb_M_quotient 52 = .ok (.istore 14, 2) := by decide +kernel
theorem d_M_quotient_54 : decode nb_M_quotient 54 = .ok (.iconst 0, 1) := by decide +kernel
theorem d_M_quotient_55 : decode nb_M_quotient 55 = .ok (.istore 15, 2) := by decide +kernel
theorem d_M_quotient_57 : decode nb_M_quotient 57 = .ok (.iload 15, 2) := by decide +kernel
theorem d_M_quotient_59 : decode nb_M_quotient 59 = .ok (.iload 14, 2) := by decide +kernel
theorem d_M_quotient_61 : decode nb_M_quotient 61 = .ok (.if_icmp .ge 49, 3) := by decide +kernel
theorem d_M_quotient_64 : decode nb_M_quotient 64 = .ok (.lload 12, 2) := by decide +kernel
theorem d_M_quotient_66 : decode nb_M_quotient 66 = .ok (.ldc2_w 40, 3) := by decide +kernel
theorem d_M_quotient_69 : decode nb_M_quotient 69 = .ok (.lmul, 1) := by decide +kernel
theorem d_M_quotient_70 : decode nb_M_quotient 70 = .ok (.lstore 12, 2) := by decide +kernel
theorem d_M_quotient_72 : decode nb_M_quotient 72 = .ok (.aload_n 0, 1) := by decide +kernel
theorem d_M_quotient_73 : decode nb_M_quotient 73 = .ok (.getfield 30, 3) := by decide +kernel
theorem d_M_quotient_76 : decode nb_M_quotient 76 = .ok (.aload_n 0, 1) := by decide +kernel
theorem d_M_quotient_77 : decode nb_M_quotient 77 = .ok (.getfield 62, 3) := by decide +kernel
theorem d_M_quotient_80 : decode nb_M_quotient 80 = .ok (.lload 12, 2) := by decide +kernel
theorem d_M_quotient_82 : decode nb_M_quotient 82 = .ok (.lload 10, 2) := by decide +kernel
theorem d_M_quotient_84 : decode nb_M_quotient 84 = .ok (.ldiv, 1) := by decide +kernel
theorem d_M_quotient_85 : decode nb_M_quotient 85 = .ok (.l2i, 1) := by decide +kernel
theorem d_M_quotient_86 : decode nb_M_quotient 86 = .ok (.iastore, 1) := by decide +kernel
theorem d_M_quotient_87 : decode nb_M_quotient 87 = .ok (.lload 12, 2) := by decide +kernel
theorem d_M_quotient_89 : decode nb_M_quotient 89 = .ok (.lload 10, 2) := by decide +kernel
theorem d_M_quotient_91 : decode nb_M_quotient 91 = .ok (.lrem, 1) := by decide +kernel
theorem d_M_quotient_92 : decode nb_M_quotient 92 = .ok (.lstore 12, 2) := by decide +kernel
theorem d_M_quotient_94 : decode nb_M_quotient 94 = .ok (.aload_n 0, 1) := by decide +kernel
theorem d_M_quotient_95 : decode nb_M_quotient 95 = .ok (.dup, 1) := by decide +kernel
theorem d_M_quotient_96 : decode nb_M_quotient 96 = .ok (.getfield 62, 3) := by decide +kernel
theorem d_M_quotient_99 : decode nb_M_quotient 99 = .ok (.iconst 1, 1) := by decide +kernel
theorem d_M_quotient_100 : decode nb_M_quotient 100 = .ok (.iadd, 1) := by decide +kernel
theorem d_M_quotient_101 : decode nb_M_quotient 101 = .ok (.putfield 62, 3) := by decide +kernel
theorem d_M_quotient_104 : decode nb_M_quotient 104 = .ok (.iinc 15 1, 3) := by decide +kernel
theorem d_M_quotient_107 : decode nb_M_quotient 107 = .ok (.goto (-50), 3) := by decide +kernel
theorem d_M_quotient_110 : decode nb_M_quotient 110 = .ok (.aload_n 0, 1) := by decide +kernel
theorem d_M_quotient_111 : decode nb_M_quotient 111 = .ok (.iload 14, 2) := by decide +kernel
theorem d_M_quotient_113 : decode nb_M_quotient 113 = .ok (.ifCond .ge 13, 3) := by decide +kernel
theorem d_M_quotient_116 : decode nb_M_quotient 116 = .ok (.aload_n 0, 1) := by decide +kernel
theorem d_M_quotient_117 : decode nb_M_quotient 117 = .ok (.getfield 62, 3) := by decide +kernel
theorem d_M_quotient_120 : decode nb_M_quotient 120 = .ok (.iload 14, 2) := by decide +kernel
theorem d_M_quotient_122 : decode nb_M_quotient 122 = .ok (.iadd, 1) := by decide +kernel
theorem d_M_quotient_123 : decode nb_M_quotient 123 = .ok (.goto 7, 3) := by decide +kernel
theorem d_M_quotient_126 : decode nb_M_quotient 126 = .ok (.aload_n 0, 1) := by decide +kernel
theorem d_M_quotient_127 : decode nb_M_quotient 127 = .ok (.getfield 62, 3) := by decide +kernel
theorem d_M_quotient_130 : decode nb_M_quotient 130 = .ok (.putfield 62, 3) := by decide +kernel
theorem d_M_quotient_133 : decode nb_M_quotient 133 = .ok (.lload 12, 2) := by decide +kernel
theorem d_M_quotient_135 : decode nb_M_quotient 135 = .ok (.lconst 0, 1) := by decide +kernel
theorem d_M_quotient_136 : decode nb_M_quotient 136 = .ok (.lcmp, 1) := by decide +kernel
theorem d_M_quotient_137 : decode nb_M_quotient 137 = .ok (.ifCond .ne 7, 3) := by decide +kernel
theorem d_M_quotient_140 : decode nb_M_quotient 140 = .ok (.iconst 0, 1) := by decide +kernel
theorem d_M_quotient_141 : decode nb_M_quotient 141 = .ok (.goto 34, 3) := by decide +kernel
theorem d_M_quotient_144 : decode nb_M_quotient 144 = .ok (.lload 12, 2) := by decide +kernel
theorem d_M_quotient_146 : decode nb_M_quotient 146 = .ok (.lload 10, 2) := by decide +kernel
theorem d_M_quotient_148 : decode nb_M_quotient 148 = .ok (.lload 12, 2) := by decide +kernel
theorem d_M_quotient_150 : decode nb_M_quotient 150 = .ok (.lsub, 1) := by decide +kernel
theorem d_M_quotient_151 : decode nb_M_quotient 151 = .ok (.lcmp, 1) := by decide +kernel
theorem d_M_quotient_152 : decode nb_M_quotient 152 = .ok (.ifCond .le 7, 3) := by decide +kernel
theorem d_M_quotient_155 : decode nb_M_quotient 155 = .ok (.iconst 3, 1) := by decide +kernel
theorem d_M_quotient_156 : decode nb_M_quotient 156 = .ok (.goto 19, 3) := by decide +kernel
theorem d_M_quotient_159 : decode nb_M_quotient 159 = .ok (.lload 12, 2) := by decide +kernel
theorem d_M_quotient_161 : decode nb_M_quotient 161 = .ok (.lload 10, 2) := by decide +kernel
theorem d_M_quotient_163 : decode nb_M_quotient 163 = .ok (.lload 12, 2) := by decide +kernel
theorem d_M_quotient_165 : decode nb_M_quotient 165 = .ok (.lsub, 1) := by decide +kernel
theorem d_M_quotient_166 : decode nb_M_quotient 166 = .ok (.lcmp, 1) := by decide +kernel
theorem d_M_quotient_167 : decode nb_M_quotient 167 = .ok (.ifCond .ne 7, 3) := by decide +kernel
theorem d_M_quotient_170 : decode nb_M_quotient 170 = .ok (.iconst 2, 1) := by decide +kernel
theorem d_M_quotient_171 : decode nb_M_quotient 171 = .ok (.goto 4, 3) := by decide +kernel
theorem d_M_quotient_174 : decode nb_M_quotient 174 = .ok (.iconst 1, 1) := by decide +kernel
theorem d_M_quotient_175 : decode nb_M_quotient 175 = .ok (.istore 15, 2) := by decide +kernel
theorem d_M_quotient_177 : decode nb_M_quotient 177 = .ok (.aload_n 0, 1) := by decide +kernel
theorem d_M_quotient_178 : decode nb_M_quotient 178 = .ok (.lload_n 1, 1) := by decide +kernel
theorem d_M_quotient_179 : decode nb_M_quotient 179 = .ok (.lconst 0, 1) := by decide +kernel
theorem d_M_quotient_180 : decode nb_M_quotient 180 = .ok (.lcmp, 1) := by decide +kernel
theorem d_M_quotient_181 : decode nb_M_quotient 181 = .ok (.ifCond .ge 7, 3) := by decide +kernel
theorem d_M_quotient_184 : decode nb_M_quotient 184 = .ok (.iconst 1, 1) := by decide +kernel
theorem d_M_quotient_185 : decode nb_M_quotient 185 = .ok (.goto 4, 3) := by decide +kernel
theorem d_M_quotient_188 : decode nb_M_quotient 188 = .ok (.iconst 0, 1) := by decide +kernel
theorem d_M_quotient_189 : decode nb_M_quotient 189 = .ok (.lload 4, 2) := by decide +kernel
theorem d_M_quotient_191 : decode nb_M_quotient 191 = .ok (.lconst 0, 1) := by decide +kernel
theorem d_M_quotient_192 : decode nb_M_quotient 192 = .ok (.lcmp, 1) := by decide +kernel
theorem d_M_quotient_193 : decode nb_M_quotient 193 = .ok (.ifCond .ge 7, 3) := by decide +kernel
theorem d_M_quotient_196 : decode nb_M_quotient 196 = .ok (.iconst 1, 1) := by decide +kernel
theorem d_M_quotient_197 : decode nb_M_quotient 197 = .ok (.goto 4, 3) := by decide +kernel
theorem d_M_quotient_200 : decode nb_M_quotient 200 = .ok (.iconst 0, 1) := by decide +kernel
theorem d_M_quotient_201 : decode nb_M_quotient 201 = .ok (.if_icmp .eq 7, 3) := by decide +kernel
theorem d_M_quotient_204 : decode nb_M_quotient 204 = .ok (.iconst 1, 1) := by decide +kernel
theorem d_M_quotient_205 : decode nb_M_quotient 205 = .ok (.goto 4, 3) := by decide +kernel
theorem d_M_quotient_208 : decode nb_M_quotient 208 = .ok (.iconst 0, 1) := by decide +kernel
theorem d_M_quotient_209 : decode nb_M_quotient 209 = .ok (.iload 7, 2) := by decide +kernel
theorem d_M_quotient_211 : decode nb_M_quotient 211 = .ok (.ifCond .eq 8, 3) := by decide +kernel
theorem d_M_quotient_214 : decode nb_M_quotient 214 = .ok (.bipush 6, 2) := by decide +kernel
theorem d_M_quotient_216 : decode nb_M_quotient 216 = .ok (.goto 4, 3) := by decide +kernel
theorem d_M_quotient_219 : decode nb_M_quotient 219 = .ok (.iconst 0, 1) := by decide +kernel
theorem d_M_quotient_220 : decode nb_M_quotient 220 = .ok (.iload 7, 2) := by decide +kernel
theorem d_M_quotient_222 : decode nb_M_quotient 222 = .ok (.ifCond .eq 8, 3) := by decide +kernel
theorem d_M_quotient_225 : decode nb_M_quotient 225 = .ok (.iload 15, 2) := by decide +kernel
theorem d_M_quotient_227 : decode nb_M_quotient 227 = .ok (.goto 4, 3) := by decide +kernel
theorem d_M_quotient_230 : decode nb_M_quotient 230 = .ok (.iconst 0, 1) := by decide +kernel
theorem d_M_quotient_231 : decode nb_M_quotient 231 = .ok (.invokevirtual 89, 3) := by decide +kernel
theorem d_M_quotient_234 : decode nb_M_quotient 234 = .ok (.return_, 1) := by decide +kernel
abbrev rm_M_quotient : Room := ({ frames := 2, cells := 0, slots := 0, locals := 51 })
theorem w_M_quotient_231 {post : Unit → nf_M → Prop} (hfl : l.flags = flags0) (K : nf_K p s m args meth c "NumberForgeModel" nb_M_quotient 16 none D a sz) : ∀ (xy0 : Int32) (xy1 : Int32) (xy2 : Int32) (M : nf_M) (H : Heap) (locs : List Loc) (ls : Array Slot), B_M_quotient_231 post xy0 xy1 xy2 M → lv_has ls 16 [] → nf_W D a s sz H locs M → W p l e rm_M_quotient s m args below meth c H locs 0 0 (nf_MQ below (nf_Q nf_jN D a post ex (nf_A a sz)) args s rm_M_quotient.cells rm_M_quotient.slots (nf_A a sz)) (F0 m 231 ls [.int xy0, .int xy1, .int xy2, .ref (a 19)]) := by
  have hx := K.1
  have hb := K.2.1
  intro xy0 xy1 xy2 M H locs ls h hl hw
  refine nf_callW (ex := (fun _ _ => False)) (As := [.ref (a 19), .int xy2, .int xy1, .int xy0]) (st0 := [.int xy0, .int xy1, .int xy2, .ref (a 19)]) (rest := []) K hw (nf_invV hx hb K.2.2.2.1 (nf_Kg K nw_1029) (nf_Kg K nw_1031) (nf_Kg K nx_M_settle) (nf_Kg K nw_1032) ⟨by decide, by decide⟩ (nf_rcv K hw 19 7 rfl rfl) rfl nl_M_settle rfl d_M_quotient_231) (c_M_settle l hfl xy2 xy1 xy0) nw_1032 nw_9 rfl ⟨by decide, by decide⟩ (Nat.le_of_ble_eq_true rfl) hl.1 ⟨Nat.le_of_ble_eq_true rfl, Nat.le_of_ble_eq_true rfl⟩ h (fun _ _ h => h.elim) (fun r1 M2 H locs h hw => ?_)
  refine W.eq (g2 := F0 m 234 ls []) rfl ?_
  exact nf_vret K hw d_M_quotient_234 (Nat.le_of_ble_eq_true rfl) (Nat.le_of_ble_eq_true rfl) (r := ()) rfl h
theorem w_M_quotient_220 {post : Unit → nf_M → Prop} (hfl : l.flags = flags0) (K : nf_K p s m args meth c "NumberForgeModel" nb_M_quotient 16 none D a sz) : ∀ (x7 : Int32) (x15 : Int32) (xy0 : Int32) (xy1 : Int32) (M : nf_M) (H : Heap) (locs : List Loc) (ls : Array Slot), B_M_quotient_220 post x7 x15 xy0 xy1 M → lv_has ls 16 [(7, .int x7), (15, .int x15)] → nf_W D a s sz H locs M → W p l e rm_M_quotient s m args below meth c H locs 0 0 (nf_MQ below (nf_Q nf_jN D a post ex (nf_A a sz)) args s rm_M_quotient.cells rm_M_quotient.slots (nf_A a sz)) (F0 m 220 ls [.int xy0, .int xy1, .ref (a 19)]) := by
  have hx := K.1
  have hb := K.2.1
  intro x7 x15 xy0 xy1 M H locs ls h hl hw
  refine lv_iload hx hb d_M_quotient_220 (lv_at hl 0 rfl) ?_
  refine nf_if_eq hx hb d_M_quotient_222 (tgt := 230) (by decide) (fun hc => ?_) (fun hc => ?_)
  · have h := h.1 hc
    refine lv_iconst (v := (0 : Int32)) hx hb d_M_quotient_230 (by decide) ?_
    exact w_M_quotient_231 hfl K (0 : Int32) xy0 xy1 M _ _ _ h (lv_sub hl [] rfl) hw
  · have h := h.2 hc
    refine lv_iload hx hb d_M_quotient_225 (lv_at hl 1 rfl) ?_
    refine lv_goto hx hb d_M_quotient_227 (tgt := 231) (by decide) ?_
    exact w_M_quotient_231 hfl K x15 xy0 xy1 M _ _ _ h (lv_sub hl [] rfl) hw
theorem w_M_quotient_209 {post : Unit → nf_M → Prop} (hfl : l.flags = flags0) (K : nf_K p s m args meth c "NumberForgeModel" nb_M_quotient 16 none D a sz) : ∀ (x7 : Int32) (x15 : Int32) (xy0 : Int32) (M : nf_M) (H : Heap) (locs : List Loc) (ls : Array Slot), B_M_quotient_209 post x7 x15 xy0 M → lv_has ls 16 [(7, .int x7), (15, .int x15)] → nf_W D a s sz H locs M → W p l e rm_M_quotient s m args below meth c H locs 0 0 (nf_MQ below (nf_Q nf_jN D a post ex (nf_A a sz)) args s rm_M_quotient.cells rm_M_quotient.slots (nf_A a sz)) (F0 m 209 ls [.int xy0, .ref (a 19)]) := by
  have hx := K.1
  have hb := K.2.1
  intro x7 x15 xy0 M H locs ls h hl hw
  refine lv_iload hx hb d_M_quotient_209 (lv_at hl 0 rfl) ?_
  refine nf_if_eq hx hb d_M_quotient_211 (tgt := 219) (by decide) (fun hc => ?_) (fun hc => ?_)
  · have h := h.1 hc
    refine lv_iconst (v := (0 : Int32)) hx hb d_M_quotient_219 (by decide) ?_
    exact w_M_quotient_220 hfl K x7 x15 (0 : Int32) xy0 M _ _ _ h (lv_sub hl [0, 1] rfl) hw
  · have h := h.2 hc
    refine lv_bipush (v := (6 : Int32)) hx hb d_M_quotient_214 (by decide) ?_
    refine lv_goto hx hb d_M_quotient_216 (tgt := 220) (by decide) ?_
    exact w_M_quotient_220 hfl K x7 x15 (6 : Int32) xy0 M _ _ _ h (lv_sub hl [0, 1] rfl) hw
theorem w_M_quotient_201 {post : Unit → nf_M → Prop} (hfl : l.flags = flags0) (K : nf_K p s m args meth c "NumberForgeModel" nb_M_quotient 16 none D a sz) : ∀ (x7 : Int32) (x15 : Int32) (xy0 : Int32) (xy1 : Int32) (M : nf_M) (H : Heap) (locs : List Loc) (ls : Array Slot), B_M_quotient_201 post x7 x15 xy0 xy1 M → lv_has ls 16 [(7, .int x7), (15, .int x15)] → nf_W D a s sz H locs M → W p l e rm_M_quotient s m args below meth c H locs 0 0 (nf_MQ below (nf_Q nf_jN D a post ex (nf_A a sz)) args s rm_M_quotient.cells rm_M_quotient.slots (nf_A a sz)) (F0 m 201 ls [.int xy0, .int xy1, .ref (a 19)]) := by
  have hx := K.1
  have hb := K.2.1
  intro x7 x15 xy0 xy1 M H locs ls h hl hw
  refine nf_ic_eq hx hb d_M_quotient_201 (tgt := 208) (by decide) (fun hc => ?_) (fun hc => ?_)
  · have h := h.1 hc
    refine lv_iconst (v := (0 : Int32)) hx hb d_M_quotient_208 (by decide) ?_
    exact w_M_quotient_209 hfl K x7 x15 (0 : Int32) M _ _ _ h (lv_sub hl [0, 1] rfl) hw
  · have h := h.2 hc
    refine lv_iconst (v := (1 : Int32)) hx hb d_M_quotient_204 (by decide) ?_
    refine lv_goto hx hb d_M_quotient_205 (tgt := 209) (by decide) ?_
    exact w_M_quotient_209 hfl K x7 x15 (1 : Int32) M _ _ _ h (lv_sub hl [0, 1] rfl) hw
theorem w_M_quotient_189 {post : Unit → nf_M → Prop} (hfl : l.flags = flags0) (K : nf_K p s m args meth c "NumberForgeModel" nb_M_quotient 16 none D a sz) : ∀ (x4 : Int64) (x7 : Int32) (x15 : Int32) (xy0 : Int32) (M : nf_M) (H : Heap) (locs : List Loc) (ls : Array Slot), B_M_quotient_189 post x4 x7 x15 xy0 M → lv_has ls 16 [(4, .long x4), (7, .int x7), (15, .int x15)] → nf_W D a s sz H locs M → W p l e rm_M_quotient s m args below meth c H locs 0 0 (nf_MQ below (nf_Q nf_jN D a post ex (nf_A a sz)) args s rm_M_quotient.cells rm_M_quotient.slots (nf_A a sz)) (F0 m 189 ls [.int xy0, .ref (a 19)]) := by
  have hx := K.1
  have hb := K.2.1
  intro x4 x7 x15 xy0 M H locs ls h hl hw
  refine lv_lload hx hb d_M_quotient_189 (lv_at hl 0 rfl) ?_
  refine lv_lconst (v := (0 : Int64)) hx hb d_M_quotient_191 (by decide) ?_
  refine nf_lc_ge hx hb d_M_quotient_192 d_M_quotient_193 (tgt := 200) (by decide) (fun hc => ?_) (fun hc => ?_)
  · have h := h.1 hc
    refine lv_iconst (v := (1 : Int32)) hx hb d_M_quotient_196 (by decide) ?_
    refine lv_goto hx hb d_M_quotient_197 (tgt := 201) (by decide) ?_
    exact w_M_quotient_201 hfl K x7 x15 (1 : Int32) xy0 M _ _ _ h (lv_sub hl [1, 2] rfl) hw
  · have h := h.2 hc
    refine lv_iconst (v := (0 : Int32)) hx hb d_M_quotient_200 (by decide) ?_
    exact w_M_quotient_201 hfl K x7 x15 (0 : Int32) xy0 M _ _ _ h (lv_sub hl [1, 2] rfl) hw
theorem w_M_quotient_175 {post : Unit → nf_M → Prop} (hfl : l.flags = flags0) (K : nf_K p s m args meth c "NumberForgeModel" nb_M_quotient 16 none D a sz) : ∀ (x1 : Int64) (x4 : Int64) (x7 : Int32) (xy0 : Int32) (M : nf_M) (H : Heap) (locs : List Loc) (ls : Array Slot), B_M_quotient_175 post x1 x4 x7 xy0 M → lv_has ls 16 [(0, .ref (a 19)), (1, .long x1), (4, .long x4), (7, .int x7)] → nf_W D a s sz H locs M → W p l e rm_M_quotient s m args below meth c H locs 0 0 (nf_MQ below (nf_Q nf_jN D a post ex (nf_A a sz)) args s rm_M_quotient.cells rm_M_quotient.slots (nf_A a sz)) (F0 m 175 ls [.int xy0]) := by
  have hx := K.1
  have hb := K.2.1
  intro x1 x4 x7 xy0 M H locs ls h hl hw
  refine lv_istore (lv' := [(15, .int xy0), (0, .ref (a 19)), (1, .long x1), (4, .long x4), (7, .int x7)]) hx hb d_M_quotient_175 hl (by decide) rfl (fun ls hl => ?_)
  refine lv_aload_n hx hb d_M_quotient_177 rfl (lv_at hl 1 rfl) ?_
  refine lv_lload_n hx hb d_M_quotient_178 rfl (lv_at hl 2 rfl) ?_
  refine lv_lconst (v := (0 : Int64)) hx hb d_M_quotient_179 (by decide) ?_
  refine nf_lc_ge hx hb d_M_quotient_180 d_M_quotient_181 (tgt := 188) (by decide) (fun hc => ?_) (fun hc => ?_)
  · have h := h.1 hc
    refine lv_iconst (v := (1 : Int32)) hx hb d_M_quotient_184 (by decide) ?_
    refine lv_goto hx hb d_M_quotient_185 (tgt := 189) (by decide) ?_
    exact w_M_quotient_189 hfl K x4 x7 xy0 (1 : Int32) M _ _ _ h (lv_sub hl [3, 4, 0] rfl) hw
  · have h := h.2 hc
    refine lv_iconst (v := (0 : Int32)) hx hb d_M_quotient_188 (by decide) ?_
    exact w_M_quotient_189 hfl K x4 x7 xy0 (0 : Int32) M _ _ _ h (lv_sub hl [3, 4, 0] rfl) hw
theorem w_M_quotient_130 {post : Unit → nf_M → Prop} (hfl : l.flags = flags0) (K : nf_K p s m args meth c "NumberForgeModel" nb_M_quotient 16 none D a sz) : ∀ (x1 : Int64) (x4 : Int64) (x7 : Int32) (x10 : Int64) (x12 : Int64) (xy0 : Int32) (M : nf_M) (H : Heap) (locs : List Loc) (ls : Array Slot), B_M_quotient_130 post x1 x4 x7 x10 x12 xy0 M → lv_has ls 16 [(0, .ref (a 19)), (1, .long x1), (4, .long x4), (7, .int x7), (10, .long x10), (12, .long x12)] → nf_W D a s sz H locs M → W p l e rm_M_quotient s m args below meth c H locs 0 0 (nf_MQ below (nf_Q nf_jN D a post ex (nf_A a sz)) args s rm_M_quotient.cells rm_M_quotient.slots (nf_A a sz)) (F0 m 130 ls [.int xy0, .ref (a 19)]) := by
  have hx := K.1
  have hb := K.2.1
  intro x1 x4 x7 x10 x12 xy0 M H locs ls h hl hw
  refine nf_put (M' := ms_I M 19 13 xy0) K hw 19 7 13 nw_944 rfl rfl rfl ni_M ny_M nq_M nn_M (by decide) rfl rfl rfl rfl (Nat.le_of_ble_eq_true rfl) d_M_quotient_130 (fun H locs hw => ?_)
  obtain ⟨M1, eM1⟩ : ∃ z, z = ms_I M 19 13 xy0 := ⟨_, rfl⟩
  rw [← eM1] at hw
  have h := h M1 eM1
  refine lv_lload hx hb d_M_quotient_133 (lv_at hl 5 rfl) ?_
  refine lv_lconst (v := (0 : Int64)) hx hb d_M_quotient_135 (by decide) ?_
  refine nf_lc_ne hx hb d_M_quotient_136 d_M_quotient_137 (tgt := 144) (by decide) (fun hc => ?_) (fun hc => ?_)
  · have h := h.1 hc
    refine lv_iconst (v := (0 : Int32)) hx hb d_M_quotient_140 (by decide) ?_
    refine lv_goto hx hb d_M_quotient_141 (tgt := 175) (by decide) ?_
    exact w_M_quotient_175 hfl K x1 x4 x7 (0 : Int32) M1 _ _ _ h (lv_sub hl [0, 1, 2, 3] rfl) hw
  · have h := h.2 hc
    refine lv_lload hx hb d_M_quotient_144 (lv_at hl 5 rfl) ?_
    refine lv_lload hx hb d_M_quotient_146 (lv_at hl 4 rfl) ?_
    refine lv_lload hx hb d_M_quotient_148 (lv_at hl 5 rfl) ?_
    refine lv_lsub hx hb d_M_quotient_150 ?_
    refine nf_lc_le hx hb d_M_quotient_151 d_M_quotient_152 (tgt := 159) (by decide) (fun hc => ?_) (fun hc => ?_)
    · have h := h.1 hc
      refine lv_iconst (v := (3 : Int32)) hx hb d_M_quotient_155 (by decide) ?_
      refine lv_goto hx hb d_M_quotient_156 (tgt := 175) (by decide) ?_
      exact w_M_quotient_175 hfl K x1 x4 x7 (3 : Int32) M1 _ _ _ h (lv_sub hl [0, 1, 2, 3] rfl) hw
    · have h := h.2 hc
      refine lv_lload hx hb d_M_quotient_159 (lv_at hl 5 rfl) ?_
      refine lv_lload hx hb d_M_quotient_161 (lv_at hl 4 rfl) ?_
      refine lv_lload hx hb d_M_quotient_163 (lv_at hl 5 rfl) ?_
      refine lv_lsub hx hb d_M_quotient_165 ?_
      refine nf_lc_ne hx hb d_M_quotient_166 d_M_quotient_167 (tgt := 174) (by decide) (fun hc => ?_) (fun hc => ?_)
      · have h := h.1 hc
        refine lv_iconst (v := (2 : Int32)) hx hb d_M_quotient_170 (by decide) ?_
        refine lv_goto hx hb d_M_quotient_171 (tgt := 175) (by decide) ?_
        exact w_M_quotient_175 hfl K x1 x4 x7 (2 : Int32) M1 _ _ _ h (lv_sub hl [0, 1, 2, 3] rfl) hw
      · have h := h.2 hc
        refine lv_iconst (v := (1 : Int32)) hx hb d_M_quotient_174 (by decide) ?_
        exact w_M_quotient_175 hfl K x1 x4 x7 (1 : Int32) M1 _ _ _ h (lv_sub hl [0, 1, 2, 3] rfl) hw
theorem w_M_quotient_57 {post : Unit → nf_M → Prop} (hfl : l.flags = flags0) (K : nf_K p s m args meth c "NumberForgeModel" nb_M_quotient 16 none D a sz) : ∀ (n : Nat) (x1 : Int64) (x4 : Int64) (x7 : Int32) (x10 : Int64) (x12 : Int64) (x14 : Int32) (x15 : Int32) (M : nf_M) (H : Heap) (locs : List Loc) (ls : Array Slot), B_M_quotient_57 post n x1 x4 x7 x10 x12 x14 x15 M → lv_has ls 16 [(0, .ref (a 19)), (1, .long x1), (4, .long x4), (7, .int x7), (10, .long x10), (12, .long x12), (14, .int x14), (15, .int x15)] → nf_W D a s sz H locs M → W p l e rm_M_quotient s m args below meth c H locs 0 0 (nf_MQ below (nf_Q nf_jN D a post ex (nf_A a sz)) args s rm_M_quotient.cells rm_M_quotient.slots (nf_A a sz)) (F0 m 57 ls []) := by
  have hx := K.1
  have hb := K.2.1
  intro n
  induction n with
  | zero => intro x1 x4 x7 x10 x12 x14 x15 M H locs ls h hl hw; exact h.elim
  | succ n ih =>
    intro x1 x4 x7 x10 x12 x14 x15 M H locs ls h hl hw
    refine lv_iload hx hb d_M_quotient_57 (lv_at hl 7 rfl) ?_
    refine lv_iload hx hb d_M_quotient_59 (lv_at hl 6 rfl) ?_
    refine nf_ic_ge hx hb d_M_quotient_61 (tgt := 110) (by decide) (fun hc => ?_) (fun hc => ?_)
    · have h := h.1 hc
      refine lv_lload hx hb d_M_quotient_64 (lv_at hl 5 rfl) ?_
      refine lv_ldc2 (v := (10 : Int64)) hx hb K.2.2.2.1 (nf_Kg K nw_1038) d_M_quotient_66 ?_
      refine lv_lmul hx hb d_M_quotient_69 ?_
      refine lv_topl (fun t1 et1 => ?_)
      have h := h t1 et1
      refine lv_lstore (lv' := [(12, .long t1), (0, .ref (a 19)), (1, .long x1), (4, .long x4), (7, .int x7), (10, .long x10), (14, .int x14), (15, .int x15)]) hx hb d_M_quotient_70 hl (by decide) rfl (fun ls hl => ?_)
      refine lv_aload_n hx hb d_M_quotient_72 rfl (lv_at hl 1 rfl) ?_
      refine nf_get (v := .ref (a 26)) K hw 19 7 14 nw_945 rfl rfl ni_M (by decide) rfl rfl d_M_quotient_73 ?_
      refine lv_aload_n hx hb d_M_quotient_76 rfl (lv_at hl 1 rfl) ?_
      refine nf_get (v := .int (mg_I M 19 13)) K hw 19 7 13 nw_944 rfl rfl ni_M (by decide) rfl rfl d_M_quotient_77 ?_
      refine lv_lload hx hb d_M_quotient_80 (lv_at hl 0 rfl) ?_
      refine lv_lload hx hb d_M_quotient_82 (lv_at hl 5 rfl) ?_
      obtain ⟨g2, h⟩ := h
      refine lv_ldiv hx hb d_M_quotient_84 g2 ?_
      refine lv_l2i hx hb d_M_quotient_85 rfl ?_
      refine lv_topi (fun t3 et3 => ?_)
      have h := h t3 et3
      obtain ⟨g4, h⟩ := h
      refine nf_iast (M' := ms_I M 26 (mg_I M 19 13).toNatClampNeg t3) K hw 26 9 rfl rfl g4 rfl d_M_quotient_86 (fun H locs hw => ?_)
      obtain ⟨M5, eM5⟩ : ∃ z, z = ms_I M 26 (mg_I M 19 13).toNatClampNeg t3 := ⟨_, rfl⟩
      rw [← eM5] at hw
      have h := h M5 eM5
      refine lv_lload hx hb d_M_quotient_87 (lv_at hl 0 rfl) ?_
      refine lv_lload hx hb d_M_quotient_89 (lv_at hl 5 rfl) ?_
      obtain ⟨g6, h⟩ := h
      refine lv_lrem hx hb d_M_quotient_91 g6 ?_
      refine lv_topl (fun t7 et7 => ?_)
      have h := h t7 et7
      refine lv_lstore (lv' := [(12, .long t7), (0, .ref (a 19)), (1, .long x1), (4, .long x4), (7, .int x7), (10, .long x10), (14, .int x14), (15, .int x15)]) hx hb d_M_quotient_92 hl (by decide) rfl (fun ls hl => ?_)
      refine lv_aload_n hx hb d_M_quotient_94 rfl (lv_at hl 1 rfl) ?_
      refine lv_dup hx hb d_M_quotient_95 rfl ?_
      refine nf_get (v := .int (mg_I M5 19 13)) K hw 19 7 13 nw_944 rfl rfl ni_M (by decide) rfl rfl d_M_quotient_96 ?_
      refine lv_iconst (v := (1 : Int32)) hx hb d_M_quotient_99 (by decide) ?_
      refine lv_iadd hx hb d_M_quotient_100 ?_
      refine lv_topi (fun t8 et8 => ?_)
      have h := h t8 et8
      refine nf_put (M' := ms_I M5 19 13 t8) K hw 19 7 13 nw_944 rfl rfl rfl ni_M ny_M nq_M nn_M (by decide) rfl rfl rfl rfl (Nat.le_of_ble_eq_true rfl) d_M_quotient_101 (fun H locs hw => ?_)
      obtain ⟨M9, eM9⟩ : ∃ z, z = ms_I M5 19 13 t8 := ⟨_, rfl⟩
      rw [← eM9] at hw
      have h := h M9 eM9
      refine lv_iinc (k := 7) (v := x15 + (1 : Int32)) (lv' := [(15, .int (x15 + (1 : Int32))), (12, .long t7), (0, .ref (a 19)), (1, .long x1), (4, .long x4), (7, .int x7), (10, .long x10), (14, .int x14)]) hx hb d_M_quotient_104 hl rfl (nf_inc (by decide)) (by decide) rfl (fun ls hl => ?_)
      refine lv_goto hx hb d_M_quotient_107 (tgt := 57) (by decide) ?_
      exact ih x1 x4 x7 x10 t7 x14 (x15 + (1 : Int32)) M9 _ _ _ h (lv_sub hl [2, 3, 4, 5, 6, 1, 7, 0] rfl) hw
    · have h := h.2 hc
      refine lv_aload_n hx hb d_M_quotient_110 rfl (lv_at hl 0 rfl) ?_
      refine lv_iload hx hb d_M_quotient_111 (lv_at hl 6 rfl) ?_
      refine nf_if_ge hx hb d_M_quotient_113 (tgt := 126) (by decide) (fun hc => ?_) (fun hc => ?_)
      · have h := h.1 hc
        refine lv_aload_n hx hb d_M_quotient_116 rfl (lv_at hl 0 rfl) ?_
        refine nf_get (v := .int (mg_I M 19 13)) K hw 19 7 13 nw_944 rfl rfl ni_M (by decide) rfl rfl d_M_quotient_117 ?_
        refine lv_iload hx hb d_M_quotient_120 (lv_at hl 6 rfl) ?_
        refine lv_iadd hx hb d_M_quotient_122 ?_
        refine lv_goto hx hb d_M_quotient_123 (tgt := 130) (by decide) ?_
        exact w_M_quotient_130 hfl K x1 x4 x7 x10 x12 ((mg_I M 19 13) + x14) M _ _ _ h (lv_sub hl [0, 1, 2, 3, 4, 5] rfl) hw
      · have h := h.2 hc
        refine lv_aload_n hx hb d_M_quotient_126 rfl (lv_at hl 0 rfl) ?_
        refine nf_get (v := .int (mg_I M 19 13)) K hw 19 7 13 nw_944 rfl rfl ni_M (by decide) rfl rfl d_M_quotient_127 ?_
        exact w_M_quotient_130 hfl K x1 x4 x7 x10 x12 (mg_I M 19 13) M _ _ _ h (lv_sub hl [0, 1, 2, 3, 4, 5] rfl) hw
theorem w_M_quotient_51 {post : Unit → nf_M → Prop} (hfl : l.flags = flags0) (K : nf_K p s m args meth c "NumberForgeModel" nb_M_quotient 16 none D a sz) : ∀ (x1 : Int64) (x4 : Int64) (x7 : Int32) (x10 : Int64) (x12 : Int64) (xy0 : Int32) (xy1 : Int32) (M : nf_M) (H : Heap) (locs : List Loc) (ls : Array Slot), B_M_quotient_51 post x1 x4 x7 x10 x12 xy0 xy1 M → lv_has ls 16 [(0, .ref (a 19)), (1, .long x1), (4, .long x4), (7, .int x7), (10, .long x10), (12, .long x12)] → nf_W D a s sz H locs M → W p l e rm_M_quotient s m args below meth c H locs 0 0 (nf_MQ below (nf_Q nf_jN D a post ex (nf_A a sz)) args s rm_M_quotient.cells rm_M_quotient.slots (nf_A a sz)) (F0 m 51 ls [.int xy0, .int xy1]) := by
  have hx := K.1
  have hb := K.2.1
  intro x1 x4 x7 x10 x12 xy0 xy1 M H locs ls h hl hw
  refine lv_iadd hx hb d_M_quotient_51 ?_
  refine lv_topi (fun t1 et1 => ?_)
  have h := h t1 et1
  refine lv_istore (lv' := [(14, .int t1), (0, .ref (a 19)), (1, .long x1), (4, .long x4), (7, .int x7), (10, .long x10), (12, .long x12)]) hx hb d_M_quotient_52 hl (by decide) rfl (fun ls hl => ?_)
  refine lv_iconst (v := (0 : Int32)) hx hb d_M_quotient_54 (by decide) ?_
  refine lv_istore (lv' := [(15, .int (0 : Int32)), (14, .int t1), (0, .ref (a 19)), (1, .long x1), (4, .long x4), (7, .int x7), (10, .long x10), (12, .long x12)]) hx hb d_M_quotient_55 hl (by decide) rfl (fun ls hl => ?_)
  obtain ⟨n, h⟩ := h
  exact w_M_quotient_57 hfl K n x1 x4 x7 x10 x12 t1 (0 : Int32) M _ _ _ h (lv_sub hl [2, 3, 4, 5, 6, 7, 1, 0] rfl) hw
theorem c_M_quotient (l : Launch) (hfl : l.flags = flags0) (x1 : Int64) (x3 : Int32) (x4 : Int64) (x6 : Int32) (x7 : Int32) : nf_C nf_jN l nm_M_quotient nb_M_quotient 16 none rm_M_quotient (fun a => [.ref (a 19), .long x1, .int x3, .long x4, .int x6, .int x7]) (fun M post ex => P_M_quotient x1 x3 x4 x6 x7 M post) := by
  refine nf_start (plainFor_of_name (by decide +kernel)) (fun a => Nat.le_of_ble_eq_true rfl) ?_
  intro D a sz M post ex p e s m below meth c ls h K hl hw
  have hx := K.1
  have hb := K.2.1
  have hl : lv_has ls 16 [(0, .ref (a 19)), (1, .long x1), (3, .int x3), (4, .long x4), (6, .int x6), (7, .int x7)] := hl
  refine lv_lload_n hx hb d_M_quotient_0 rfl (lv_at hl 1 rfl) ?_
  refine nf_callW (ex := (fun _ _ => False)) (As := [.long x1]) (st0 := [.long x1]) (rest := []) K hw (nf_invS hx hb K.2.2.2.1 (nf_Kg K nw_1124) (nf_Kg K nw_1125) (nf_Kg K nw_9) (nf_Kg K nw_1126) ⟨by decide, by decide⟩ rfl nl_M_amount rfl d_M_quotient_1) (c_M_amount l hfl x1) nw_1126 nw_9 rfl ⟨by decide, by decide⟩ (Nat.le_of_ble_eq_true rfl) hl.1 ⟨Nat.le_of_ble_eq_true rfl, Nat.le_of_ble_eq_true rfl⟩ h (fun _ _ h => h.elim) (fun r1 M2 H locs h hw => ?_)
  refine W.eq (g2 := F0 m 4 ls [.long r1]) rfl ?_
  refine lv_lstore (lv' := [(8, .long r1), (0, .ref (a 19)), (1, .long x1), (3, .int x3), (4, .long x4), (6, .int x6), (7, .int x7)]) hx hb d_M_quotient_4 hl (by decide) rfl (fun ls hl => ?_)
  refine lv_lload hx hb d_M_quotient_6 (lv_at hl 4 rfl) ?_
  refine nf_callW (ex := (fun _ _ => False)) (As := [.long x4]) (st0 := [.long x4]) (rest := []) K hw (nf_invS hx hb K.2.2.2.1 (nf_Kg K nw_1124) (nf_Kg K nw_1125) (nf_Kg K nw_9) (nf_Kg K nw_1126) ⟨by decide, by decide⟩ rfl nl_M_amount rfl d_M_quotient_8) (c_M_amount l hfl x4) nw_1126 nw_9 rfl ⟨by decide, by decide⟩ (Nat.le_of_ble_eq_true rfl) hl.1 ⟨Nat.le_of_ble_eq_true rfl, Nat.le_of_ble_eq_true rfl⟩ h (fun _ _ h => h.elim) (fun r3 M4 H locs h hw => ?_)
  refine W.eq (g2 := F0 m 11 ls [.long r3]) rfl ?_
  refine lv_lstore (lv' := [(10, .long r3), (8, .long r1), (0, .ref (a 19)), (1, .long x1), (3, .int x3), (4, .long x4), (6, .int x6), (7, .int x7)]) hx hb d_M_quotient_11 hl (by decide) rfl (fun ls hl => ?_)
  refine lv_aload_n hx hb d_M_quotient_13 rfl (lv_at hl 2 rfl) ?_
  refine lv_iconst (v := (0 : Int32)) hx hb d_M_quotient_14 (by decide) ?_
  refine nf_put (M' := ms_I M4 19 13 (0 : Int32)) K hw 19 7 13 nw_944 rfl rfl rfl ni_M ny_M nq_M nn_M (by decide) rfl rfl rfl rfl (Nat.le_of_ble_eq_true rfl) d_M_quotient_15 (fun H locs hw => ?_)
  obtain ⟨M5, eM5⟩ : ∃ z, z = ms_I M4 19 13 (0 : Int32) := ⟨_, rfl⟩
  rw [← eM5] at hw
  have h := h M5 eM5
  refine lv_aload_n hx hb d_M_quotient_18 rfl (lv_at hl 2 rfl) ?_
  refine lv_lload hx hb d_M_quotient_19 (lv_at hl 1 rfl) ?_
  refine lv_lload hx hb d_M_quotient_21 (lv_at hl 0 rfl) ?_
  obtain ⟨g6, h⟩ := h
  refine lv_ldiv hx hb d_M_quotient_23 g6 ?_
  refine lv_bipush (v := (19 : Int32)) hx hb d_M_quotient_24 (by decide) ?_
  refine nf_callW (ex := (fun _ _ => False)) (As := [.ref (a 19), .long (r1 / r3), .int (19 : Int32)]) (st0 := [.int (19 : Int32), .long (r1 / r3), .ref (a 19)]) (rest := []) K hw (nf_invV hx hb K.2.2.2.1 (nf_Kg K nw_1127) (nf_Kg K nw_1129) (nf_Kg K nx_M_addDigits) (nf_Kg K nw_1130) ⟨by decide, by decide⟩ (nf_rcv K hw 19 7 rfl rfl) rfl nl_M_addDigits rfl d_M_quotient_26) (c_M_addDigits l hfl (r1 / r3) (19 : Int32)) nw_1130 nw_9 rfl ⟨by decide, by decide⟩ (Nat.le_of_ble_eq_true rfl) hl.1 ⟨Nat.le_of_ble_eq_true rfl, Nat.le_of_ble_eq_true rfl⟩ h (fun _ _ h => h.elim) (fun r7 M8 H locs h hw => ?_)
  refine W.eq (g2 := F0 m 29 ls []) rfl ?_
  refine lv_lload hx hb d_M_quotient_29 (lv_at hl 1 rfl) ?_
  refine lv_lload hx hb d_M_quotient_31 (lv_at hl 0 rfl) ?_
  obtain ⟨g9, h⟩ := h
  refine lv_lrem hx hb d_M_quotient_33 g9 ?_
  refine lv_topl (fun t10 et10 => ?_)
  have h := h t10 et10
  refine lv_lstore (lv' := [(12, .long t10), (10, .long r3), (8, .long r1), (0, .ref (a 19)), (1, .long x1), (3, .int x3), (4, .long x4), (6, .int x6), (7, .int x7)]) hx hb d_M_quotient_34 hl (by decide) rfl (fun ls hl => ?_)
  refine lv_iload hx hb d_M_quotient_36 (lv_at hl 7 rfl) ?_
  refine lv_iload_n hx hb d_M_quotient_38 rfl (lv_at hl 5 rfl) ?_
  refine lv_isub hx hb d_M_quotient_39 ?_
  refine lv_iload hx hb d_M_quotient_40 (lv_at hl 8 rfl) ?_
  refine nf_if_eq hx hb d_M_quotient_42 (tgt := 50) (by decide) (fun hc => ?_) (fun hc => ?_)
  · have h := h.1 hc
    refine lv_iconst (v := (0 : Int32)) hx hb d_M_quotient_50 (by decide) ?_
    exact w_M_quotient_51 hfl K x1 x4 x7 r3 t10 (0 : Int32) (x6 - x3) M8 _ _ _ h (lv_sub hl [3, 4, 6, 8, 1, 0] rfl) hw
  · have h := h.2 hc
    refine lv_bipush (v := (6 : Int32)) hx hb d_M_quotient_45 (by decide) ?_
    refine lv_goto hx hb d_M_quotient_47 (tgt := 51) (by decide) ?_
    exact w_M_quotient_51 hfl K x1 x4 x7 r3 t10 (6 : Int32) (x6 - x3) M8 _ _ _ h (lv_sub hl [3, 4, 6, 8, 1, 0] rfl) hw
theorem d_M_keep_0 : decode nb_M_keep 0 = .ok (.aload_n 0, 1) := by decide +kernel
theorem d_M_keep_1 : decode nb_M_keep 1 = .ok (.iconst 0, 1) := by decide +kernel
theorem d_M_keep_2 : decode nb_M_keep 2 = .ok (.putfield 62, 3) := by decide +kernel
theorem d_M_keep_5 : decode nb_M_keep 5 = .ok (.aload_n 0, 1) := by decide +kernel
theorem d_M_keep_6 : decode nb_M_keep 6 = .ok (.lload_n 1, 1) := by decide +kernel
theorem d_M_keep_7 : decode nb_M_keep 7 = .ok (.invokestatic 81, 3) := by decide +kernel
theorem d_M_keep_10 : decode nb_M_keep 10 = .ok (.bipush 19, 2) := by decide +kernel
theorem d_M_keep_12 : decode nb_M_keep 12 = .ok (.invokevirtual 85, 3) := by decide +kernel
theorem d_M_keep_15 : decode nb_M_keep 15 = .ok (.aload_n 0, 1) := by decide +kernel
theorem d_M_keep_16 : decode nb_M_keep 16 = .ok (.lload_n 1, 1) := by decide +kernel
theorem d_M_keep_17 : decode nb_M_keep 17 = .ok (.lconst 0, 1) := by decide +kernel
theorem d_M_keep_18 : decode nb_M_keep 18 = .ok (.lcmp, 1) := by decide +kernel
theorem d_M_keep_19 : decode nb_M_keep 19 = .ok (.ifCond .ge 7, 3) := by decide +kernel
theorem d_M_keep_22 : decode nb_M_keep 22 = .ok (.iconst 1, 1) := by decide +kernel
theorem d_M_keep_23 : decode nb_M_keep 23 = .ok (.goto 4, 3) := by decide +kernel
theorem d_M_keep_26 : decode nb_M_keep 26 = .ok (.iconst 0, 1) := by decide +kernel
theorem d_M_keep_27 : decode nb_M_keep 27 = .ok (.iload_n 3, 1) := by decide +kernel
theorem d_M_keep_28 : decode nb_M_keep 28 = .ok (.iconst 0, 1) := by decide +kernel
theorem d_M_keep_29 : decode nb_M_keep 29 = .ok (.invokevirtual 89, 3) := by decide +kernel
theorem d_M_keep_32 : decode nb_M_keep 32 = .ok (.return_, 1) := by decide +kernel
abbrev rm_M_keep : Room := ({ frames := 2, cells := 0, slots := 0, locals := 51 })
theorem w_M_keep_27 {post : Unit → nf_M → Prop} (hfl : l.flags = flags0) (K : nf_K p s m args meth c "NumberForgeModel" nb_M_keep 4 none D a sz) : ∀ (x3 : Int32) (xy0 : Int32) (M : nf_M) (H : Heap) (locs : List Loc) (ls : Array Slot), B_M_keep_27 post x3 xy0 M → lv_has ls 4 [(3, .int x3)] → nf_W D a s sz H locs M → W p l e rm_M_keep s m args below meth c H locs 0 0 (nf_MQ below (nf_Q nf_jN D a post ex (nf_A a sz)) args s rm_M_keep.cells rm_M_keep.slots (nf_A a sz)) (F0 m 27 ls [.int xy0, .ref (a 19)]) := by
  have hx := K.1
  have hb := K.2.1
  intro x3 xy0 M H locs ls h hl hw
  refine lv_iload_n hx hb d_M_keep_27 rfl (lv_at hl 0 rfl) ?_
  refine lv_iconst (v := (0 : Int32)) hx hb d_M_keep_28 (by decide) ?_
  refine nf_callW (ex := (fun _ _ => False)) (As := [.ref (a 19), .int xy0, .int x3, .int (0 : Int32)]) (st0 := [.int (0 : Int32), .int x3, .int xy0, .ref (a 19)]) (rest := []) K hw (nf_invV hx hb K.2.2.2.1 (nf_Kg K nw_1029) (nf_Kg K nw_1031) (nf_Kg K nx_M_settle) (nf_Kg K nw_1032) ⟨by decide, by decide⟩ (nf_rcv K hw 19 7 rfl rfl) rfl nl_M_settle rfl d_M_keep_29) (c_M_settle l hfl xy0 x3 (0 : Int32)) nw_1032 nw_9 rfl ⟨by decide, by decide⟩ (Nat.le_of_ble_eq_true rfl) hl.1 ⟨Nat.le_of_ble_eq_true rfl, Nat.le_of_ble_eq_true rfl⟩ h (fun _ _ h => h.elim) (fun r1 M2 H locs h hw => ?_)
  refine W.eq (g2 := F0 m 32 ls []) rfl ?_
  exact nf_vret K hw d_M_keep_32 (Nat.le_of_ble_eq_true rfl) (Nat.le_of_ble_eq_true rfl) (r := ()) rfl h
theorem c_M_keep (l : Launch) (hfl : l.flags = flags0) (x1 : Int64) (x3 : Int32) : nf_C nf_jN l nm_M_keep nb_M_keep 4 none rm_M_keep (fun a => [.ref (a 19), .long x1, .int x3]) (fun M post ex => P_M_keep x1 x3 M post) := by
  refine nf_start (plainFor_of_name (by decide +kernel)) (fun a => Nat.le_of_ble_eq_true rfl) ?_
  intro D a sz M post ex p e s m below meth c ls h K hl hw
  have hx := K.1
  have hb := K.2.1
  have hl : lv_has ls 4 [(0, .ref (a 19)), (1, .long x1), (3, .int x3)] := hl
  refine lv_aload_n hx hb d_M_keep_0 rfl (lv_at hl 0 rfl) ?_
  refine lv_iconst (v := (0 : Int32)) hx hb d_M_keep_1 (by decide) ?_
  refine nf_put (M' := ms_I M 19 13 (0 : Int32)) K hw 19 7 13 nw_944 rfl rfl rfl ni_M ny_M nq_M nn_M (by decide) rfl rfl rfl rfl (Nat.le_of_ble_eq_true rfl) d_M_keep_2 (fun H locs hw => ?_)
  obtain ⟨M1, eM1⟩ : ∃ z, z = ms_I M 19 13 (0 : Int32) := ⟨_, rfl⟩
  rw [← eM1] at hw
  have h := h M1 eM1
  refine lv_aload_n hx hb d_M_keep_5 rfl (lv_at hl 0 rfl) ?_
  refine lv_lload_n hx hb d_M_keep_6 rfl (lv_at hl 1 rfl) ?_
  refine nf_callW (ex := (fun _ _ => False)) (As := [.long x1]) (st0 := [.long x1, .ref (a 19)]) (rest := [.ref (a 19)]) K hw (nf_invS hx hb K.2.2.2.1 (nf_Kg K nw_1124) (nf_Kg K nw_1125) (nf_Kg K nw_9) (nf_Kg K nw_1126) ⟨by decide, by decide⟩ rfl nl_M_amount rfl d_M_keep_7) (c_M_amount l hfl x1) nw_1126 nw_9 rfl ⟨by decide, by decide⟩ (Nat.le_of_ble_eq_true rfl) hl.1 ⟨Nat.le_of_ble_eq_true rfl, Nat.le_of_ble_eq_true rfl⟩ h (fun _ _ h => h.elim) (fun r2 M3 H locs h hw => ?_)
  refine W.eq (g2 := F0 m 10 ls [.long r2, .ref (a 19)]) rfl ?_
  refine lv_bipush (v := (19 : Int32)) hx hb d_M_keep_10 (by decide) ?_
  refine nf_callW (ex := (fun _ _ => False)) (As := [.ref (a 19), .long r2, .int (19 : Int32)]) (st0 := [.int (19 : Int32), .long r2, .ref (a 19)]) (rest := []) K hw (nf_invV hx hb K.2.2.2.1 (nf_Kg K nw_1127) (nf_Kg K nw_1129) (nf_Kg K nx_M_addDigits) (nf_Kg K nw_1130) ⟨by decide, by decide⟩ (nf_rcv K hw 19 7 rfl rfl) rfl nl_M_addDigits rfl d_M_keep_12) (c_M_addDigits l hfl r2 (19 : Int32)) nw_1130 nw_9 rfl ⟨by decide, by decide⟩ (Nat.le_of_ble_eq_true rfl) hl.1 ⟨Nat.le_of_ble_eq_true rfl, Nat.le_of_ble_eq_true rfl⟩ h (fun _ _ h => h.elim) (fun r4 M5 H locs h hw => ?_)
  refine W.eq (g2 := F0 m 15 ls []) rfl ?_
  refine lv_aload_n hx hb d_M_keep_15 rfl (lv_at hl 0 rfl) ?_
  refine lv_lload_n hx hb d_M_keep_16 rfl (lv_at hl 1 rfl) ?_
  refine lv_lconst (v := (0 : Int64)) hx hb d_M_keep_17 (by decide) ?_
  refine nf_lc_ge hx hb d_M_keep_18 d_M_keep_19 (tgt := 26) (by decide) (fun hc => ?_) (fun hc => ?_)
  · have h := h.1 hc
    refine lv_iconst (v := (1 : Int32)) hx hb d_M_keep_22 (by decide) ?_
    refine lv_goto hx hb d_M_keep_23 (tgt := 27) (by decide) ?_
    exact w_M_keep_27 hfl K x3 (1 : Int32) M5 _ _ _ h (lv_sub hl [2] rfl) hw
  · have h := h.2 hc
    refine lv_iconst (v := (0 : Int32)) hx hb d_M_keep_26 (by decide) ?_
    exact w_M_keep_27 hfl K x3 (0 : Int32) M5 _ _ _ h (lv_sub hl [2] rfl) hw
theorem d_M_left_0 : decode nb_M_left 0 = .ok (.lload_n 1, 1) := by decide +kernel
theorem d_M_left_1 : decode nb_M_left 1 = .ok (.invokestatic 81, 3) := by decide +kernel
theorem d_M_left_4 : decode nb_M_left 4 = .ok (.lstore 7, 2) := by decide +kernel
theorem d_M_left_6 : decode nb_M_left 6 = .ok (.lload 4, 2) := by decide +kernel
theorem d_M_left_8 : decode nb_M_left 8 = .ok (.invokestatic 81, 3) := by decide +kernel
theorem d_M_left_11 : decode nb_M_left 11 = .ok (.lstore 9, 2) := by decide +kernel
theorem d_M_left_13 : decode nb_M_left 13 = .ok (.iload 6, 2) := by decide +kernel
theorem d_M_left_15 : decode nb_M_left 15 = .ok (.iload_n 3, 1) := by decide +kernel
theorem d_M_left_16 : decode nb_M_left 16 = .ok (.if_icmp .lt 11, 3) := by decide +kernel
theorem d_M_left_19 : decode nb_M_left 19 = .ok (.lload 7, 2) := by decide +kernel
theorem d_M_left_21 : decode nb_M_left 21 = .ok (.lload 9, 2) := by decide +kernel
theorem d_M_left_23 : decode nb_M_left 23 = .ok (.lrem, 1) := by decide +kernel
theorem d_M_left_24 : decode nb_M_left 24 = .ok (.goto 37, 3) := by decide +kernel
theorem d_M_left_27 : decode nb_M_left 27 = .ok (.lload 9, 2) := by decide +kernel
theorem d_M_left_29 : decode nb_M_left 29 = .ok (.lload 7, 2) := by decide +kernel
theorem d_M_left_31 : decode nb_M_left 31 = .ok (.iload_n 3, 1) := by decide +kernel
theorem d_M_left_32 : decode nb_M_left 32 = .ok (.iload 6, 2) := by decide +kernel
theorem d_M_left_34 : decode nb_M_left 34 = .ok (.isub, 1) := by decide +kernel
theorem d_M_left_35 : decode nb_M_left 35 = .ok (.invokestatic 42, 3) := by decide +kernel
theorem d_M_left_38 : decode nb_M_left 38 = .ok (.ldiv, 1) := by decide +kernel
theorem d_M_left_39 : decode nb_M_left 39 = .ok (.lcmp, 1) := by decide +kernel
theorem d_M_left_40 : decode nb_M_left 40 = .ok (.ifCond .gt 19, 3) := by decide +kernel
theorem d_M_left_43 : decode nb_M_left 43 = .ok (.lload 7, 2) := by decide +kernel
theorem d_M_left_45 : decode nb_M_left 45 = .ok (.lload 9, 2) := by decide +kernel
theorem d_M_left_47 : decode nb_M_left 47 = .ok (.iload_n 3, 1) := by decide +kernel
theorem d_M_left_48 : decode nb_M_left 48 = .ok (.iload 6, 2) := by decide +kernel
theorem d_M_left_50 : decode nb_M_left 50 = .ok (.isub, 1) := by decide +kernel
theorem d_M_left_51 : decode nb_M_left 51 = .ok (.invokestatic 42, 3) := by decide +kernel
theorem d_M_left_54 : decode nb_M_left 54 = .ok (.lmul, 1) := by decide +kernel
theorem d_M_left_55 : decode nb_M_left 55 = .ok (.lrem, 1) := by decide +kernel
theorem d_M_left_56 : decode nb_M_left 56 = .ok (.goto 5, 3) := by decide +kernel
theorem d_M_left_59 : decode nb_M_left 59 = .ok (.lload 7, 2) := by decide +kernel
theorem d_M_left_61 : decode nb_M_left 61 = .ok (.lstore 11, 2) := by decide +kernel
theorem d_M_left_63 : decode nb_M_left 63 = .ok (.iload_n 3, 1) := by decide +kernel
theorem d_M_left_64 : decode nb_M_left 64 = .ok (.istore 13, 2) := by decide +kernel
theorem d_M_left_66 : decode nb_M_left 66 = .ok (.iload 13, 2) := by decide +kernel
theorem d_M_left_68 : decode nb_M_left 68 = .ok (.iload 6, 2) := by decide +kernel
theorem d_M_left_70 : decode nb_M_left 70 = .ok (.if_icmp .ge 20, 3) := by decide +kernel
theorem d_M_left_73 : decode nb_M_left 73 = .ok (.lload 11, 2) := by decide +kernel
theorem d_M_left_75 : decode nb_M_left 75 = .ok (.ldc2_w 40, 3) := by decide +kernel
theorem d_M_left_78 : decode nb_M_left 78 = .ok (.lmul, 1) := by decide +kernel
theorem d_M_left_79 : decode nb_M_left 79 = .ok (.lload 9, 2) := by decide +kernel
theorem d_M_left_81 : decode nb_M_left 81 = .ok (.lrem, 1) := by decide +kernel
theorem d_M_left_82 : decode nb_M_left 82 = .ok (.lstore 11, 2) := by decide +kernel
theorem d_M_left_84 : decode nb_M_left 84 = .ok (.iinc 13 1, 3) := by decide +kernel
theorem d_M_left_87 : decode nb_M_left 87 = .ok (.goto (-21), 3) := by decide +kernel
theorem d_M_left_90 : decode nb_M_left 90 = .ok (.aload_n 0, 1) := by decide +kernel
theorem d_M_left_91 : decode nb_M_left 91 = .ok (.lload_n 1, 1) := by decide +kernel
theorem d_M_left_92 : decode nb_M_left 92 = .ok (.lconst 0, 1) := by decide +kernel
theorem d_M_left_93 : decode nb_M_left 93 = .ok (.lcmp, 1) := by decide +kernel
theorem d_M_left_94 : decode nb_M_left 94 = .ok (.ifCond .ge 9, 3) := by decide +kernel
theorem d_M_left_97 : decode nb_M_left 97 = .ok (.lload 11, 2) := by decide +kernel
theorem d_M_left_99 : decode nb_M_left 99 = .ok (.lneg, 1) := by decide +kernel
theorem d_M_left_100 : decode nb_M_left 100 = .ok (.goto 5, 3) := by decide +kernel
theorem d_M_left_103 : decode nb_M_left 103 = .ok (.lload 11, 2) := by decide +kernel
theorem d_M_left_105 : decode nb_M_left 105 = .ok (.iload 6, 2) := by decide +kernel
theorem d_M_left_107 : decode nb_M_left 107 = .ok (.iload_n 3, 1) := by decide +kernel
theorem d_M_left_108 : decode nb_M_left 108 = .ok (.if_icmp .le 8, 3) := by decide +kernel
theorem d_M_left_111 : decode nb_M_left 111 = .ok (.iload 6, 2) := by decide +kernel
theorem d_M_left_113 : decode nb_M_left 113 = .ok (.goto 4, 3) := by decide +kernel
theorem d_M_left_116 : decode nb_M_left 116 = .ok (.iload_n 3, 1) := by decide +kernel
theorem d_M_left_117 : decode nb_M_left 117 = .ok (.invokevirtual 101, 3) := by decide +kernel
theorem d_M_left_120 : decode nb_M_left 120 = .ok (.return_, 1) := by decide +kernel
abbrev rm_M_left : Room := ({ frames := 3, cells := 0, slots := 0, locals := 74 })
theorem w_M_left_117 {post : Unit → nf_M → Prop} (hfl : l.flags = flags0) (K : nf_K p s m args meth c "NumberForgeModel" nb_M_left 14 none D a sz) : ∀ (xy0 : Int32) (xy1 : Int64) (M : nf_M) (H : Heap) (locs : List Loc) (ls : Array Slot), B_M_left_117 post xy0 xy1 M → lv_has ls 14 [] → nf_W D a s sz H locs M → W p l e rm_M_left s m args below meth c H locs 0 0 (nf_MQ below (nf_Q nf_jN D a post ex (nf_A a sz)) args s rm_M_left.cells rm_M_left.slots (nf_A a sz)) (F0 m 117 ls [.int xy0, .long xy1, .ref (a 19)]) := by
  have hx := K.1
  have hb := K.2.1
  intro xy0 xy1 M H locs ls h hl hw
  refine nf_callW (ex := (fun _ _ => False)) (As := [.ref (a 19), .long xy1, .int xy0]) (st0 := [.int xy0, .long xy1, .ref (a 19)]) (rest := []) K hw (nf_invV hx hb K.2.2.2.1 (nf_Kg K nw_1144) (nf_Kg K nw_1146) (nf_Kg K nx_M_keep) (nf_Kg K nw_1147) ⟨by decide, by decide⟩ (nf_rcv K hw 19 7 rfl rfl) rfl nl_M_keep rfl d_M_left_117) (c_M_keep l hfl xy1 xy0) nw_1147 nw_9 rfl ⟨by decide, by decide⟩ (Nat.le_of_ble_eq_true rfl) hl.1 ⟨Nat.le_of_ble_eq_true rfl, Nat.le_of_ble_eq_true rfl⟩ h (fun _ _ h => h.elim) (fun r1 M2 H locs h hw => ?_)
  refine W.eq (g2 := F0 m 120 ls []) rfl ?_
  exact nf_vret K hw d_M_left_120 (Nat.le_of_ble_eq_true rfl) (Nat.le_of_ble_eq_true rfl) (r := ()) rfl h
theorem w_M_left_105 {post : Unit → nf_M → Prop} (hfl : l.flags = flags0) (K : nf_K p s m args meth c "NumberForgeModel" nb_M_left 14 none D a sz) : ∀ (x3 : Int32) (x6 : Int32) (xy0 : Int64) (M : nf_M) (H : Heap) (locs : List Loc) (ls : Array Slot), B_M_left_105 post x3 x6 xy0 M → lv_has ls 14 [(3, .int x3), (6, .int x6)] → nf_W D a s sz H locs M → W p l e rm_M_left s m args below meth c H locs 0 0 (nf_MQ below (nf_Q nf_jN D a post ex (nf_A a sz)) args s rm_M_left.cells rm_M_left.slots (nf_A a sz)) (F0 m 105 ls [.long xy0, .ref (a 19)]) := by
  have hx := K.1
  have hb := K.2.1
  intro x3 x6 xy0 M H locs ls h hl hw
  refine lv_iload hx hb d_M_left_105 (lv_at hl 1 rfl) ?_
  refine lv_iload_n hx hb d_M_left_107 rfl (lv_at hl 0 rfl) ?_
  refine nf_ic_le hx hb d_M_left_108 (tgt := 116) (by decide) (fun hc => ?_) (fun hc => ?_)
  · have h := h.1 hc
    refine lv_iload hx hb d_M_left_111 (lv_at hl 1 rfl) ?_
    refine lv_goto hx hb d_M_left_113 (tgt := 117) (by decide) ?_
    exact w_M_left_117 hfl K x6 xy0 M _ _ _ h (lv_sub hl [] rfl) hw
  · have h := h.2 hc
    refine lv_iload_n hx hb d_M_left_116 rfl (lv_at hl 0 rfl) ?_
    exact w_M_left_117 hfl K x3 xy0 M _ _ _ h (lv_sub hl [] rfl) hw
theorem w_M_left_66 {post : Unit → nf_M → Prop} (hfl : l.flags = flags0) (K : nf_K p s m args meth c "NumberForgeModel" nb_M_left 14 none D a sz) : ∀ (n : Nat) (x1 : Int64) (x3 : Int32) (x6 : Int32) (x9 : Int64) (x11 : Int64) (x13 : Int32) (M : nf_M) (H : Heap) (locs : List Loc) (ls : Array Slot), B_M_left_66 post n x1 x3 x6 x9 x11 x13 M → lv_has ls 14 [(0, .ref (a 19)), (1, .long x1), (3, .int x3), (6, .int x6), (9, .long x9), (11, .long x11), (13, .int x13)] → nf_W D a s sz H locs M → W p l e rm_M_left s m args below meth c H locs 0 0 (nf_MQ below (nf_Q nf_jN D a post ex (nf_A a sz)) args s rm_M_left.cells rm_M_left.slots (nf_A a sz)) (F0 m 66 ls []) := by
  have hx := K.1
  have hb := K.2.1
  intro n
  induction n with
  | zero => intro x1 x3 x6 x9 x11 x13 M H locs ls h hl hw; exact h.elim
  | succ n ih =>
    intro x1 x3 x6 x9 x11 x13 M H locs ls h hl hw
    refine lv_iload hx hb d_M_left_66 (lv_at hl 6 rfl) ?_
    refine lv_iload hx hb d_M_left_68 (lv_at hl 3 rfl) ?_
    refine nf_ic_ge hx hb d_M_left_70 (tgt := 90) (by decide) (fun hc => ?_) (fun hc => ?_)
    · have h := h.1 hc
      refine lv_lload hx hb d_M_left_73 (lv_at hl 5 rfl) ?_
      refine lv_ldc2 (v := (10 : Int64)) hx hb K.2.2.2.1 (nf_Kg K nw_1038) d_M_left_75 ?_
      refine lv_lmul hx hb d_M_left_78 ?_
      refine lv_lload hx hb d_M_left_79 (lv_at hl 4 rfl) ?_
      obtain ⟨g1, h⟩ := h
      refine lv_lrem hx hb d_M_left_81 g1 ?_
      refine lv_topl (fun t2 et2 => ?_)
      have h := h t2 et2
      refine lv_lstore (lv' := [(11, .long t2), (0, .ref (a 19)), (1, .long x1), (3, .int x3), (6, .int x6), (9, .long x9), (13, .int x13)]) hx hb d_M_left_82 hl (by decide) rfl (fun ls hl => ?_)
      refine lv_iinc (k := 6) (v := x13 + (1 : Int32)) (lv' := [(13, .int (x13 + (1 : Int32))), (11, .long t2), (0, .ref (a 19)), (1, .long x1), (3, .int x3), (6, .int x6), (9, .long x9)]) hx hb d_M_left_84 hl rfl (nf_inc (by decide)) (by decide) rfl (fun ls hl => ?_)
      refine lv_goto hx hb d_M_left_87 (tgt := 66) (by decide) ?_
      exact ih x1 x3 x6 x9 t2 (x13 + (1 : Int32)) M _ _ _ h (lv_sub hl [2, 3, 4, 5, 6, 1, 0] rfl) hw
    · have h := h.2 hc
      refine lv_aload_n hx hb d_M_left_90 rfl (lv_at hl 0 rfl) ?_
      refine lv_lload_n hx hb d_M_left_91 rfl (lv_at hl 1 rfl) ?_
      refine lv_lconst (v := (0 : Int64)) hx hb d_M_left_92 (by decide) ?_
      refine nf_lc_ge hx hb d_M_left_93 d_M_left_94 (tgt := 103) (by decide) (fun hc => ?_) (fun hc => ?_)
      · have h := h.1 hc
        refine lv_lload hx hb d_M_left_97 (lv_at hl 5 rfl) ?_
        refine lv_lneg hx hb d_M_left_99 ?_
        refine lv_goto hx hb d_M_left_100 (tgt := 105) (by decide) ?_
        exact w_M_left_105 hfl K x3 x6 (-x11) M _ _ _ h (lv_sub hl [2, 3] rfl) hw
      · have h := h.2 hc
        refine lv_lload hx hb d_M_left_103 (lv_at hl 5 rfl) ?_
        exact w_M_left_105 hfl K x3 x6 x11 M _ _ _ h (lv_sub hl [2, 3] rfl) hw
theorem w_M_left_61 {post : Unit → nf_M → Prop} (hfl : l.flags = flags0) (K : nf_K p s m args meth c "NumberForgeModel" nb_M_left 14 none D a sz) : ∀ (x1 : Int64) (x3 : Int32) (x6 : Int32) (x9 : Int64) (xy0 : Int64) (M : nf_M) (H : Heap) (locs : List Loc) (ls : Array Slot), B_M_left_61 post x1 x3 x6 x9 xy0 M → lv_has ls 14 [(0, .ref (a 19)), (1, .long x1), (3, .int x3), (6, .int x6), (9, .long x9)] → nf_W D a s sz H locs M → W p l e rm_M_left s m args below meth c H locs 0 0 (nf_MQ below (nf_Q nf_jN D a post ex (nf_A a sz)) args s rm_M_left.cells rm_M_left.slots (nf_A a sz)) (F0 m 61 ls [.long xy0]) := by
  have hx := K.1
  have hb := K.2.1
  intro x1 x3 x6 x9 xy0 M H locs ls h hl hw
  refine lv_lstore (lv' := [(11, .long xy0), (0, .ref (a 19)), (1, .long x1), (3, .int x3), (6, .int x6), (9, .long x9)]) hx hb d_M_left_61 hl (by decide) rfl (fun ls hl => ?_)
  refine lv_iload_n hx hb d_M_left_63 rfl (lv_at hl 3 rfl) ?_
  refine lv_istore (lv' := [(13, .int x3), (11, .long xy0), (0, .ref (a 19)), (1, .long x1), (3, .int x3), (6, .int x6), (9, .long x9)]) hx hb d_M_left_64 hl (by decide) rfl (fun ls hl => ?_)
  obtain ⟨n, h⟩ := h
  exact w_M_left_66 hfl K n x1 x3 x6 x9 xy0 x3 M _ _ _ h (lv_sub hl [2, 3, 4, 5, 6, 1, 0] rfl) hw
theorem c_M_left (l : Launch) (hfl : l.flags = flags0) (x1 : Int64) (x3 : Int32) (x4 : Int64) (x6 : Int32) : nf_C nf_jN l nm_M_left nb_M_left 14 none rm_M_left (fun a => [.ref (a 19), .long x1, .int x3, .long x4, .int x6]) (fun M post ex => P_M_left x1 x3 x4 x6 M post) := by
  refine nf_start (plainFor_of_name (by decide +kernel)) (fun a => Nat.le_of_ble_eq_true rfl) ?_
  intro D a sz M post ex p e s m below meth c ls h K hl hw
  have hx := K.1
  have hb := K.2.1
  have hl : lv_has ls 14 [(0, .ref (a 19)), (1, .long x1), (3, .int x3), (4, .long x4), (6, .int x6)] := hl
  refine lv_lload_n hx hb d_M_left_0 rfl (lv_at hl 1 rfl) ?_
  refine nf_callW (ex := (fun _ _ => False)) (As := [.long x1]) (st0 := [.long x1]) (rest := []) K hw (nf_invS hx hb K.2.2.2.1 (nf_Kg K nw_1124) (nf_Kg K nw_1125) (nf_Kg K nw_9) (nf_Kg K nw_1126) ⟨by decide, by decide⟩ rfl nl_M_amount rfl d_M_left_1) (c_M_amount l hfl x1) nw_1126 nw_9 rfl ⟨by decide, by decide⟩ (Nat.le_of_ble_eq_true rfl) hl.1 ⟨Nat.le_of_ble_eq_true rfl, Nat.le_of_ble_eq_true rfl⟩ h (fun _ _ h => h.elim) (fun r1 M2 H locs h hw => ?_)
  refine W.eq (g2 := F0 m 4 ls [.long r1]) rfl ?_
  refine lv_lstore (lv' := [(7, .long r1), (0, .ref (a 19)), (1, .long x1), (3, .int x3), (4, .long x4), (6, .int x6)]) hx hb d_M_left_4 hl (by decide) rfl (fun ls hl => ?_)
  refine lv_lload hx hb d_M_left_6 (lv_at hl 4 rfl) ?_
  refine nf_callW (ex := (fun _ _ => False)) (As := [.long x4]) (st0 := [.long x4]) (rest := []) K hw (nf_invS hx hb K.2.2.2.1 (nf_Kg K nw_1124) (nf_Kg K nw_1125) (nf_Kg K nw_9) (nf_Kg K nw_1126) ⟨by decide, by decide⟩ rfl nl_M_amount rfl d_M_left_8) (c_M_amount l hfl x4) nw_1126 nw_9 rfl ⟨by decide, by decide⟩ (Nat.le_of_ble_eq_true rfl) hl.1 ⟨Nat.le_of_ble_eq_true rfl, Nat.le_of_ble_eq_true rfl⟩ h (fun _ _ h => h.elim) (fun r3 M4 H locs h hw => ?_)
  refine W.eq (g2 := F0 m 11 ls [.long r3]) rfl ?_
  refine lv_lstore (lv' := [(9, .long r3), (7, .long r1), (0, .ref (a 19)), (1, .long x1), (3, .int x3), (4, .long x4), (6, .int x6)]) hx hb d_M_left_11 hl (by decide) rfl (fun ls hl => ?_)
  refine lv_iload hx hb d_M_left_13 (lv_at hl 6 rfl) ?_
  refine lv_iload_n hx hb d_M_left_15 rfl (lv_at hl 4 rfl) ?_
  refine nf_ic_lt hx hb d_M_left_16 (tgt := 27) (by decide) (fun hc => ?_) (fun hc => ?_)
  · have h := h.1 hc
    refine lv_lload hx hb d_M_left_27 (lv_at hl 0 rfl) ?_
    refine lv_lload hx hb d_M_left_29 (lv_at hl 1 rfl) ?_
    refine lv_iload_n hx hb d_M_left_31 rfl (lv_at hl 4 rfl) ?_
    refine lv_iload hx hb d_M_left_32 (lv_at hl 6 rfl) ?_
    refine lv_isub hx hb d_M_left_34 ?_
    refine nf_callW (ex := (fun _ _ => False)) (As := [.int (x3 - x6)]) (st0 := [.int (x3 - x6), .long r1, .long r3]) (rest := [.long r1, .long r3]) K hw (nf_invS hx hb K.2.2.2.1 (nf_Kg K nw_1066) (nf_Kg K nw_1067) (nf_Kg K nw_9) (nf_Kg K nw_1068) ⟨by decide, by decide⟩ rfl nl_M_power rfl d_M_left_35) (c_M_power l hfl (x3 - x6)) nw_1068 nw_9 rfl ⟨by decide, by decide⟩ (Nat.le_of_ble_eq_true rfl) hl.1 ⟨Nat.le_of_ble_eq_true rfl, Nat.le_of_ble_eq_true rfl⟩ h (fun _ _ h => h.elim) (fun r5 M6 H locs h hw => ?_)
    refine W.eq (g2 := F0 m 38 ls [.long r5, .long r1, .long r3]) rfl ?_
    obtain ⟨g7, h⟩ := h
    refine lv_ldiv hx hb d_M_left_38 g7 ?_
    refine nf_lc_gt hx hb d_M_left_39 d_M_left_40 (tgt := 59) (by decide) (fun hc => ?_) (fun hc => ?_)
    · have h := h.1 hc
      refine lv_lload hx hb d_M_left_59 (lv_at hl 1 rfl) ?_
      exact w_M_left_61 hfl K x1 x3 x6 r3 r1 M6 _ _ _ h (lv_sub hl [2, 3, 4, 6, 0] rfl) hw
    · have h := h.2 hc
      refine lv_lload hx hb d_M_left_43 (lv_at hl 1 rfl) ?_
      refine lv_lload hx hb d_M_left_45 (lv_at hl 0 rfl) ?_
      refine lv_iload_n hx hb d_M_left_47 rfl (lv_at hl 4 rfl) ?_
      refine lv_iload hx hb d_M_left_48 (lv_at hl 6 rfl) ?_
      refine lv_isub hx hb d_M_left_50 ?_
      refine nf_callW (ex := (fun _ _ => False)) (As := [.int (x3 - x6)]) (st0 := [.int (x3 - x6), .long r3, .long r1]) (rest := [.long r3, .long r1]) K hw (nf_invS hx hb K.2.2.2.1 (nf_Kg K nw_1066) (nf_Kg K nw_1067) (nf_Kg K nw_9) (nf_Kg K nw_1068) ⟨by decide, by decide⟩ rfl nl_M_power rfl d_M_left_51) (c_M_power l hfl (x3 - x6)) nw_1068 nw_9 rfl ⟨by decide, by decide⟩ (Nat.le_of_ble_eq_true rfl) hl.1 ⟨Nat.le_of_ble_eq_true rfl, Nat.le_of_ble_eq_true rfl⟩ h (fun _ _ h => h.elim) (fun r8 M9 H locs h hw => ?_)
      refine W.eq (g2 := F0 m 54 ls [.long r8, .long r3, .long r1]) rfl ?_
      refine lv_lmul hx hb d_M_left_54 ?_
      obtain ⟨g10, h⟩ := h
      refine lv_lrem hx hb d_M_left_55 g10 ?_
      refine lv_goto hx hb d_M_left_56 (tgt := 61) (by decide) ?_
      exact w_M_left_61 hfl K x1 x3 x6 r3 (r1 - r1 / (r3 * r8) * (r3 * r8)) M9 _ _ _ h (lv_sub hl [2, 3, 4, 6, 0] rfl) hw
  · have h := h.2 hc
    refine lv_lload hx hb d_M_left_19 (lv_at hl 1 rfl) ?_
    refine lv_lload hx hb d_M_left_21 (lv_at hl 0 rfl) ?_
    obtain ⟨g11, h⟩ := h
    refine lv_lrem hx hb d_M_left_23 g11 ?_
    refine lv_goto hx hb d_M_left_24 (tgt := 61) (by decide) ?_
    exact w_M_left_61 hfl K x1 x3 x6 r3 (r1 - r1 / r3 * r3) M4 _ _ _ h (lv_sub hl [2, 3, 4, 6, 0] rfl) hw
theorem d_M_reckonExact_0 : decode nb_M_reckonExact 0 = .ok (.aload_n 0, 1) := by decide +kernel
theorem d_M_reckonExact_1 : decode nb_M_reckonExact 1 = .ok (.getfield 19, 3) := by decide +kernel
theorem d_M_reckonExact_4 : decode nb_M_reckonExact 4 = .ok (.iload_n 2, 1) := by decide +kernel
theorem d_M_reckonExact_5 : decode nb_M_reckonExact 5 = .ok (.laload, 1) := by decide +kernel
theorem d_M_reckonExact_6 : decode nb_M_reckonExact 6 = .ok (.lstore 4, 2) := by decide +kernel
theorem d_M_reckonExact_8 : decode nb_M_reckonExact 8 = .ok (.aload_n 0, 1) := by decide +kernel
theorem d_M_reckonExact_9 : decode nb_M_reckonExact 9 = .ok (.getfield 19, 3) := by decide +kernel
theorem d_M_reckonExact_12 : decode nb_M_reckonExact 12 = .ok (.iload_n 3, 1) := by decide +kernel
theorem d_M_reckonExact_13 : decode nb_M_reckonExact 13 = .ok (.laload, 1) := by decide +kernel
theorem d_M_reckonExact_14 : decode nb_M_reckonExact 14 = .ok (.lstore 6, 2) := by decide +kernel
theorem d_M_reckonExact_16 : decode nb_M_reckonExact 16 = .ok (.aload_n 0, 1) := by decide +kernel
theorem d_M_reckonExact_17 : decode nb_M_reckonExact 17 = .ok (.getfield 23, 3) := by decide +kernel
theorem d_M_reckonExact_20 : decode nb_M_reckonExact 20 = .ok (.iload_n 2, 1) := by decide +kernel
theorem d_M_reckonExact_21 : decode nb_M_reckonExact 21 = .ok (.iaload, 1) := by decide +kernel
theorem d_M_reckonExact_22 : decode nb_M_reckonExact 22 = .ok (.istore 8, 2) := by decide +kernel
theorem d_M_reckonExact_24 : decode nb_M_reckonExact 24 = .ok (.aload_n 0, 1) := by decide +kernel
theorem d_M_reckonExact_25 : decode nb_M_reckonExact 25 = .ok (.getfield 23, 3) := by decide +kernel
theorem d_M_reckonExact_28 : decode nb_M_reckonExact 28 = .ok (.iload_n 3, 1) := by decide +kernel
theorem d_M_reckonExact_29 : decode nb_M_reckonExact 29 = .ok (.iaload, 1) := by decide +kernel
theorem d_M_reckonExact_30 : decode nb_M_reckonExact 30 = .ok (.istore 9, 2) := by decide +kernel
theorem d_M_reckonExact_32 : decode nb_M_reckonExact 32 = .ok (.iload_n 1, 1) := by decide +kernel
theorem d_M_reckonExact_33 : decode nb_M_reckonExact 33 = .ok (.iconst 2, 1) := by decide +kernel
theorem d_M_reckonExact_34 : decode nb_M_reckonExact 34 = .ok (.if_icmp .le 18, 3) := by decide +kernel
theorem d_M_reckonExact_37 : decode nb_M_reckonExact 37 = .ok (.lload 6, 2) := by decide +kernel
theorem d_M_reckonExact_39 : decode nb_M_reckonExact 39 = .ok (.lconst 0, 1) := by decide +kernel
theorem d_M_reckonExact_40 : decode nb_M_reckonExact 40 = .ok (.lcmp, 1) := by decide +kernel
theorem d_M_reckonExact_41 : decode nb_M_reckonExact 41 = .ok (.ifCond .ne 11, 3) := by decide +kernel
theorem d_M_reckonExact_44 : decode nb_M_reckonExact 44 = .ok (.aload_n 0, 1) := by decide +kernel
theorem d_M_reckonExact_45 : decode nb_M_reckonExact 45 = .ok (.iconst 4, 1) := by decide +kernel
theorem d_M_reckonExact_46 : decode nb_M_reckonExact 46 = .ok (.putfield 67, 3) := by decide +kernel
theorem d_M_reckonExact_49 : decode nb_M_reckonExact 49 = .ok (.goto 95, 3) := by decide +kernel
theorem d_M_reckonExact_52 : decode nb_M_reckonExact 52 = .ok (.iload_n 1, 1) := by decide +kernel
theorem d_M_reckonExact_53 : decode nb_M_reckonExact 53 = .ok (.iconst 2, 1) := by decide +kernel
theorem d_M_reckonExact_54 : decode nb_M_reckonExact 54 = .ok (.if_icmp .ge 28, 3) := by decide +kernel
theorem d_M_reckonExact_57 : decode nb_M_reckonExact 57 = .ok (.aload_n 0, 1) := by decide +kernel
theorem d_M_reckonExact_58 : decode nb_M_reckonExact 58 = .ok (.lload 4, 2) := by decide +kernel
theorem d_M_reckonExact_60 : decode nb_M_reckonExact 60 = .ok (.iload 8, 2) := by decide +kernel
theorem d_M_reckonExact_62 : decode nb_M_reckonExact 62 = .ok (.iload_n 1, 1) := by decide +kernel
theorem d_M_reckonExact_63 : decode nb_M_reckonExact 63 = .ok (.ifCond .ne 8, 3) := by decide +kernel
theorem d_M_reckonExact_66 : decode nb_M_reckonExact 66 = .ok (.lload 6, 2) := by decide +kernel
theorem d_M_reckonExact_68 : decode nb_M_reckonExact 68 = .ok (.goto 6, 3) := by decide +kernel
theorem d_M_reckonExact_71 : decode nb_M_reckonExact 71 = .ok (.lload 6, 2) := by decide +kernel
theorem d_M_reckonExact_73 : decode nb_M_reckonExact 73 = .ok (.lneg, 1) := by decide +kernel
theorem d_M_reckonExact_74 : decode nb_M_reckonExact 74 = .ok (.iload 9, 2) := by decide +kernel
theorem d_M_reckonExact_76 : decode nb_M_reckonExact 76 = .ok (.invokevirtual 182, 3) := by decide +kernel
theorem d_M_reckonExact_79 : decode nb_M_reckonExact 79 = .ok (.goto 65, 3) := by decide +kernel
theorem d_M_reckonExact_82 : decode nb_M_reckonExact 82 = .ok (.iload_n 1, 1) := by decide +kernel
theorem d_M_reckonExact_83 : decode nb_M_reckonExact 83 = .ok (.iconst 2, 1) := by decide +kernel
theorem d_M_reckonExact_84 : decode nb_M_reckonExact 84 = .ok (.if_icmp .ne 18, 3) := by decide +kernel
theorem d_M_reckonExact_87 : decode nb_M_reckonExact 87 = .ok (.aload_n 0, 1) := by decide +kernel
theorem d_M_reckonExact_88 : decode nb_M_reckonExact 88 = .ok (.lload 4, 2) := by decide +kernel
theorem d_M_reckonExact_90 : decode nb_M_reckonExact 90 = .ok (.iload 8, 2) := by decide +kernel
theorem d_M_reckonExact_92 : decode nb_M_reckonExact 92 = .ok (.lload 6, 2) := by decide +kernel
theorem d_M_reckonExact_94 : decode nb_M_reckonExact 94 = .ok (.iload 9, 2) := by decide +kernel
theorem d_M_reckonExact_96 : decode nb_M_reckonExact 96 = .ok (.invokevirtual 186, 3) := by decide +kernel
theorem d_M_reckonExact_99 : decode nb_M_reckonExact 99 = .ok (.goto 45, 3) := by decide +kernel
theorem d_M_reckonExact_102 : decode nb_M_reckonExact 102 = .ok (.iload_n 1, 1) := by decide +kernel
theorem d_M_reckonExact_103 : decode nb_M_reckonExact 103 = .ok (.iconst 5, 1) := by decide +kernel
theorem d_M_reckonExact_104 : decode nb_M_reckonExact 104 = .ok (.if_icmp .ge 28, 3) := by decide +kernel
theorem d_M_reckonExact_107 : decode nb_M_reckonExact 107 = .ok (.aload_n 0, 1) := by decide +kernel
theorem d_M_reckonExact_108 : decode nb_M_reckonExact 108 = .ok (.lload 4, 2) := by decide +kernel
theorem d_M_reckonExact_110 : decode nb_M_reckonExact 110 = .ok (.iload 8, 2) := by decide +kernel
theorem d_M_reckonExact_112 : decode nb_M_reckonExact 112 = .ok (.lload 6, 2) := by decide +kernel
theorem d_M_reckonExact_114 : decode nb_M_reckonExact 114 = .ok (.iload 9, 2) := by decide +kernel
theorem d_M_reckonExact_116 : decode nb_M_reckonExact 116 = .ok (.iload_n 1, 1) := by decide +kernel
theorem d_M_reckonExact_117 : decode nb_M_reckonExact 117 = .ok (.iconst 3, 1) := by decide +kernel
theorem d_M_reckonExact_118 : decode nb_M_reckonExact 118 = .ok (.if_icmp .ne 7, 3) := by decide +kernel
theorem d_M_reckonExact_121 : decode nb_M_reckonExact 121 = .ok (.iconst 1, 1) := by decide +kernel
theorem d_M_reckonExact_122 : decode nb_M_reckonExact 122 = .ok (.goto 4, 3) := by decide +kernel
theorem d_M_reckonExact_125 : decode nb_M_reckonExact 125 = .ok (.iconst 0, 1) := by decide +kernel
theorem d_M_reckonExact_126 : decode nb_M_reckonExact 126 = .ok (.invokevirtual 189, 3) := by decide +kernel
theorem d_M_reckonExact_129 : decode nb_M_reckonExact 129 = .ok (.goto 15, 3) := by decide +kernel
theorem d_M_reckonExact_132 : decode nb_M_reckonExact 132 = .ok (.aload_n 0, 1) := by decide +kernel
theorem d_M_reckonExact_133 : decode nb_M_reckonExact 133 = .ok (.lload 4, 2) := by decide +kernel
theorem d_M_reckonExact_135 : decode nb_M_reckonExact 135 = .ok (.iload 8, 2) := by decide +kernel
theorem d_M_reckonExact_137 : decode nb_M_reckonExact 137 = .ok (.lload 6, 2) := by decide +kernel
theorem d_M_reckonExact_139 : decode nb_M_reckonExact 139 = .ok (.iload 9, 2) := by decide +kernel
theorem d_M_reckonExact_141 : decode nb_M_reckonExact 141 = .ok (.invokevirtual 193, 3) := by decide +kernel
theorem d_M_reckonExact_144 : decode nb_M_reckonExact 144 = .ok (.return_, 1) := by decide +kernel
abbrev rm_M_reckonExact : Room := ({ frames := 4, cells := 0, slots := 0, locals := 107 })
theorem w_M_reckonExact_144 {post : Unit → nf_M → Prop} (hfl : l.flags = flags0) (K : nf_K p s m args meth c "NumberForgeModel" nb_M_reckonExact 10 none D a sz) : ∀ (M : nf_M) (H : Heap) (locs : List Loc) (ls : Array Slot), B_M_reckonExact_144 post  M → lv_has ls 10 [] → nf_W D a s sz H locs M → W p l e rm_M_reckonExact s m args below meth c H locs 0 0 (nf_MQ below (nf_Q nf_jN D a post ex (nf_A a sz)) args s rm_M_reckonExact.cells rm_M_reckonExact.slots (nf_A a sz)) (F0 m 144 ls []) := by
  have hx := K.1
  have hb := K.2.1
  intro  M H locs ls h hl hw
  exact nf_vret K hw d_M_reckonExact_144 (Nat.le_of_ble_eq_true rfl) (Nat.le_of_ble_eq_true rfl) (r := ()) rfl h
theorem w_M_reckonExact_74 {post : Unit → nf_M → Prop} (hfl : l.flags = flags0) (K : nf_K p s m args meth c "NumberForgeModel" nb_M_reckonExact 10 none D a sz) : ∀ (x9 : Int32) (xy0 : Int64) (xy1 : Int32) (xy2 : Int64) (M : nf_M) (H : Heap) (locs : List Loc) (ls : Array Slot), B_M_reckonExact_74 post x9 xy0 xy1 xy2 M → lv_has ls 10 [(9, .int x9)] → nf_W D a s sz H locs M → W p l e rm_M_reckonExact s m args below meth c H locs 0 0 (nf_MQ below (nf_Q nf_jN D a post ex (nf_A a sz)) args s rm_M_reckonExact.cells rm_M_reckonExact.slots (nf_A a sz)) (F0 m 74 ls [.long xy0, .int xy1, .long xy2, .ref (a 19)]) := by
  have hx := K.1
  have hb := K.2.1
  intro x9 xy0 xy1 xy2 M H locs ls h hl hw
  refine lv_iload hx hb d_M_reckonExact_74 (lv_at hl 0 rfl) ?_
  refine nf_callW (ex := (fun _ _ => False)) (As := [.ref (a 19), .long xy2, .int xy1, .long xy0, .int x9]) (st0 := [.int x9, .long xy0, .int xy1, .long xy2, .ref (a 19)]) (rest := []) K hw (nf_invV hx hb K.2.2.2.1 (nf_Kg K nw_1116) (nf_Kg K nw_1118) (nf_Kg K nx_M_sum) (nf_Kg K nw_1119) ⟨by decide, by decide⟩ (nf_rcv K hw 19 7 rfl rfl) rfl nl_M_sum rfl d_M_reckonExact_76) (c_M_sum l hfl xy2 xy1 xy0 x9) nw_1119 nw_9 rfl ⟨by decide, by decide⟩ (Nat.le_of_ble_eq_true rfl) hl.1 ⟨Nat.le_of_ble_eq_true rfl, Nat.le_of_ble_eq_true rfl⟩ h (fun _ _ h => h.elim) (fun r1 M2 H locs h hw => ?_)
  refine W.eq (g2 := F0 m 79 ls []) rfl ?_
  refine lv_goto hx hb d_M_reckonExact_79 (tgt := 144) (by decide) ?_
  exact w_M_reckonExact_144 hfl K  M2 _ _ _ h (lv_sub hl [] rfl) hw
theorem w_M_reckonExact_126 {post : Unit → nf_M → Prop} (hfl : l.flags = flags0) (K : nf_K p s m args meth c "NumberForgeModel" nb_M_reckonExact 10 none D a sz) : ∀ (xy0 : Int32) (xy1 : Int32) (xy2 : Int64) (xy3 : Int32) (xy4 : Int64) (M : nf_M) (H : Heap) (locs : List Loc) (ls : Array Slot), B_M_reckonExact_126 post xy0 xy1 xy2 xy3 xy4 M → lv_has ls 10 [] → nf_W D a s sz H locs M → W p l e rm_M_reckonExact s m args below meth c H locs 0 0 (nf_MQ below (nf_Q nf_jN D a post ex (nf_A a sz)) args s rm_M_reckonExact.cells rm_M_reckonExact.slots (nf_A a sz)) (F0 m 126 ls [.int xy0, .int xy1, .long xy2, .int xy3, .long xy4, .ref (a 19)]) := by
  have hx := K.1
  have hb := K.2.1
  intro xy0 xy1 xy2 xy3 xy4 M H locs ls h hl hw
  refine nf_callW (ex := (fun _ _ => False)) (As := [.ref (a 19), .long xy4, .int xy3, .long xy2, .int xy1, .int xy0]) (st0 := [.int xy0, .int xy1, .long xy2, .int xy3, .long xy4, .ref (a 19)]) (rest := []) K hw (nf_invV hx hb K.2.2.2.1 (nf_Kg K nw_1136) (nf_Kg K nw_1138) (nf_Kg K nx_M_quotient) (nf_Kg K nw_1139) ⟨by decide, by decide⟩ (nf_rcv K hw 19 7 rfl rfl) rfl nl_M_quotient rfl d_M_reckonExact_126) (c_M_quotient l hfl xy4 xy3 xy2 xy1 xy0) nw_1139 nw_9 rfl ⟨by decide, by decide⟩ (Nat.le_of_ble_eq_true rfl) hl.1 ⟨Nat.le_of_ble_eq_true rfl, Nat.le_of_ble_eq_true rfl⟩ h (fun _ _ h => h.elim) (fun r1 M2 H locs h hw => ?_)
  refine W.eq (g2 := F0 m 129 ls []) rfl ?_
  refine lv_goto hx hb d_M_reckonExact_129 (tgt := 144) (by decide) ?_
  exact w_M_reckonExact_144 hfl K  M2 _ _ _ h (lv_sub hl [] rfl) hw
theorem w_M_reckonExact_52 {post : Unit → nf_M → Prop} (hfl : l.flags = flags0) (K : nf_K p s m args meth c "NumberForgeModel" nb_M_reckonExact 10 none D a sz) : ∀ (x1 : Int32) (x4 : Int64) (x6 : Int64) (x8 : Int32) (x9 : Int32) (M : nf_M) (H : Heap) (locs : List Loc) (ls : Array Slot), B_M_reckonExact_52 post x1 x4 x6 x8 x9 M → lv_has ls 10 [(0, .ref (a 19)), (1, .int x1), (4, .long x4), (6, .long x6), (8, .int x8), (9, .int x9)] → nf_W D a s sz H locs M → W p l e rm_M_reckonExact s m args below meth c H locs 0 0 (nf_MQ below (nf_Q nf_jN D a post ex (nf_A a sz)) args s rm_M_reckonExact.cells rm_M_reckonExact.slots (nf_A a sz)) (F0 m 52 ls []) := by
  have hx := K.1
  have hb := K.2.1
  intro x1 x4 x6 x8 x9 M H locs ls h hl hw
  refine lv_iload_n hx hb d_M_reckonExact_52 rfl (lv_at hl 1 rfl) ?_
  refine lv_iconst (v := (2 : Int32)) hx hb d_M_reckonExact_53 (by decide) ?_
  refine nf_ic_ge hx hb d_M_reckonExact_54 (tgt := 82) (by decide) (fun hc => ?_) (fun hc => ?_)
  · have h := h.1 hc
    refine lv_aload_n hx hb d_M_reckonExact_57 rfl (lv_at hl 0 rfl) ?_
    refine lv_lload hx hb d_M_reckonExact_58 (lv_at hl 2 rfl) ?_
    refine lv_iload hx hb d_M_reckonExact_60 (lv_at hl 4 rfl) ?_
    refine lv_iload_n hx hb d_M_reckonExact_62 rfl (lv_at hl 1 rfl) ?_
    refine nf_if_ne hx hb d_M_reckonExact_63 (tgt := 71) (by decide) (fun hc => ?_) (fun hc => ?_)
    · have h := h.1 hc
      refine lv_lload hx hb d_M_reckonExact_66 (lv_at hl 3 rfl) ?_
      refine lv_goto hx hb d_M_reckonExact_68 (tgt := 74) (by decide) ?_
      exact w_M_reckonExact_74 hfl K x9 x6 x8 x4 M _ _ _ h (lv_sub hl [5] rfl) hw
    · have h := h.2 hc
      refine lv_lload hx hb d_M_reckonExact_71 (lv_at hl 3 rfl) ?_
      refine lv_lneg hx hb d_M_reckonExact_73 ?_
      exact w_M_reckonExact_74 hfl K x9 (-x6) x8 x4 M _ _ _ h (lv_sub hl [5] rfl) hw
  · have h := h.2 hc
    refine lv_iload_n hx hb d_M_reckonExact_82 rfl (lv_at hl 1 rfl) ?_
    refine lv_iconst (v := (2 : Int32)) hx hb d_M_reckonExact_83 (by decide) ?_
    refine nf_ic_ne hx hb d_M_reckonExact_84 (tgt := 102) (by decide) (fun hc => ?_) (fun hc => ?_)
    · have h := h.1 hc
      refine lv_aload_n hx hb d_M_reckonExact_87 rfl (lv_at hl 0 rfl) ?_
      refine lv_lload hx hb d_M_reckonExact_88 (lv_at hl 2 rfl) ?_
      refine lv_iload hx hb d_M_reckonExact_90 (lv_at hl 4 rfl) ?_
      refine lv_lload hx hb d_M_reckonExact_92 (lv_at hl 3 rfl) ?_
      refine lv_iload hx hb d_M_reckonExact_94 (lv_at hl 5 rfl) ?_
      refine nf_callW (ex := (fun _ _ => False)) (As := [.ref (a 19), .long x4, .int x8, .long x6, .int x9]) (st0 := [.int x9, .long x6, .int x8, .long x4, .ref (a 19)]) (rest := []) K hw (nf_invV hx hb K.2.2.2.1 (nf_Kg K nw_1131) (nf_Kg K nw_1133) (nf_Kg K nx_M_product) (nf_Kg K nw_1134) ⟨by decide, by decide⟩ (nf_rcv K hw 19 7 rfl rfl) rfl nl_M_product rfl d_M_reckonExact_96) (c_M_product l hfl x4 x8 x6 x9) nw_1134 nw_9 rfl ⟨by decide, by decide⟩ (Nat.le_of_ble_eq_true rfl) hl.1 ⟨Nat.le_of_ble_eq_true rfl, Nat.le_of_ble_eq_true rfl⟩ h (fun _ _ h => h.elim) (fun r1 M2 H locs h hw => ?_)
      refine W.eq (g2 := F0 m 99 ls []) rfl ?_
      refine lv_goto hx hb d_M_reckonExact_99 (tgt := 144) (by decide) ?_
      exact w_M_reckonExact_144 hfl K  M2 _ _ _ h (lv_sub hl [] rfl) hw
    · have h := h.2 hc
      refine lv_iload_n hx hb d_M_reckonExact_102 rfl (lv_at hl 1 rfl) ?_
      refine lv_iconst (v := (5 : Int32)) hx hb d_M_reckonExact_103 (by decide) ?_
      refine nf_ic_ge hx hb d_M_reckonExact_104 (tgt := 132) (by decide) (fun hc => ?_) (fun hc => ?_)
      · have h := h.1 hc
        refine lv_aload_n hx hb d_M_reckonExact_107 rfl (lv_at hl 0 rfl) ?_
        refine lv_lload hx hb d_M_reckonExact_108 (lv_at hl 2 rfl) ?_
        refine lv_iload hx hb d_M_reckonExact_110 (lv_at hl 4 rfl) ?_
        refine lv_lload hx hb d_M_reckonExact_112 (lv_at hl 3 rfl) ?_
        refine lv_iload hx hb d_M_reckonExact_114 (lv_at hl 5 rfl) ?_
        refine lv_iload_n hx hb d_M_reckonExact_116 rfl (lv_at hl 1 rfl) ?_
        refine lv_iconst (v := (3 : Int32)) hx hb d_M_reckonExact_117 (by decide) ?_
        refine nf_ic_ne hx hb d_M_reckonExact_118 (tgt := 125) (by decide) (fun hc => ?_) (fun hc => ?_)
        · have h := h.1 hc
          refine lv_iconst (v := (1 : Int32)) hx hb d_M_reckonExact_121 (by decide) ?_
          refine lv_goto hx hb d_M_reckonExact_122 (tgt := 126) (by decide) ?_
          exact w_M_reckonExact_126 hfl K (1 : Int32) x9 x6 x8 x4 M _ _ _ h (lv_sub hl [] rfl) hw
        · have h := h.2 hc
          refine lv_iconst (v := (0 : Int32)) hx hb d_M_reckonExact_125 (by decide) ?_
          exact w_M_reckonExact_126 hfl K (0 : Int32) x9 x6 x8 x4 M _ _ _ h (lv_sub hl [] rfl) hw
      · have h := h.2 hc
        refine lv_aload_n hx hb d_M_reckonExact_132 rfl (lv_at hl 0 rfl) ?_
        refine lv_lload hx hb d_M_reckonExact_133 (lv_at hl 2 rfl) ?_
        refine lv_iload hx hb d_M_reckonExact_135 (lv_at hl 4 rfl) ?_
        refine lv_lload hx hb d_M_reckonExact_137 (lv_at hl 3 rfl) ?_
        refine lv_iload hx hb d_M_reckonExact_139 (lv_at hl 5 rfl) ?_
        refine nf_callW (ex := (fun _ _ => False)) (As := [.ref (a 19), .long x4, .int x8, .long x6, .int x9]) (st0 := [.int x9, .long x6, .int x8, .long x4, .ref (a 19)]) (rest := []) K hw (nf_invV hx hb K.2.2.2.1 (nf_Kg K nw_1140) (nf_Kg K nw_1142) (nf_Kg K nx_M_left) (nf_Kg K nw_1143) ⟨by decide, by decide⟩ (nf_rcv K hw 19 7 rfl rfl) rfl nl_M_left rfl d_M_reckonExact_141) (c_M_left l hfl x4 x8 x6 x9) nw_1143 nw_9 rfl ⟨by decide, by decide⟩ (Nat.le_of_ble_eq_true rfl) hl.1 ⟨Nat.le_of_ble_eq_true rfl, Nat.le_of_ble_eq_true rfl⟩ h (fun _ _ h => h.elim) (fun r3 M4 H locs h hw => ?_)
        refine W.eq (g2 := F0 m 144 ls []) rfl ?_
        exact w_M_reckonExact_144 hfl K  M4 _ _ _ h (lv_sub hl [] rfl) hw
theorem c_M_reckonExact (l : Launch) (hfl : l.flags = flags0) (x1 : Int32) (x2 : Int32) (x3 : Int32) : nf_C nf_jN l nm_M_reckonExact nb_M_reckonExact 10 none rm_M_reckonExact (fun a => [.ref (a 19), .int x1, .int x2, .int x3]) (fun M post ex => P_M_reckonExact x1 x2 x3 M post) := by
  refine nf_start (plainFor_of_name (by decide +kernel)) (fun a => Nat.le_of_ble_eq_true rfl) ?_
  intro D a sz M post ex p e s m below meth c ls h K hl hw
  have hx := K.1
  have hb := K.2.1
  have hl : lv_has ls 10 [(0, .ref (a 19)), (1, .int x1), (2, .int x2), (3, .int x3)] := hl
  refine lv_aload_n hx hb d_M_reckonExact_0 rfl (lv_at hl 0 rfl) ?_
  refine nf_get (v := .ref (a 23)) K hw 19 7 6 nw_937 rfl rfl ni_M (by decide) rfl rfl d_M_reckonExact_1 ?_
  refine lv_iload_n hx hb d_M_reckonExact_4 rfl (lv_at hl 2 rfl) ?_
  obtain ⟨g1, h⟩ := h
  refine nf_lald K hw 23 6 rfl rfl g1 d_M_reckonExact_5 ?_
  refine lv_topl (fun t2 et2 => ?_)
  have h := h t2 et2
  refine lv_lstore (lv' := [(4, .long t2), (0, .ref (a 19)), (1, .int x1), (2, .int x2), (3, .int x3)]) hx hb d_M_reckonExact_6 hl (by decide) rfl (fun ls hl => ?_)
  refine lv_aload_n hx hb d_M_reckonExact_8 rfl (lv_at hl 1 rfl) ?_
  refine nf_get (v := .ref (a 23)) K hw 19 7 6 nw_937 rfl rfl ni_M (by decide) rfl rfl d_M_reckonExact_9 ?_
  refine lv_iload_n hx hb d_M_reckonExact_12 rfl (lv_at hl 4 rfl) ?_
  obtain ⟨g3, h⟩ := h
  refine nf_lald K hw 23 6 rfl rfl g3 d_M_reckonExact_13 ?_
  refine lv_topl (fun t4 et4 => ?_)
  have h := h t4 et4
  refine lv_lstore (lv' := [(6, .long t4), (4, .long t2), (0, .ref (a 19)), (1, .int x1), (2, .int x2), (3, .int x3)]) hx hb d_M_reckonExact_14 hl (by decide) rfl (fun ls hl => ?_)
  refine lv_aload_n hx hb d_M_reckonExact_16 rfl (lv_at hl 2 rfl) ?_
  refine nf_get (v := .ref (a 24)) K hw 19 7 7 nw_938 rfl rfl ni_M (by decide) rfl rfl d_M_reckonExact_17 ?_
  refine lv_iload_n hx hb d_M_reckonExact_20 rfl (lv_at hl 4 rfl) ?_
  obtain ⟨g5, h⟩ := h
  refine nf_iald K hw 24 7 rfl rfl g5 d_M_reckonExact_21 ?_
  refine lv_topi (fun t6 et6 => ?_)
  have h := h t6 et6
  refine lv_istore (lv' := [(8, .int t6), (6, .long t4), (4, .long t2), (0, .ref (a 19)), (1, .int x1), (2, .int x2), (3, .int x3)]) hx hb d_M_reckonExact_22 hl (by decide) rfl (fun ls hl => ?_)
  refine lv_aload_n hx hb d_M_reckonExact_24 rfl (lv_at hl 3 rfl) ?_
  refine nf_get (v := .ref (a 24)) K hw 19 7 7 nw_938 rfl rfl ni_M (by decide) rfl rfl d_M_reckonExact_25 ?_
  refine lv_iload_n hx hb d_M_reckonExact_28 rfl (lv_at hl 6 rfl) ?_
  obtain ⟨g7, h⟩ := h
  refine nf_iald K hw 24 7 rfl rfl g7 d_M_reckonExact_29 ?_
  refine lv_topi (fun t8 et8 => ?_)
  have h := h t8 et8
  refine lv_istore (lv' := [(9, .int t8), (8, .int t6), (6, .long t4), (4, .long t2), (0, .ref (a 19)), (1, .int x1), (2, .int x2), (3, .int x3)]) hx hb d_M_reckonExact_30 hl (by decide) rfl (fun ls hl => ?_)
  refine lv_iload_n hx hb d_M_reckonExact_32 rfl (lv_at hl 5 rfl) ?_
  refine lv_iconst (v := (2 : Int32)) hx hb d_M_reckonExact_33 (by decide) ?_
  refine nf_ic_le hx hb d_M_reckonExact_34 (tgt := 52) (by decide) (fun hc => ?_) (fun hc => ?_)
  · have h := h.1 hc
    refine lv_lload hx hb d_M_reckonExact_37 (lv_at hl 2 rfl) ?_
    refine lv_lconst (v := (0 : Int64)) hx hb d_M_reckonExact_39 (by decide) ?_
    refine nf_lc_ne hx hb d_M_reckonExact_40 d_M_reckonExact_41 (tgt := 52) (by decide) (fun hc => ?_) (fun hc => ?_)
    · have h := h.1 hc
      refine lv_aload_n hx hb d_M_reckonExact_44 rfl (lv_at hl 4 rfl) ?_
      refine lv_iconst (v := (4 : Int32)) hx hb d_M_reckonExact_45 (by decide) ?_
      refine nf_put (M' := ms_I M 19 9 (4 : Int32)) K hw 19 7 9 nw_940 rfl rfl rfl ni_M ny_M nq_M nn_M (by decide) rfl rfl rfl rfl (Nat.le_of_ble_eq_true rfl) d_M_reckonExact_46 (fun H locs hw => ?_)
      obtain ⟨M9, eM9⟩ : ∃ z, z = ms_I M 19 9 (4 : Int32) := ⟨_, rfl⟩
      rw [← eM9] at hw
      have h := h M9 eM9
      refine lv_goto hx hb d_M_reckonExact_49 (tgt := 144) (by decide) ?_
      exact w_M_reckonExact_144 hfl K  M9 _ _ _ h (lv_sub hl [] rfl) hw
    · have h := h.2 hc
      exact w_M_reckonExact_52 hfl K x1 t2 t4 t6 t8 M _ _ _ h (lv_sub hl [4, 5, 3, 2, 1, 0] rfl) hw
  · have h := h.2 hc
    exact w_M_reckonExact_52 hfl K x1 t2 t4 t6 t8 M _ _ _ h (lv_sub hl [4, 5, 3, 2, 1, 0] rfl) hw
theorem d_M_reckon_0 : decode nb_M_reckon 0 = .ok (.aload_n 0, 1) := by decide +kernel
theorem d_M_reckon_1 : decode nb_M_reckon 1 = .ok (.iload_n 2, 1) := by decide +kernel
theorem d_M_reckon_2 : decode nb_M_reckon 2 = .ok (.invokestatic 148, 3) := by decide +kernel
theorem d_M_reckon_5 : decode nb_M_reckon 5 = .ok (.ifCond .eq 27, 3) := by decide +kernel
theorem d_M_reckon_8 : decode nb_M_reckon 8 = .ok (.iload_n 3, 1) := by decide +kernel
theorem d_M_reckon_9 : decode nb_M_reckon 9 = .ok (.invokestatic 148, 3) := by decide +kernel
theorem d_M_reckon_12 : decode nb_M_reckon 12 = .ok (.ifCond .eq 20, 3) := by decide +kernel
theorem d_M_reckon_15 : decode nb_M_reckon 15 = .ok (.iload 4, 2) := by decide +kernel
theorem d_M_reckon_17 : decode nb_M_reckon 17 = .ok (.invokestatic 148, 3) := by decide +kernel
theorem d_M_reckon_20 : decode nb_M_reckon 20 = .ok (.ifCond .eq 12, 3) := by decide +kernel
theorem d_M_reckon_23 : decode nb_M_reckon 23 = .ok (.iload_n 1, 1) := by decide +kernel
theorem d_M_reckon_24 : decode nb_M_reckon 24 = .ok (.ifCond .lt 8, 3) := by decide +kernel
theorem d_M_reckon_27 : decode nb_M_reckon 27 = .ok (.iload_n 1, 1) := by decide +kernel
theorem d_M_reckon_28 : decode nb_M_reckon 28 = .ok (.iconst 5, 1) := by decide +kernel
theorem d_M_reckon_29 : decode nb_M_reckon 29 = .ok (.if_icmp .le 7, 3) := by decide +kernel
theorem d_M_reckon_32 : decode nb_M_reckon 32 = .ok (.iconst 1, 1) := by decide +kernel
theorem d_M_reckon_33 : decode nb_M_reckon 33 = .ok (.goto 26, 3) := by decide +kernel
theorem d_M_reckon_36 : decode nb_M_reckon 36 = .ok (.aload_n 0, 1) := by decide +kernel
theorem d_M_reckon_37 : decode nb_M_reckon 37 = .ok (.getfield 16, 3) := by decide +kernel
theorem d_M_reckon_40 : decode nb_M_reckon 40 = .ok (.iload_n 2, 1) := by decide +kernel
theorem d_M_reckon_41 : decode nb_M_reckon 41 = .ok (.iaload, 1) := by decide +kernel
theorem d_M_reckon_42 : decode nb_M_reckon 42 = .ok (.ifCond .lt 12, 3) := by decide +kernel
theorem d_M_reckon_45 : decode nb_M_reckon 45 = .ok (.aload_n 0, 1) := by decide +kernel
theorem d_M_reckon_46 : decode nb_M_reckon 46 = .ok (.getfield 16, 3) := by decide +kernel
theorem d_M_reckon_49 : decode nb_M_reckon 49 = .ok (.iload_n 3, 1) := by decide +kernel
theorem d_M_reckon_50 : decode nb_M_reckon 50 = .ok (.iaload, 1) := by decide +kernel
theorem d_M_reckon_51 : decode nb_M_reckon 51 = .ok (.ifCond .ge 7, 3) := by decide +kernel
theorem d_M_reckon_54 : decode nb_M_reckon 54 = .ok (.iconst 2, 1) := by decide +kernel
theorem d_M_reckon_55 : decode nb_M_reckon 55 = .ok (.goto 4, 3) := by decide +kernel
theorem d_M_reckon_58 : decode nb_M_reckon 58 = .ok (.iconst 0, 1) := by decide +kernel
theorem d_M_reckon_59 : decode nb_M_reckon 59 = .ok (.putfield 33, 3) := by decide +kernel
theorem d_M_reckon_62 : decode nb_M_reckon 62 = .ok (.aload_n 0, 1) := by decide +kernel
theorem d_M_reckon_63 : decode nb_M_reckon 63 = .ok (.getfield 33, 3) := by decide +kernel
theorem d_M_reckon_66 : decode nb_M_reckon 66 = .ok (.ifCond .le 4, 3) := by decide +kernel
theorem d_M_reckon_69 : decode nb_M_reckon 69 = .ok (.return_, 1) := by decide +kernel
theorem d_M_reckon_70 : decode nb_M_reckon 70 = .ok (.aload_n 0, 1) := by decide +kernel
theorem d_M_reckon_71 : decode nb_M_reckon 71 = .ok (.iconst 0, 1) := by decide +kernel
theorem d_M_reckon_72 : decode nb_M_reckon 72 = .ok (.putfield 67, 3) := by decide +kernel
theorem d_M_reckon_75 : decode nb_M_reckon 75 = .ok (.aload_n 0, 1) := by decide +kernel
theorem d_M_reckon_76 : decode nb_M_reckon 76 = .ok (.iload_n 2, 1) := by decide +kernel
theorem d_M_reckon_77 : decode nb_M_reckon 77 = .ok (.iload_n 3, 1) := by decide +kernel
theorem d_M_reckon_78 : decode nb_M_reckon 78 = .ok (.invokevirtual 196, 3) := by decide +kernel
theorem d_M_reckon_81 : decode nb_M_reckon 81 = .ok (.istore 5, 2) := by decide +kernel
theorem d_M_reckon_83 : decode nb_M_reckon 83 = .ok (.iload 5, 2) := by decide +kernel
theorem d_M_reckon_85 : decode nb_M_reckon 85 = .ok (.bipush 9, 2) := by decide +kernel
theorem d_M_reckon_87 : decode nb_M_reckon 87 = .ok (.if_icmp .ne 21, 3) := by decide +kernel
theorem d_M_reckon_90 : decode nb_M_reckon 90 = .ok (.aload_n 0, 1) := by decide +kernel
theorem d_M_reckon_91 : decode nb_M_reckon 91 = .ok (.iload_n 1, 1) := by decide +kernel
theorem d_M_reckon_92 : decode nb_M_reckon 92 = .ok (.aload_n 0, 1) := by decide +kernel
theorem d_M_reckon_93 : decode nb_M_reckon 93 = .ok (.iload_n 2, 1) := by decide +kernel
theorem d_M_reckon_94 : decode nb_M_reckon 94 = .ok (.invokevirtual 200, 3) := by decide +kernel
theorem d_M_reckon_97 : decode nb_M_reckon 97 = .ok (.aload_n 0, 1) := by decide +kernel
theorem d_M_reckon_98 : decode nb_M_reckon 98 = .ok (.iload_n 3, 1) := by decide +kernel
theorem d_M_reckon_99 : decode nb_M_reckon 99 = .ok (.invokevirtual 200, 3) := by decide +kernel
theorem d_M_reckon_102 : decode nb_M_reckon 102 = .ok (.invokevirtual 203, 3) := by decide +kernel
theorem d_M_reckon_105 : decode nb_M_reckon 105 = .ok (.goto 37, 3) := by decide +kernel
theorem d_M_reckon_108 : decode nb_M_reckon 108 = .ok (.iload 5, 2) := by decide +kernel
theorem d_M_reckon_110 : decode nb_M_reckon 110 = .ok (.bipush 8, 2) := by decide +kernel
theorem d_M_reckon_112 : decode nb_M_reckon 112 = .ok (.if_icmp .ne 23, 3) := by decide +kernel
theorem d_M_reckon_115 : decode nb_M_reckon 115 = .ok (.aload_n 0, 1) := by decide +kernel
theorem d_M_reckon_116 : decode nb_M_reckon 116 = .ok (.iload_n 1, 1) := by decide +kernel
theorem d_M_reckon_117 : decode nb_M_reckon 117 = .ok (.aload_n 0, 1) := by decide +kernel
theorem d_M_reckon_118 : decode nb_M_reckon 118 = .ok (.iload_n 2, 1) := by decide +kernel
theorem d_M_reckon_119 : decode nb_M_reckon 119 = .ok (.invokevirtual 200, 3) := by decide +kernel
theorem d_M_reckon_122 : decode nb_M_reckon 122 = .ok (.d2f, 1) := by decide +kernel
theorem d_M_reckon_123 : decode nb_M_reckon 123 = .ok (.aload_n 0, 1) := by decide +kernel
theorem d_M_reckon_124 : decode nb_M_reckon 124 = .ok (.iload_n 3, 1) := by decide +kernel
theorem d_M_reckon_125 : decode nb_M_reckon 125 = .ok (.invokevirtual 200, 3) := by decide +kernel
theorem d_M_reckon_128 : decode nb_M_reckon 128 = .ok (.d2f, 1) := by decide +kernel
theorem d_M_reckon_129 : decode nb_M_reckon 129 = .ok (.invokevirtual 207, 3) := by decide +kernel
theorem d_M_reckon_132 : decode nb_M_reckon 132 = .ok (.goto 10, 3) := by decide +kernel
theorem d_M_reckon_135 : decode nb_M_reckon 135 = .ok (.aload_n 0, 1) := by decide +kernel
theorem d_M_reckon_136 : decode nb_M_reckon 136 = .ok (.iload_n 1, 1) := by decide +kernel
theorem d_M_reckon_137 : decode nb_M_reckon 137 = .ok (.iload_n 2, 1) := by decide +kernel
theorem d_M_reckon_138 : decode nb_M_reckon 138 = .ok (.iload_n 3, 1) := by decide +kernel
theorem d_M_reckon_139 : decode nb_M_reckon 139 = .ok (.invokevirtual 211, 3) := by decide +kernel
theorem d_M_reckon_142 : decode nb_M_reckon 142 = .ok (.aload_n 0, 1) := by decide +kernel
theorem d_M_reckon_143 : decode nb_M_reckon 143 = .ok (.aload_n 0, 1) := by decide +kernel
theorem d_M_reckon_144 : decode nb_M_reckon 144 = .ok (.getfield 67, 3) := by decide +kernel
theorem d_M_reckon_147 : decode nb_M_reckon 147 = .ok (.iconst 4, 1) := by decide +kernel
theorem d_M_reckon_148 : decode nb_M_reckon 148 = .ok (.if_icmp .ne 7, 3) := by decide +kernel
theorem d_M_reckon_151 : decode nb_M_reckon 151 = .ok (.iconst 3, 1) := by decide +kernel
theorem d_M_reckon_152 : decode nb_M_reckon 152 = .ok (.goto 16, 3) := by decide +kernel
theorem d_M_reckon_155 : decode nb_M_reckon 155 = .ok (.aload_n 0, 1) := by decide +kernel
theorem d_M_reckon_156 : decode nb_M_reckon 156 = .ok (.getfield 67, 3) := by decide +kernel
theorem d_M_reckon_159 : decode nb_M_reckon 159 = .ok (.iconst 5, 1) := by decide +kernel
theorem d_M_reckon_160 : decode nb_M_reckon 160 = .ok (.if_icmp .ne 7, 3) := by decide +kernel
theorem d_M_reckon_163 : decode nb_M_reckon 163 = .ok (.iconst 4, 1) := by decide +kernel
theorem d_M_reckon_164 : decode nb_M_reckon 164 = .ok (.goto 4, 3) := by decide +kernel
theorem d_M_reckon_167 : decode nb_M_reckon 167 = .ok (.iconst 0, 1) := by decide +kernel
theorem d_M_reckon_168 : decode nb_M_reckon 168 = .ok (.putfield 33, 3) := by decide +kernel
theorem d_M_reckon_171 : decode nb_M_reckon 171 = .ok (.aload_n 0, 1) := by decide +kernel
theorem d_M_reckon_172 : decode nb_M_reckon 172 = .ok (.getfield 33, 3) := by decide +kernel
theorem d_M_reckon_175 : decode nb_M_reckon 175 = .ok (.ifCond .ne 35, 3) := by decide +kernel
theorem d_M_reckon_178 : decode nb_M_reckon 178 = .ok (.aload_n 0, 1) := by decide +kernel
theorem d_M_reckon_179 : decode nb_M_reckon 179 = .ok (.iload 4, 2) := by decide +kernel
theorem d_M_reckon_181 : decode nb_M_reckon 181 = .ok (.iload_n 1, 1) := by decide +kernel
theorem d_M_reckon_182 : decode nb_M_reckon 182 = .ok (.iconst 4, 1) := by decide +kernel
theorem d_M_reckon_183 : decode nb_M_reckon 183 = .ok (.if_icmp .ne 7, 3) := by decide +kernel
theorem d_M_reckon_186 : decode nb_M_reckon 186 = .ok (.iconst 1, 1) := by decide +kernel
theorem d_M_reckon_187 : decode nb_M_reckon 187 = .ok (.goto 20, 3) := by decide +kernel
theorem d_M_reckon_190 : decode nb_M_reckon 190 = .ok (.iload_n 1, 1) := by decide +kernel
theorem d_M_reckon_191 : decode nb_M_reckon 191 = .ok (.iconst 3, 1) := by decide +kernel
theorem d_M_reckon_192 : decode nb_M_reckon 192 = .ok (.if_icmp .ne 13, 3) := by decide +kernel
theorem d_M_reckon_195 : decode nb_M_reckon 195 = .ok (.iload 5, 2) := by decide +kernel
theorem d_M_reckon_197 : decode nb_M_reckon 197 = .ok (.iconst 2, 1) := by decide +kernel
theorem d_M_reckon_198 : decode nb_M_reckon 198 = .ok (.if_icmp .ge 7, 3) := by decide +kernel
theorem d_M_reckon_201 : decode nb_M_reckon 201 = .ok (.iconst 0, 1) := by decide +kernel
theorem d_M_reckon_202 : decode nb_M_reckon 202 = .ok (.goto 5, 3) := by decide +kernel
theorem d_M_reckon_205 : decode nb_M_reckon 205 = .ok (.iload 5, 2) := by decide +kernel
theorem d_M_reckon_207 : decode nb_M_reckon 207 = .ok (.invokevirtual 158, 3) := by decide +kernel
theorem d_M_reckon_210 : decode nb_M_reckon 210 = .ok (.return_, 1) := by decide +kernel
abbrev rm_M_reckon : Room := ({ frames := 5, cells := 0, slots := 0, locals := 136 })
theorem w_M_reckon_210 {post : Unit → nf_M → Prop} (hfl : l.flags = flags0) (K : nf_K p s m args meth c "NumberForgeModel" nb_M_reckon 6 none D a sz) : ∀ (M : nf_M) (H : Heap) (locs : List Loc) (ls : Array Slot), B_M_reckon_210 post  M → lv_has ls 6 [] → nf_W D a s sz H locs M → W p l e rm_M_reckon s m args below meth c H locs 0 0 (nf_MQ below (nf_Q nf_jN D a post ex (nf_A a sz)) args s rm_M_reckon.cells rm_M_reckon.slots (nf_A a sz)) (F0 m 210 ls []) := by
  have hx := K.1
  have hb := K.2.1
  intro  M H locs ls h hl hw
  exact nf_vret K hw d_M_reckon_210 (Nat.le_of_ble_eq_true rfl) (Nat.le_of_ble_eq_true rfl) (r := ()) rfl h
theorem w_M_reckon_207 {post : Unit → nf_M → Prop} (hfl : l.flags = flags0) (K : nf_K p s m args meth c "NumberForgeModel" nb_M_reckon 6 none D a sz) : ∀ (xy0 : Int32) (xy1 : Int32) (M : nf_M) (H : Heap) (locs : List Loc) (ls : Array Slot), B_M_reckon_207 post xy0 xy1 M → lv_has ls 6 [] → nf_W D a s sz H locs M → W p l e rm_M_reckon s m args below meth c H locs 0 0 (nf_MQ below (nf_Q nf_jN D a post ex (nf_A a sz)) args s rm_M_reckon.cells rm_M_reckon.slots (nf_A a sz)) (F0 m 207 ls [.int xy0, .int xy1, .ref (a 19)]) := by
  have hx := K.1
  have hb := K.2.1
  intro xy0 xy1 M H locs ls h hl hw
  refine nf_callW (ex := (fun _ _ => False)) (As := [.ref (a 19), .int xy1, .int xy0]) (st0 := [.int xy0, .int xy1, .ref (a 19)]) (rest := []) K hw (nf_invV hx hb K.2.2.2.1 (nf_Kg K nw_1070) (nf_Kg K nw_1072) (nf_Kg K nx_M_store) (nf_Kg K nw_1073) ⟨by decide, by decide⟩ (nf_rcv K hw 19 7 rfl rfl) rfl nl_M_store rfl d_M_reckon_207) (c_M_store l hfl xy1 xy0) nw_1073 nw_9 rfl ⟨by decide, by decide⟩ (Nat.le_of_ble_eq_true rfl) hl.1 ⟨Nat.le_of_ble_eq_true rfl, Nat.le_of_ble_eq_true rfl⟩ h (fun _ _ h => h.elim) (fun r1 M2 H locs h hw => ?_)
  refine W.eq (g2 := F0 m 210 ls []) rfl ?_
  exact w_M_reckon_210 hfl K  M2 _ _ _ h (lv_sub hl [] rfl) hw
theorem w_M_reckon_205 {post : Unit → nf_M → Prop} (hfl : l.flags = flags0) (K : nf_K p s m args meth c "NumberForgeModel" nb_M_reckon 6 none D a sz) : ∀ (x5 : Int32) (xy0 : Int32) (M : nf_M) (H : Heap) (locs : List Loc) (ls : Array Slot), B_M_reckon_205 post x5 xy0 M → lv_has ls 6 [(5, .int x5)] → nf_W D a s sz H locs M → W p l e rm_M_reckon s m args below meth c H locs 0 0 (nf_MQ below (nf_Q nf_jN D a post ex (nf_A a sz)) args s rm_M_reckon.cells rm_M_reckon.slots (nf_A a sz)) (F0 m 205 ls [.int xy0, .ref (a 19)]) := by
  have hx := K.1
  have hb := K.2.1
  intro x5 xy0 M H locs ls h hl hw
  refine lv_iload hx hb d_M_reckon_205 (lv_at hl 0 rfl) ?_
  exact w_M_reckon_207 hfl K x5 xy0 M _ _ _ h (lv_sub hl [] rfl) hw
theorem w_M_reckon_168 {post : Unit → nf_M → Prop} (hfl : l.flags = flags0) (K : nf_K p s m args meth c "NumberForgeModel" nb_M_reckon 6 none D a sz) : ∀ (x1 : Int32) (x4 : Int32) (x5 : Int32) (xy0 : Int32) (M : nf_M) (H : Heap) (locs : List Loc) (ls : Array Slot), B_M_reckon_168 post x1 x4 x5 xy0 M → lv_has ls 6 [(0, .ref (a 19)), (1, .int x1), (4, .int x4), (5, .int x5)] → nf_W D a s sz H locs M → W p l e rm_M_reckon s m args below meth c H locs 0 0 (nf_MQ below (nf_Q nf_jN D a post ex (nf_A a sz)) args s rm_M_reckon.cells rm_M_reckon.slots (nf_A a sz)) (F0 m 168 ls [.int xy0, .ref (a 19)]) := by
  have hx := K.1
  have hb := K.2.1
  intro x1 x4 x5 xy0 M H locs ls h hl hw
  refine nf_put (M' := ms_I M 19 0 xy0) K hw 19 7 0 nw_931 rfl rfl rfl ni_M ny_M nq_M nn_M (by decide) rfl rfl rfl rfl (Nat.le_of_ble_eq_true rfl) d_M_reckon_168 (fun H locs hw => ?_)
  obtain ⟨M1, eM1⟩ : ∃ z, z = ms_I M 19 0 xy0 := ⟨_, rfl⟩
  rw [← eM1] at hw
  have h := h M1 eM1
  refine lv_aload_n hx hb d_M_reckon_171 rfl (lv_at hl 0 rfl) ?_
  refine nf_get (v := .int (mg_I M1 19 0)) K hw 19 7 0 nw_931 rfl rfl ni_M (by decide) rfl rfl d_M_reckon_172 ?_
  refine nf_if_ne hx hb d_M_reckon_175 (tgt := 210) (by decide) (fun hc => ?_) (fun hc => ?_)
  · have h := h.1 hc
    refine lv_aload_n hx hb d_M_reckon_178 rfl (lv_at hl 0 rfl) ?_
    refine lv_iload hx hb d_M_reckon_179 (lv_at hl 2 rfl) ?_
    refine lv_iload_n hx hb d_M_reckon_181 rfl (lv_at hl 1 rfl) ?_
    refine lv_iconst (v := (4 : Int32)) hx hb d_M_reckon_182 (by decide) ?_
    refine nf_ic_ne hx hb d_M_reckon_183 (tgt := 190) (by decide) (fun hc => ?_) (fun hc => ?_)
    · have h := h.1 hc
      refine lv_iconst (v := (1 : Int32)) hx hb d_M_reckon_186 (by decide) ?_
      refine lv_goto hx hb d_M_reckon_187 (tgt := 207) (by decide) ?_
      exact w_M_reckon_207 hfl K (1 : Int32) x4 M1 _ _ _ h (lv_sub hl [] rfl) hw
    · have h := h.2 hc
      refine lv_iload_n hx hb d_M_reckon_190 rfl (lv_at hl 1 rfl) ?_
      refine lv_iconst (v := (3 : Int32)) hx hb d_M_reckon_191 (by decide) ?_
      refine nf_ic_ne hx hb d_M_reckon_192 (tgt := 205) (by decide) (fun hc => ?_) (fun hc => ?_)
      · have h := h.1 hc
        refine lv_iload hx hb d_M_reckon_195 (lv_at hl 3 rfl) ?_
        refine lv_iconst (v := (2 : Int32)) hx hb d_M_reckon_197 (by decide) ?_
        refine nf_ic_ge hx hb d_M_reckon_198 (tgt := 205) (by decide) (fun hc => ?_) (fun hc => ?_)
        · have h := h.1 hc
          refine lv_iconst (v := (0 : Int32)) hx hb d_M_reckon_201 (by decide) ?_
          refine lv_goto hx hb d_M_reckon_202 (tgt := 207) (by decide) ?_
          exact w_M_reckon_207 hfl K (0 : Int32) x4 M1 _ _ _ h (lv_sub hl [] rfl) hw
        · have h := h.2 hc
          exact w_M_reckon_205 hfl K x5 x4 M1 _ _ _ h (lv_sub hl [3] rfl) hw
      · have h := h.2 hc
        exact w_M_reckon_205 hfl K x5 x4 M1 _ _ _ h (lv_sub hl [3] rfl) hw
  · have h := h.2 hc
    exact w_M_reckon_210 hfl K  M1 _ _ _ h (lv_sub hl [] rfl) hw
theorem w_M_reckon_142 {post : Unit → nf_M → Prop} (hfl : l.flags = flags0) (K : nf_K p s m args meth c "NumberForgeModel" nb_M_reckon 6 none D a sz) : ∀ (x1 : Int32) (x4 : Int32) (x5 : Int32) (M : nf_M) (H : Heap) (locs : List Loc) (ls : Array Slot), B_M_reckon_142 post x1 x4 x5 M → lv_has ls 6 [(0, .ref (a 19)), (1, .int x1), (4, .int x4), (5, .int x5)] → nf_W D a s sz H locs M → W p l e rm_M_reckon s m args below meth c H locs 0 0 (nf_MQ below (nf_Q nf_jN D a post ex (nf_A a sz)) args s rm_M_reckon.cells rm_M_reckon.slots (nf_A a sz)) (F0 m 142 ls []) := by
  have hx := K.1
  have hb := K.2.1
  intro x1 x4 x5 M H locs ls h hl hw
  refine lv_aload_n hx hb d_M_reckon_142 rfl (lv_at hl 0 rfl) ?_
  refine lv_aload_n hx hb d_M_reckon_143 rfl (lv_at hl 0 rfl) ?_
  refine nf_get (v := .int (mg_I M 19 9)) K hw 19 7 9 nw_940 rfl rfl ni_M (by decide) rfl rfl d_M_reckon_144 ?_
  refine lv_iconst (v := (4 : Int32)) hx hb d_M_reckon_147 (by decide) ?_
  refine nf_ic_ne hx hb d_M_reckon_148 (tgt := 155) (by decide) (fun hc => ?_) (fun hc => ?_)
  · have h := h.1 hc
    refine lv_iconst (v := (3 : Int32)) hx hb d_M_reckon_151 (by decide) ?_
    refine lv_goto hx hb d_M_reckon_152 (tgt := 168) (by decide) ?_
    exact w_M_reckon_168 hfl K x1 x4 x5 (3 : Int32) M _ _ _ h (lv_sub hl [0, 1, 2, 3] rfl) hw
  · have h := h.2 hc
    refine lv_aload_n hx hb d_M_reckon_155 rfl (lv_at hl 0 rfl) ?_
    refine nf_get (v := .int (mg_I M 19 9)) K hw 19 7 9 nw_940 rfl rfl ni_M (by decide) rfl rfl d_M_reckon_156 ?_
    refine lv_iconst (v := (5 : Int32)) hx hb d_M_reckon_159 (by decide) ?_
    refine nf_ic_ne hx hb d_M_reckon_160 (tgt := 167) (by decide) (fun hc => ?_) (fun hc => ?_)
    · have h := h.1 hc
      refine lv_iconst (v := (4 : Int32)) hx hb d_M_reckon_163 (by decide) ?_
      refine lv_goto hx hb d_M_reckon_164 (tgt := 168) (by decide) ?_
      exact w_M_reckon_168 hfl K x1 x4 x5 (4 : Int32) M _ _ _ h (lv_sub hl [0, 1, 2, 3] rfl) hw
    · have h := h.2 hc
      refine lv_iconst (v := (0 : Int32)) hx hb d_M_reckon_167 (by decide) ?_
      exact w_M_reckon_168 hfl K x1 x4 x5 (0 : Int32) M _ _ _ h (lv_sub hl [0, 1, 2, 3] rfl) hw
theorem w_M_reckon_59 {post : Unit → nf_M → Prop} (hfl : l.flags = flags0) (K : nf_K p s m args meth c "NumberForgeModel" nb_M_reckon 6 none D a sz) : ∀ (x1 : Int32) (x2 : Int32) (x3 : Int32) (x4 : Int32) (xy0 : Int32) (M : nf_M) (H : Heap) (locs : List Loc) (ls : Array Slot), B_M_reckon_59 post x1 x2 x3 x4 xy0 M → lv_has ls 6 [(0, .ref (a 19)), (1, .int x1), (2, .int x2), (3, .int x3), (4, .int x4)] → nf_W D a s sz H locs M → W p l e rm_M_reckon s m args below meth c H locs 0 0 (nf_MQ below (nf_Q nf_jN D a post ex (nf_A a sz)) args s rm_M_reckon.cells rm_M_reckon.slots (nf_A a sz)) (F0 m 59 ls [.int xy0, .ref (a 19)]) := by
  have hx := K.1
  have hb := K.2.1
  intro x1 x2 x3 x4 xy0 M H locs ls h hl hw
  refine nf_put (M' := ms_I M 19 0 xy0) K hw 19 7 0 nw_931 rfl rfl rfl ni_M ny_M nq_M nn_M (by decide) rfl rfl rfl rfl (Nat.le_of_ble_eq_true rfl) d_M_reckon_59 (fun H locs hw => ?_)
  obtain ⟨M1, eM1⟩ : ∃ z, z = ms_I M 19 0 xy0 := ⟨_, rfl⟩
  rw [← eM1] at hw
  have h := h M1 eM1
  refine lv_aload_n hx hb d_M_reckon_62 rfl (lv_at hl 0 rfl) ?_
  refine nf_get (v := .int (mg_I M1 19 0)) K hw 19 7 0 nw_931 rfl rfl ni_M (by decide) rfl rfl d_M_reckon_63 ?_
  refine nf_if_le hx hb d_M_reckon_66 (tgt := 70) (by decide) (fun hc => ?_) (fun hc => ?_)
  · have h := h.1 hc
    exact nf_vret K hw d_M_reckon_69 (Nat.le_of_ble_eq_true rfl) (Nat.le_of_ble_eq_true rfl) (r := ()) rfl h
  · have h := h.2 hc
    refine lv_aload_n hx hb d_M_reckon_70 rfl (lv_at hl 0 rfl) ?_
    refine lv_iconst (v := (0 : Int32)) hx hb d_M_reckon_71 (by decide) ?_
    refine nf_put (M' := ms_I M1 19 9 (0 : Int32)) K hw 19 7 9 nw_940 rfl rfl rfl ni_M ny_M nq_M nn_M (by decide) rfl rfl rfl rfl (Nat.le_of_ble_eq_true rfl) d_M_reckon_72 (fun H locs hw => ?_)
    obtain ⟨M2, eM2⟩ : ∃ z, z = ms_I M1 19 9 (0 : Int32) := ⟨_, rfl⟩
    rw [← eM2] at hw
    have h := h M2 eM2
    refine lv_aload_n hx hb d_M_reckon_75 rfl (lv_at hl 0 rfl) ?_
    refine lv_iload_n hx hb d_M_reckon_76 rfl (lv_at hl 2 rfl) ?_
    refine lv_iload_n hx hb d_M_reckon_77 rfl (lv_at hl 3 rfl) ?_
    refine nf_callW (ex := (fun _ _ => False)) (As := [.ref (a 19), .int x2, .int x3]) (st0 := [.int x3, .int x2, .ref (a 19)]) (rest := []) K hw (nf_invV hx hb K.2.2.2.1 (nf_Kg K nw_1082) (nf_Kg K nw_1084) (nf_Kg K nx_M_common) (nf_Kg K nw_1085) ⟨by decide, by decide⟩ (nf_rcv K hw 19 7 rfl rfl) rfl nl_M_common rfl d_M_reckon_78) (c_M_common l hfl x2 x3) nw_1085 nw_9 rfl ⟨by decide, by decide⟩ (Nat.le_of_ble_eq_true rfl) hl.1 ⟨Nat.le_of_ble_eq_true rfl, Nat.le_of_ble_eq_true rfl⟩ h (fun _ _ h => h.elim) (fun r3 M4 H locs h hw => ?_)
    refine W.eq (g2 := F0 m 81 ls [.int r3]) rfl ?_
    refine lv_istore (lv' := [(5, .int r3), (0, .ref (a 19)), (1, .int x1), (2, .int x2), (3, .int x3), (4, .int x4)]) hx hb d_M_reckon_81 hl (by decide) rfl (fun ls hl => ?_)
    refine lv_iload hx hb d_M_reckon_83 (lv_at hl 0 rfl) ?_
    refine lv_bipush (v := (9 : Int32)) hx hb d_M_reckon_85 (by decide) ?_
    refine nf_ic_ne hx hb d_M_reckon_87 (tgt := 108) (by decide) (fun hc => ?_) (fun hc => ?_)
    · have h := h.1 hc
      refine lv_aload_n hx hb d_M_reckon_90 rfl (lv_at hl 1 rfl) ?_
      refine lv_iload_n hx hb d_M_reckon_91 rfl (lv_at hl 2 rfl) ?_
      refine lv_aload_n hx hb d_M_reckon_92 rfl (lv_at hl 1 rfl) ?_
      refine lv_iload_n hx hb d_M_reckon_93 rfl (lv_at hl 3 rfl) ?_
      refine nf_callW (ex := (fun _ _ => False)) (As := [.ref (a 19), .int x2]) (st0 := [.int x2, .ref (a 19), .int x1, .ref (a 19)]) (rest := [.int x1, .ref (a 19)]) K hw (nf_invV hx hb K.2.2.2.1 (nf_Kg K nw_1086) (nf_Kg K nw_1088) (nf_Kg K nx_M_asDouble) (nf_Kg K nw_1089) ⟨by decide, by decide⟩ (nf_rcv K hw 19 7 rfl rfl) rfl nl_M_asDouble rfl d_M_reckon_94) (c_M_asDouble l hfl x2) nw_1089 nw_9 rfl ⟨by decide, by decide⟩ (Nat.le_of_ble_eq_true rfl) hl.1 ⟨Nat.le_of_ble_eq_true rfl, Nat.le_of_ble_eq_true rfl⟩ h (fun _ _ h => h.elim) (fun r5 M6 H locs h hw => ?_)
      refine W.eq (g2 := F0 m 97 ls [.double r5, .int x1, .ref (a 19)]) rfl ?_
      refine lv_aload_n hx hb d_M_reckon_97 rfl (lv_at hl 1 rfl) ?_
      refine lv_iload_n hx hb d_M_reckon_98 rfl (lv_at hl 4 rfl) ?_
      refine nf_callW (ex := (fun _ _ => False)) (As := [.ref (a 19), .int x3]) (st0 := [.int x3, .ref (a 19), .double r5, .int x1, .ref (a 19)]) (rest := [.double r5, .int x1, .ref (a 19)]) K hw (nf_invV hx hb K.2.2.2.1 (nf_Kg K nw_1086) (nf_Kg K nw_1088) (nf_Kg K nx_M_asDouble) (nf_Kg K nw_1089) ⟨by decide, by decide⟩ (nf_rcv K hw 19 7 rfl rfl) rfl nl_M_asDouble rfl d_M_reckon_99) (c_M_asDouble l hfl x3) nw_1089 nw_9 rfl ⟨by decide, by decide⟩ (Nat.le_of_ble_eq_true rfl) hl.1 ⟨Nat.le_of_ble_eq_true rfl, Nat.le_of_ble_eq_true rfl⟩ h (fun _ _ h => h.elim) (fun r7 M8 H locs h hw => ?_)
      refine W.eq (g2 := F0 m 102 ls [.double r7, .double r5, .int x1, .ref (a 19)]) rfl ?_
      refine nf_callW (ex := (fun _ _ => False)) (As := [.ref (a 19), .int x1, .double r5, .double r7]) (st0 := [.double r7, .double r5, .int x1, .ref (a 19)]) (rest := []) K hw (nf_invV hx hb K.2.2.2.1 (nf_Kg K nw_1090) (nf_Kg K nw_1092) (nf_Kg K nx_M_reckonDouble) (nf_Kg K nw_1093) ⟨by decide, by decide⟩ (nf_rcv K hw 19 7 rfl rfl) rfl nl_M_reckonDouble rfl d_M_reckon_102) (c_M_reckonDouble l hfl x1 r5 r7) nw_1093 nw_9 rfl ⟨by decide, by decide⟩ (Nat.le_of_ble_eq_true rfl) hl.1 ⟨Nat.le_of_ble_eq_true rfl, Nat.le_of_ble_eq_true rfl⟩ h (fun _ _ h => h.elim) (fun r9 M10 H locs h hw => ?_)
      refine W.eq (g2 := F0 m 105 ls []) rfl ?_
      refine lv_goto hx hb d_M_reckon_105 (tgt := 142) (by decide) ?_
      exact w_M_reckon_142 hfl K x1 x4 r3 M10 _ _ _ h (lv_sub hl [1, 2, 5, 0] rfl) hw
    · have h := h.2 hc
      refine lv_iload hx hb d_M_reckon_108 (lv_at hl 0 rfl) ?_
      refine lv_bipush (v := (8 : Int32)) hx hb d_M_reckon_110 (by decide) ?_
      refine nf_ic_ne hx hb d_M_reckon_112 (tgt := 135) (by decide) (fun hc => ?_) (fun hc => ?_)
      · have h := h.1 hc
        refine lv_aload_n hx hb d_M_reckon_115 rfl (lv_at hl 1 rfl) ?_
        refine lv_iload_n hx hb d_M_reckon_116 rfl (lv_at hl 2 rfl) ?_
        refine lv_aload_n hx hb d_M_reckon_117 rfl (lv_at hl 1 rfl) ?_
        refine lv_iload_n hx hb d_M_reckon_118 rfl (lv_at hl 3 rfl) ?_
        refine nf_callW (ex := (fun _ _ => False)) (As := [.ref (a 19), .int x2]) (st0 := [.int x2, .ref (a 19), .int x1, .ref (a 19)]) (rest := [.int x1, .ref (a 19)]) K hw (nf_invV hx hb K.2.2.2.1 (nf_Kg K nw_1086) (nf_Kg K nw_1088) (nf_Kg K nx_M_asDouble) (nf_Kg K nw_1089) ⟨by decide, by decide⟩ (nf_rcv K hw 19 7 rfl rfl) rfl nl_M_asDouble rfl d_M_reckon_119) (c_M_asDouble l hfl x2) nw_1089 nw_9 rfl ⟨by decide, by decide⟩ (Nat.le_of_ble_eq_true rfl) hl.1 ⟨Nat.le_of_ble_eq_true rfl, Nat.le_of_ble_eq_true rfl⟩ h (fun _ _ h => h.elim) (fun r11 M12 H locs h hw => ?_)
        refine W.eq (g2 := F0 m 122 ls [.double r11, .int x1, .ref (a 19)]) rfl ?_
        obtain ⟨g13, h⟩ := h
        refine lv_d2f hx hb d_M_reckon_122 g13 ?_
        refine lv_aload_n hx hb d_M_reckon_123 rfl (lv_at hl 1 rfl) ?_
        refine lv_iload_n hx hb d_M_reckon_124 rfl (lv_at hl 4 rfl) ?_
        refine nf_callW (ex := (fun _ _ => False)) (As := [.ref (a 19), .int x3]) (st0 := [.int x3, .ref (a 19), .float (FP.d2f r11), .int x1, .ref (a 19)]) (rest := [.float (FP.d2f r11), .int x1, .ref (a 19)]) K hw (nf_invV hx hb K.2.2.2.1 (nf_Kg K nw_1086) (nf_Kg K nw_1088) (nf_Kg K nx_M_asDouble) (nf_Kg K nw_1089) ⟨by decide, by decide⟩ (nf_rcv K hw 19 7 rfl rfl) rfl nl_M_asDouble rfl d_M_reckon_125) (c_M_asDouble l hfl x3) nw_1089 nw_9 rfl ⟨by decide, by decide⟩ (Nat.le_of_ble_eq_true rfl) hl.1 ⟨Nat.le_of_ble_eq_true rfl, Nat.le_of_ble_eq_true rfl⟩ h (fun _ _ h => h.elim) (fun r14 M15 H locs h hw => ?_)
        refine W.eq (g2 := F0 m 128 ls [.double r14, .float (FP.d2f r11), .int x1, .ref (a 19)]) rfl ?_
        obtain ⟨g16, h⟩ := h
        refine lv_d2f hx hb d_M_reckon_128 g16 ?_
        refine nf_callW (ex := (fun _ _ => False)) (As := [.ref (a 19), .int x1, .float (FP.d2f r11), .float (FP.d2f r14)]) (st0 := [.float (FP.d2f r14), .float (FP.d2f r11), .int x1, .ref (a 19)]) (rest := []) K hw (nf_invV hx hb K.2.2.2.1 (nf_Kg K nw_1108) (nf_Kg K nw_1110) (nf_Kg K nx_M_reckonFloat) (nf_Kg K nw_1111) ⟨by decide, by decide⟩ (nf_rcv K hw 19 7 rfl rfl) rfl nl_M_reckonFloat rfl d_M_reckon_129) (c_M_reckonFloat l hfl x1 (FP.d2f r11) (FP.d2f r14)) nw_1111 nw_9 rfl ⟨by decide, by decide⟩ (Nat.le_of_ble_eq_true rfl) hl.1 ⟨Nat.le_of_ble_eq_true rfl, Nat.le_of_ble_eq_true rfl⟩ h (fun _ _ h => h.elim) (fun r17 M18 H locs h hw => ?_)
        refine W.eq (g2 := F0 m 132 ls []) rfl ?_
        refine lv_goto hx hb d_M_reckon_132 (tgt := 142) (by decide) ?_
        exact w_M_reckon_142 hfl K x1 x4 r3 M18 _ _ _ h (lv_sub hl [1, 2, 5, 0] rfl) hw
      · have h := h.2 hc
        refine lv_aload_n hx hb d_M_reckon_135 rfl (lv_at hl 1 rfl) ?_
        refine lv_iload_n hx hb d_M_reckon_136 rfl (lv_at hl 2 rfl) ?_
        refine lv_iload_n hx hb d_M_reckon_137 rfl (lv_at hl 3 rfl) ?_
        refine lv_iload_n hx hb d_M_reckon_138 rfl (lv_at hl 4 rfl) ?_
        refine nf_callW (ex := (fun _ _ => False)) (As := [.ref (a 19), .int x1, .int x2, .int x3]) (st0 := [.int x3, .int x2, .int x1, .ref (a 19)]) (rest := []) K hw (nf_invV hx hb K.2.2.2.1 (nf_Kg K nw_1112) (nf_Kg K nw_1114) (nf_Kg K nx_M_reckonExact) (nf_Kg K nw_1115) ⟨by decide, by decide⟩ (nf_rcv K hw 19 7 rfl rfl) rfl nl_M_reckonExact rfl d_M_reckon_139) (c_M_reckonExact l hfl x1 x2 x3) nw_1115 nw_9 rfl ⟨by decide, by decide⟩ (Nat.le_of_ble_eq_true rfl) hl.1 ⟨Nat.le_of_ble_eq_true rfl, Nat.le_of_ble_eq_true rfl⟩ h (fun _ _ h => h.elim) (fun r19 M20 H locs h hw => ?_)
        refine W.eq (g2 := F0 m 142 ls []) rfl ?_
        exact w_M_reckon_142 hfl K x1 x4 r3 M20 _ _ _ h (lv_sub hl [1, 2, 5, 0] rfl) hw
theorem w_M_reckon_32 {post : Unit → nf_M → Prop} (hfl : l.flags = flags0) (K : nf_K p s m args meth c "NumberForgeModel" nb_M_reckon 6 none D a sz) : ∀ (x1 : Int32) (x2 : Int32) (x3 : Int32) (x4 : Int32) (M : nf_M) (H : Heap) (locs : List Loc) (ls : Array Slot), B_M_reckon_32 post x1 x2 x3 x4 M → lv_has ls 6 [(0, .ref (a 19)), (1, .int x1), (2, .int x2), (3, .int x3), (4, .int x4)] → nf_W D a s sz H locs M → W p l e rm_M_reckon s m args below meth c H locs 0 0 (nf_MQ below (nf_Q nf_jN D a post ex (nf_A a sz)) args s rm_M_reckon.cells rm_M_reckon.slots (nf_A a sz)) (F0 m 32 ls [.ref (a 19)]) := by
  have hx := K.1
  have hb := K.2.1
  intro x1 x2 x3 x4 M H locs ls h hl hw
  refine lv_iconst (v := (1 : Int32)) hx hb d_M_reckon_32 (by decide) ?_
  refine lv_goto hx hb d_M_reckon_33 (tgt := 59) (by decide) ?_
  exact w_M_reckon_59 hfl K x1 x2 x3 x4 (1 : Int32) M _ _ _ h (lv_sub hl [0, 1, 2, 3, 4] rfl) hw
theorem w_M_reckon_54 {post : Unit → nf_M → Prop} (hfl : l.flags = flags0) (K : nf_K p s m args meth c "NumberForgeModel" nb_M_reckon 6 none D a sz) : ∀ (x1 : Int32) (x2 : Int32) (x3 : Int32) (x4 : Int32) (M : nf_M) (H : Heap) (locs : List Loc) (ls : Array Slot), B_M_reckon_54 post x1 x2 x3 x4 M → lv_has ls 6 [(0, .ref (a 19)), (1, .int x1), (2, .int x2), (3, .int x3), (4, .int x4)] → nf_W D a s sz H locs M → W p l e rm_M_reckon s m args below meth c H locs 0 0 (nf_MQ below (nf_Q nf_jN D a post ex (nf_A a sz)) args s rm_M_reckon.cells rm_M_reckon.slots (nf_A a sz)) (F0 m 54 ls [.ref (a 19)]) := by
  have hx := K.1
  have hb := K.2.1
  intro x1 x2 x3 x4 M H locs ls h hl hw
  refine lv_iconst (v := (2 : Int32)) hx hb d_M_reckon_54 (by decide) ?_
  refine lv_goto hx hb d_M_reckon_55 (tgt := 59) (by decide) ?_
  exact w_M_reckon_59 hfl K x1 x2 x3 x4 (2 : Int32) M _ _ _ h (lv_sub hl [0, 1, 2, 3, 4] rfl) hw
theorem c_M_reckon (l : Launch) (hfl : l.flags = flags0) (x1 : Int32) (x2 : Int32) (x3 : Int32) (x4 : Int32) : nf_C nf_jN l nm_M_reckon nb_M_reckon 6 none rm_M_reckon (fun a => [.ref (a 19), .int x1, .int x2, .int x3, .int x4]) (fun M post ex => P_M_reckon x1 x2 x3 x4 M post) := by
  refine nf_start (plainFor_of_name (by decide +kernel)) (fun a => Nat.le_of_ble_eq_true rfl) ?_
  intro D a sz M post ex p e s m below meth c ls h K hl hw
  have hx := K.1
  have hb := K.2.1
  have hl : lv_has ls 6 [(0, .ref (a 19)), (1, .int x1), (2, .int x2), (3, .int x3), (4, .int x4)] := hl
  refine lv_aload_n hx hb d_M_reckon_0 rfl (lv_at hl 0 rfl) ?_
  refine lv_iload_n hx hb d_M_reckon_1 rfl (lv_at hl 2 rfl) ?_
  refine nf_callW (ex := (fun _ _ => False)) (As := [.int x2]) (st0 := [.int x2, .ref (a 19)]) (rest := [.ref (a 19)]) K hw (nf_invS hx hb K.2.2.2.1 (nf_Kg K nw_1008) (nf_Kg K nw_1009) (nf_Kg K nw_9) (nf_Kg K nw_1010) ⟨by decide, by decide⟩ rfl nl_M_isRegister rfl d_M_reckon_2) (c_M_isRegister l hfl x2) nw_1010 nw_9 rfl ⟨by decide, by decide⟩ (Nat.le_of_ble_eq_true rfl) hl.1 ⟨Nat.le_of_ble_eq_true rfl, Nat.le_of_ble_eq_true rfl⟩ h (fun _ _ h => h.elim) (fun r1 M2 H locs h hw => ?_)
  refine W.eq (g2 := F0 m 5 ls [.int r1, .ref (a 19)]) rfl ?_
  refine nf_if_eq hx hb d_M_reckon_5 (tgt := 32) (by decide) (fun hc => ?_) (fun hc => ?_)
  · have h := h.1 hc
    exact w_M_reckon_32 hfl K x1 x2 x3 x4 M2 _ _ _ h (lv_sub hl [0, 1, 2, 3, 4] rfl) hw
  · have h := h.2 hc
    refine lv_iload_n hx hb d_M_reckon_8 rfl (lv_at hl 3 rfl) ?_
    refine nf_callW (ex := (fun _ _ => False)) (As := [.int x3]) (st0 := [.int x3, .ref (a 19)]) (rest := [.ref (a 19)]) K hw (nf_invS hx hb K.2.2.2.1 (nf_Kg K nw_1008) (nf_Kg K nw_1009) (nf_Kg K nw_9) (nf_Kg K nw_1010) ⟨by decide, by decide⟩ rfl nl_M_isRegister rfl d_M_reckon_9) (c_M_isRegister l hfl x3) nw_1010 nw_9 rfl ⟨by decide, by decide⟩ (Nat.le_of_ble_eq_true rfl) hl.1 ⟨Nat.le_of_ble_eq_true rfl, Nat.le_of_ble_eq_true rfl⟩ h (fun _ _ h => h.elim) (fun r3 M4 H locs h hw => ?_)
    refine W.eq (g2 := F0 m 12 ls [.int r3, .ref (a 19)]) rfl ?_
    refine nf_if_eq hx hb d_M_reckon_12 (tgt := 32) (by decide) (fun hc => ?_) (fun hc => ?_)
    · have h := h.1 hc
      exact w_M_reckon_32 hfl K x1 x2 x3 x4 M4 _ _ _ h (lv_sub hl [0, 1, 2, 3, 4] rfl) hw
    · have h := h.2 hc
      refine lv_iload hx hb d_M_reckon_15 (lv_at hl 4 rfl) ?_
      refine nf_callW (ex := (fun _ _ => False)) (As := [.int x4]) (st0 := [.int x4, .ref (a 19)]) (rest := [.ref (a 19)]) K hw (nf_invS hx hb K.2.2.2.1 (nf_Kg K nw_1008) (nf_Kg K nw_1009) (nf_Kg K nw_9) (nf_Kg K nw_1010) ⟨by decide, by decide⟩ rfl nl_M_isRegister rfl d_M_reckon_17) (c_M_isRegister l hfl x4) nw_1010 nw_9 rfl ⟨by decide, by decide⟩ (Nat.le_of_ble_eq_true rfl) hl.1 ⟨Nat.le_of_ble_eq_true rfl, Nat.le_of_ble_eq_true rfl⟩ h (fun _ _ h => h.elim) (fun r5 M6 H locs h hw => ?_)
      refine W.eq (g2 := F0 m 20 ls [.int r5, .ref (a 19)]) rfl ?_
      refine nf_if_eq hx hb d_M_reckon_20 (tgt := 32) (by decide) (fun hc => ?_) (fun hc => ?_)
      · have h := h.1 hc
        exact w_M_reckon_32 hfl K x1 x2 x3 x4 M6 _ _ _ h (lv_sub hl [0, 1, 2, 3, 4] rfl) hw
      · have h := h.2 hc
        refine lv_iload_n hx hb d_M_reckon_23 rfl (lv_at hl 1 rfl) ?_
        refine nf_if_lt hx hb d_M_reckon_24 (tgt := 32) (by decide) (fun hc => ?_) (fun hc => ?_)
        · have h := h.1 hc
          exact w_M_reckon_32 hfl K x1 x2 x3 x4 M6 _ _ _ h (lv_sub hl [0, 1, 2, 3, 4] rfl) hw
        · have h := h.2 hc
          refine lv_iload_n hx hb d_M_reckon_27 rfl (lv_at hl 1 rfl) ?_
          refine lv_iconst (v := (5 : Int32)) hx hb d_M_reckon_28 (by decide) ?_
          refine nf_ic_le hx hb d_M_reckon_29 (tgt := 36) (by decide) (fun hc => ?_) (fun hc => ?_)
          · have h := h.1 hc
            exact w_M_reckon_32 hfl K x1 x2 x3 x4 M6 _ _ _ h (lv_sub hl [0, 1, 2, 3, 4] rfl) hw
          · have h := h.2 hc
            refine lv_aload_n hx hb d_M_reckon_36 rfl (lv_at hl 0 rfl) ?_
            refine nf_get (v := .ref (a 22)) K hw 19 7 5 nw_936 rfl rfl ni_M (by decide) rfl rfl d_M_reckon_37 ?_
            refine lv_iload_n hx hb d_M_reckon_40 rfl (lv_at hl 2 rfl) ?_
            obtain ⟨g7, h⟩ := h
            refine nf_iald K hw 22 5 rfl rfl g7 d_M_reckon_41 ?_
            refine nf_if_lt hx hb d_M_reckon_42 (tgt := 54) (by decide) (fun hc => ?_) (fun hc => ?_)
            · have h := h.1 hc
              exact w_M_reckon_54 hfl K x1 x2 x3 x4 M6 _ _ _ h (lv_sub hl [0, 1, 2, 3, 4] rfl) hw
            · have h := h.2 hc
              refine lv_aload_n hx hb d_M_reckon_45 rfl (lv_at hl 0 rfl) ?_
              refine nf_get (v := .ref (a 22)) K hw 19 7 5 nw_936 rfl rfl ni_M (by decide) rfl rfl d_M_reckon_46 ?_
              refine lv_iload_n hx hb d_M_reckon_49 rfl (lv_at hl 3 rfl) ?_
              obtain ⟨g8, h⟩ := h
              refine nf_iald K hw 22 5 rfl rfl g8 d_M_reckon_50 ?_
              refine nf_if_ge hx hb d_M_reckon_51 (tgt := 58) (by decide) (fun hc => ?_) (fun hc => ?_)
              · have h := h.1 hc
                exact w_M_reckon_54 hfl K x1 x2 x3 x4 M6 _ _ _ h (lv_sub hl [0, 1, 2, 3, 4] rfl) hw
              · have h := h.2 hc
                refine lv_iconst (v := (0 : Int32)) hx hb d_M_reckon_58 (by decide) ?_
                exact w_M_reckon_59 hfl K x1 x2 x3 x4 (0 : Int32) M6 _ _ _ h (lv_sub hl [0, 1, 2, 3, 4] rfl) hw
theorem d_M_oneExact_0 : decode nb_M_oneExact 0 = .ok (.lload_n 2, 1) := by decide +kernel
theorem d_M_oneExact_1 : decode nb_M_oneExact 1 = .ok (.iload 4, 2) := by decide +kernel
theorem d_M_oneExact_3 : decode nb_M_oneExact 3 = .ok (.invokestatic 42, 3) := by decide +kernel
theorem d_M_oneExact_6 : decode nb_M_oneExact 6 = .ok (.ldiv, 1) := by decide +kernel
theorem d_M_oneExact_7 : decode nb_M_oneExact 7 = .ok (.lstore 5, 2) := by decide +kernel
theorem d_M_oneExact_9 : decode nb_M_oneExact 9 = .ok (.lload_n 2, 1) := by decide +kernel
theorem d_M_oneExact_10 : decode nb_M_oneExact 10 = .ok (.iload 4, 2) := by decide +kernel
theorem d_M_oneExact_12 : decode nb_M_oneExact 12 = .ok (.invokestatic 42, 3) := by decide +kernel
theorem d_M_oneExact_15 : decode nb_M_oneExact 15 = .ok (.lrem, 1) := by decide +kernel
theorem d_M_oneExact_16 : decode nb_M_oneExact 16 = .ok (.lstore 7, 2) := by decide +kernel
theorem d_M_oneExact_18 : decode nb_M_oneExact 18 = .ok (.lload 7, 2) := by decide +kernel
theorem d_M_oneExact_20 : decode nb_M_oneExact 20 = .ok (.lconst 0, 1) := by decide +kernel
theorem d_M_oneExact_21 : decode nb_M_oneExact 21 = .ok (.lcmp, 1) := by decide +kernel
theorem d_M_oneExact_22 : decode nb_M_oneExact 22 = .ok (.ifCond .ge 19, 3) := by decide +kernel
theorem d_M_oneExact_25 : decode nb_M_oneExact 25 = .ok (.lload 5, 2) := by decide +kernel
theorem d_M_oneExact_27 : decode nb_M_oneExact 27 = .ok (.lconst 1, 1) := by decide +kernel
theorem d_M_oneExact_28 : decode nb_M_oneExact 28 = .ok (.lsub, 1) := by decide +kernel
theorem d_M_oneExact_29 : decode nb_M_oneExact 29 = .ok (.lstore 5, 2) := by decide +kernel
theorem d_M_oneExact_31 : decode nb_M_oneExact 31 = .ok (.lload 7, 2) := by decide +kernel
theorem d_M_oneExact_33 : decode nb_M_oneExact 33 = .ok (.iload 4, 2) := by decide +kernel
theorem d_M_oneExact_35 : decode nb_M_oneExact 35 = .ok (.invokestatic 42, 3) := by decide +kernel
theorem d_M_oneExact_38 : decode nb_M_oneExact 38 = .ok (.ladd, 1) := by decide +kernel
theorem d_M_oneExact_39 : decode nb_M_oneExact 39 = .ok (.lstore 7, 2) := by decide +kernel
theorem d_M_oneExact_41 : decode nb_M_oneExact 41 = .ok (.ldc2_w 219, 3) := by decide +kernel
theorem d_M_oneExact_44 : decode nb_M_oneExact 44 = .ok (.lload 7, 2) := by decide +kernel
theorem d_M_oneExact_46 : decode nb_M_oneExact 46 = .ok (.lmul, 1) := by decide +kernel
theorem d_M_oneExact_47 : decode nb_M_oneExact 47 = .ok (.lstore 9, 2) := by decide +kernel
theorem d_M_oneExact_49 : decode nb_M_oneExact 49 = .ok (.iload_n 1, 1) := by decide +kernel
theorem d_M_oneExact_50 : decode nb_M_oneExact 50 = .ok (.iconst 3, 1) := by decide +kernel
theorem d_M_oneExact_51 : decode nb_M_oneExact 51 = .ok (.if_icmp .ne 18, 3) := by decide +kernel
theorem d_M_oneExact_54 : decode nb_M_oneExact 54 = .ok (.lload 7, 2) := by decide +kernel
theorem d_M_oneExact_56 : decode nb_M_oneExact 56 = .ok (.lconst 0, 1) := by decide +kernel
theorem d_M_oneExact_57 : decode nb_M_oneExact 57 = .ok (.lcmp, 1) := by decide +kernel
theorem d_M_oneExact_58 : decode nb_M_oneExact 58 = .ok (.ifCond .le 7, 3) := by decide +kernel
theorem d_M_oneExact_61 : decode nb_M_oneExact 61 = .ok (.iconst 1, 1) := by decide +kernel
theorem d_M_oneExact_62 : decode nb_M_oneExact 62 = .ok (.goto 88, 3) := by decide +kernel
theorem d_M_oneExact_65 : decode nb_M_oneExact 65 = .ok (.iconst 0, 1) := by decide +kernel
theorem d_M_oneExact_66 : decode nb_M_oneExact 66 = .ok (.goto 84, 3) := by decide +kernel
theorem d_M_oneExact_69 : decode nb_M_oneExact 69 = .ok (.iload_n 1, 1) := by decide +kernel
theorem d_M_oneExact_70 : decode nb_M_oneExact 70 = .ok (.iconst 4, 1) := by decide +kernel
theorem d_M_oneExact_71 : decode nb_M_oneExact 71 = .ok (.if_icmp .ne 29, 3) := by decide +kernel
theorem d_M_oneExact_74 : decode nb_M_oneExact 74 = .ok (.lload 7, 2) := by decide +kernel
theorem d_M_oneExact_76 : decode nb_M_oneExact 76 = .ok (.lconst 0, 1) := by decide +kernel
theorem d_M_oneExact_77 : decode nb_M_oneExact 77 = .ok (.lcmp, 1) := by decide +kernel
theorem d_M_oneExact_78 : decode nb_M_oneExact 78 = .ok (.ifCond .le 18, 3) := by decide +kernel
theorem d_M_oneExact_81 : decode nb_M_oneExact 81 = .ok (.lload 9, 2) := by decide +kernel
theorem d_M_oneExact_83 : decode nb_M_oneExact 83 = .ok (.iload 4, 2) := by decide +kernel
theorem d_M_oneExact_85 : decode nb_M_oneExact 85 = .ok (.invokestatic 42, 3) := by decide +kernel
theorem d_M_oneExact_88 : decode nb_M_oneExact 88 = .ok (.lcmp, 1) := by decide +kernel
theorem d_M_oneExact_89 : decode nb_M_oneExact 89 = .ok (.ifCond .lt 7, 3) := by decide +kernel
theorem d_M_oneExact_92 : decode nb_M_oneExact 92 = .ok (.iconst 1, 1) := by decide +kernel
theorem d_M_oneExact_93 : decode nb_M_oneExact 93 = .ok (.goto 57, 3) := by decide +kernel
theorem d_M_oneExact_96 : decode nb_M_oneExact 96 = .ok (.iconst 0, 1) := by decide +kernel
theorem d_M_oneExact_97 : decode nb_M_oneExact 97 = .ok (.goto 53, 3) := by decide +kernel
theorem d_M_oneExact_100 : decode nb_M_oneExact 100 = .ok (.iload_n 1, 1) := by decide +kernel
theorem d_M_oneExact_101 : decode nb_M_oneExact 101 = .ok (.iconst 5, 1) := by decide +kernel
theorem d_M_oneExact_102 : decode nb_M_oneExact 102 = .ok (.if_icmp .ne 47, 3) := by decide +kernel
theorem d_M_oneExact_105 : decode nb_M_oneExact 105 = .ok (.lload 7, 2) := by decide +kernel
theorem d_M_oneExact_107 : decode nb_M_oneExact 107 = .ok (.lconst 0, 1) := by decide +kernel
theorem d_M_oneExact_108 : decode nb_M_oneExact 108 = .ok (.lcmp, 1) := by decide +kernel
theorem d_M_oneExact_109 : decode nb_M_oneExact 109 = .ok (.ifCond .le 40, 3) := by decide +kernel
theorem d_M_oneExact_112 : decode nb_M_oneExact 112 = .ok (.lload 9, 2) := by decide +kernel
theorem d_M_oneExact_114 : decode nb_M_oneExact 114 = .ok (.iload 4, 2) := by decide +kernel
theorem d_M_oneExact_116 : decode nb_M_oneExact 116 = .ok (.invokestatic 42, 3) := by decide +kernel
theorem d_M_oneExact_119 : decode nb_M_oneExact 119 = .ok (.lcmp, 1) := by decide +kernel
theorem d_M_oneExact_120 : decode nb_M_oneExact 120 = .ok (.ifCond .gt 25, 3) := by decide +kernel
theorem d_M_oneExact_123 : decode nb_M_oneExact 123 = .ok (.lload 9, 2) := by decide +kernel
theorem d_M_oneExact_125 : decode nb_M_oneExact 125 = .ok (.iload 4, 2) := by decide +kernel
theorem d_M_oneExact_127 : decode nb_M_oneExact 127 = .ok (.invokestatic 42, 3) := by decide +kernel
theorem d_M_oneExact_130 : decode nb_M_oneExact 130 = .ok (.lcmp, 1) := by decide +kernel
theorem d_M_oneExact_131 : decode nb_M_oneExact 131 = .ok (.ifCond .ne 18, 3) := by decide +kernel
theorem d_M_oneExact_134 : decode nb_M_oneExact 134 = .ok (.lload 5, 2) := by decide +kernel
theorem d_M_oneExact_136 : decode nb_M_oneExact 136 = .ok (.ldc2_w 219, 3) := by decide +kernel
theorem d_M_oneExact_139 : decode nb_M_oneExact 139 = .ok (.lrem, 1) := by decide +kernel
theorem d_M_oneExact_140 : decode nb_M_oneExact 140 = .ok (.lconst 0, 1) := by decide +kernel
theorem d_M_oneExact_141 : decode nb_M_oneExact 141 = .ok (.lcmp, 1) := by decide +kernel
theorem d_M_oneExact_142 : decode nb_M_oneExact 142 = .ok (.ifCond .eq 7, 3) := by decide +kernel
theorem d_M_oneExact_145 : decode nb_M_oneExact 145 = .ok (.iconst 1, 1) := by decide +kernel
theorem d_M_oneExact_146 : decode nb_M_oneExact 146 = .ok (.goto 4, 3) := by decide +kernel
theorem d_M_oneExact_149 : decode nb_M_oneExact 149 = .ok (.iconst 0, 1) := by decide +kernel
theorem d_M_oneExact_150 : decode nb_M_oneExact 150 = .ok (.istore 11, 2) := by decide +kernel
theorem d_M_oneExact_152 : decode nb_M_oneExact 152 = .ok (.aload_n 0, 1) := by decide +kernel
theorem d_M_oneExact_153 : decode nb_M_oneExact 153 = .ok (.iload_n 1, 1) := by decide +kernel
theorem d_M_oneExact_154 : decode nb_M_oneExact 154 = .ok (.ifCond .ne 8, 3) := by decide +kernel
theorem d_M_oneExact_157 : decode nb_M_oneExact 157 = .ok (.lload_n 2, 1) := by decide +kernel
theorem d_M_oneExact_158 : decode nb_M_oneExact 158 = .ok (.lneg, 1) := by decide +kernel
theorem d_M_oneExact_159 : decode nb_M_oneExact 159 = .ok (.goto 29, 3) := by decide +kernel
theorem d_M_oneExact_162 : decode nb_M_oneExact 162 = .ok (.iload_n 1, 1) := by decide +kernel
theorem d_M_oneExact_163 : decode nb_M_oneExact 163 = .ok (.iconst 1, 1) := by decide +kernel
theorem d_M_oneExact_164 : decode nb_M_oneExact 164 = .ok (.if_icmp .ne 10, 3) := by decide +kernel
theorem d_M_oneExact_167 : decode nb_M_oneExact 167 = .ok (.lload_n 2, 1) := by decide +kernel
theorem d_M_oneExact_168 : decode nb_M_oneExact 168 = .ok (.invokestatic 81, 3) := by decide +kernel
theorem d_M_oneExact_171 : decode nb_M_oneExact 171 = .ok (.goto 17, 3) := by decide +kernel
theorem d_M_oneExact_174 : decode nb_M_oneExact 174 = .ok (.iload 11, 2) := by decide +kernel
theorem d_M_oneExact_176 : decode nb_M_oneExact 176 = .ok (.ifCond .eq 10, 3) := by decide +kernel
theorem d_M_oneExact_179 : decode nb_M_oneExact 179 = .ok (.lload 5, 2) := by decide +kernel
theorem d_M_oneExact_181 : decode nb_M_oneExact 181 = .ok (.lconst 1, 1) := by decide +kernel
theorem d_M_oneExact_182 : decode nb_M_oneExact 182 = .ok (.ladd, 1) := by decide +kernel
theorem d_M_oneExact_183 : decode nb_M_oneExact 183 = .ok (.goto 5, 3) := by decide +kernel
theorem d_M_oneExact_186 : decode nb_M_oneExact 186 = .ok (.lload 5, 2) := by decide +kernel
theorem d_M_oneExact_188 : decode nb_M_oneExact 188 = .ok (.putfield 74, 3) := by decide +kernel
theorem d_M_oneExact_191 : decode nb_M_oneExact 191 = .ok (.aload_n 0, 1) := by decide +kernel
theorem d_M_oneExact_192 : decode nb_M_oneExact 192 = .ok (.iload_n 1, 1) := by decide +kernel
theorem d_M_oneExact_193 : decode nb_M_oneExact 193 = .ok (.iconst 2, 1) := by decide +kernel
theorem d_M_oneExact_194 : decode nb_M_oneExact 194 = .ok (.if_icmp .ge 8, 3) := by decide +kernel
theorem d_M_oneExact_197 : decode nb_M_oneExact 197 = .ok (.iload 4, 2) := by decide +kernel
theorem d_M_oneExact_199 : decode nb_M_oneExact 199 = .ok (.goto 4, 3) := by decide +kernel
theorem d_M_oneExact_202 : decode nb_M_oneExact 202 = .ok (.iconst 0, 1) := by decide +kernel
theorem d_M_oneExact_203 : decode nb_M_oneExact 203 = .ok (.putfield 78, 3) := by decide +kernel
theorem d_M_oneExact_206 : decode nb_M_oneExact 206 = .ok (.return_, 1) := by decide +kernel
abbrev rm_M_oneExact : Room := ({ frames := 1, cells := 0, slots := 0, locals := 23 })
theorem w_M_oneExact_203 {post : Unit → nf_M → Prop} (hfl : l.flags = flags0) (K : nf_K p s m args meth c "NumberForgeModel" nb_M_oneExact 12 none D a sz) : ∀ (xy0 : Int32) (M : nf_M) (H : Heap) (locs : List Loc) (ls : Array Slot), B_M_oneExact_203 post xy0 M → lv_has ls 12 [] → nf_W D a s sz H locs M → W p l e rm_M_oneExact s m args below meth c H locs 0 0 (nf_MQ below (nf_Q nf_jN D a post ex (nf_A a sz)) args s rm_M_oneExact.cells rm_M_oneExact.slots (nf_A a sz)) (F0 m 203 ls [.int xy0, .ref (a 19)]) := by
  have hx := K.1
  have hb := K.2.1
  intro xy0 M H locs ls h hl hw
  refine nf_put (M' := ms_I M 19 11 xy0) K hw 19 7 11 nw_942 rfl rfl rfl ni_M ny_M nq_M nn_M (by decide) rfl rfl rfl rfl (Nat.le_of_ble_eq_true rfl) d_M_oneExact_203 (fun H locs hw => ?_)
  obtain ⟨M1, eM1⟩ : ∃ z, z = ms_I M 19 11 xy0 := ⟨_, rfl⟩
  rw [← eM1] at hw
  have h := h M1 eM1
  exact nf_vret K hw d_M_oneExact_206 (Nat.le_of_ble_eq_true rfl) (Nat.le_of_ble_eq_true rfl) (r := ()) rfl h
theorem w_M_oneExact_188 {post : Unit → nf_M → Prop} (hfl : l.flags = flags0) (K : nf_K p s m args meth c "NumberForgeModel" nb_M_oneExact 12 none D a sz) : ∀ (x1 : Int32) (x4 : Int32) (xy0 : Int64) (M : nf_M) (H : Heap) (locs : List Loc) (ls : Array Slot), B_M_oneExact_188 post x1 x4 xy0 M → lv_has ls 12 [(0, .ref (a 19)), (1, .int x1), (4, .int x4)] → nf_W D a s sz H locs M → W p l e rm_M_oneExact s m args below meth c H locs 0 0 (nf_MQ below (nf_Q nf_jN D a post ex (nf_A a sz)) args s rm_M_oneExact.cells rm_M_oneExact.slots (nf_A a sz)) (F0 m 188 ls [.long xy0, .ref (a 19)]) := by
  have hx := K.1
  have hb := K.2.1
  intro x1 x4 xy0 M H locs ls h hl hw
  refine nf_put (M' := ms_L M 19 10 xy0) K hw 19 7 10 nw_941 rfl rfl rfl ni_M ny_M nq_M nn_M (by decide) rfl rfl rfl rfl (Nat.le_of_ble_eq_true rfl) d_M_oneExact_188 (fun H locs hw => ?_)
  obtain ⟨M1, eM1⟩ : ∃ z, z = ms_L M 19 10 xy0 := ⟨_, rfl⟩
  rw [← eM1] at hw
  have h := h M1 eM1
  refine lv_aload_n hx hb d_M_oneExact_191 rfl (lv_at hl 0 rfl) ?_
  refine lv_iload_n hx hb d_M_oneExact_192 rfl (lv_at hl 1 rfl) ?_
  refine lv_iconst (v := (2 : Int32)) hx hb d_M_oneExact_193 (by decide) ?_
  refine nf_ic_ge hx hb d_M_oneExact_194 (tgt := 202) (by decide) (fun hc => ?_) (fun hc => ?_)
  · have h := h.1 hc
    refine lv_iload hx hb d_M_oneExact_197 (lv_at hl 2 rfl) ?_
    refine lv_goto hx hb d_M_oneExact_199 (tgt := 203) (by decide) ?_
    exact w_M_oneExact_203 hfl K x4 M1 _ _ _ h (lv_sub hl [] rfl) hw
  · have h := h.2 hc
    refine lv_iconst (v := (0 : Int32)) hx hb d_M_oneExact_202 (by decide) ?_
    exact w_M_oneExact_203 hfl K (0 : Int32) M1 _ _ _ h (lv_sub hl [] rfl) hw
theorem w_M_oneExact_150 {post : Unit → nf_M → Prop} (hfl : l.flags = flags0) (K : nf_K p s m args meth c "NumberForgeModel" nb_M_oneExact 12 none D a sz) : ∀ (x1 : Int32) (x2 : Int64) (x4 : Int32) (x5 : Int64) (xy0 : Int32) (M : nf_M) (H : Heap) (locs : List Loc) (ls : Array Slot), B_M_oneExact_150 post x1 x2 x4 x5 xy0 M → lv_has ls 12 [(0, .ref (a 19)), (1, .int x1), (2, .long x2), (4, .int x4), (5, .long x5)] → nf_W D a s sz H locs M → W p l e rm_M_oneExact s m args below meth c H locs 0 0 (nf_MQ below (nf_Q nf_jN D a post ex (nf_A a sz)) args s rm_M_oneExact.cells rm_M_oneExact.slots (nf_A a sz)) (F0 m 150 ls [.int xy0]) := by
  have hx := K.1
  have hb := K.2.1
  intro x1 x2 x4 x5 xy0 M H locs ls h hl hw
  refine lv_istore (lv' := [(11, .int xy0), (0, .ref (a 19)), (1, .int x1), (2, .long x2), (4, .int x4), (5, .long x5)]) hx hb d_M_oneExact_150 hl (by decide) rfl (fun ls hl => ?_)
  refine lv_aload_n hx hb d_M_oneExact_152 rfl (lv_at hl 1 rfl) ?_
  refine lv_iload_n hx hb d_M_oneExact_153 rfl (lv_at hl 2 rfl) ?_
  refine nf_if_ne hx hb d_M_oneExact_154 (tgt := 162) (by decide) (fun hc => ?_) (fun hc => ?_)
  · have h := h.1 hc
    refine lv_lload_n hx hb d_M_oneExact_157 rfl (lv_at hl 3 rfl) ?_
    refine lv_lneg hx hb d_M_oneExact_158 ?_
    refine lv_goto hx hb d_M_oneExact_159 (tgt := 188) (by decide) ?_
    exact w_M_oneExact_188 hfl K x1 x4 (-x2) M _ _ _ h (lv_sub hl [1, 2, 4] rfl) hw
  · have h := h.2 hc
    refine lv_iload_n hx hb d_M_oneExact_162 rfl (lv_at hl 2 rfl) ?_
    refine lv_iconst (v := (1 : Int32)) hx hb d_M_oneExact_163 (by decide) ?_
    refine nf_ic_ne hx hb d_M_oneExact_164 (tgt := 174) (by decide) (fun hc => ?_) (fun hc => ?_)
    · have h := h.1 hc
      refine lv_lload_n hx hb d_M_oneExact_167 rfl (lv_at hl 3 rfl) ?_
      refine nf_callW (ex := (fun _ _ => False)) (As := [.long x2]) (st0 := [.long x2, .ref (a 19)]) (rest := [.ref (a 19)]) K hw (nf_invS hx hb K.2.2.2.1 (nf_Kg K nw_1124) (nf_Kg K nw_1125) (nf_Kg K nw_9) (nf_Kg K nw_1126) ⟨by decide, by decide⟩ rfl nl_M_amount rfl d_M_oneExact_168) (c_M_amount l hfl x2) nw_1126 nw_9 rfl ⟨by decide, by decide⟩ (Nat.le_of_ble_eq_true rfl) hl.1 ⟨Nat.le_of_ble_eq_true rfl, Nat.le_of_ble_eq_true rfl⟩ h (fun _ _ h => h.elim) (fun r1 M2 H locs h hw => ?_)
      refine W.eq (g2 := F0 m 171 ls [.long r1, .ref (a 19)]) rfl ?_
      refine lv_goto hx hb d_M_oneExact_171 (tgt := 188) (by decide) ?_
      exact w_M_oneExact_188 hfl K x1 x4 r1 M2 _ _ _ h (lv_sub hl [1, 2, 4] rfl) hw
    · have h := h.2 hc
      refine lv_iload hx hb d_M_oneExact_174 (lv_at hl 0 rfl) ?_
      refine nf_if_eq hx hb d_M_oneExact_176 (tgt := 186) (by decide) (fun hc => ?_) (fun hc => ?_)
      · have h := h.1 hc
        refine lv_lload hx hb d_M_oneExact_186 (lv_at hl 5 rfl) ?_
        exact w_M_oneExact_188 hfl K x1 x4 x5 M _ _ _ h (lv_sub hl [1, 2, 4] rfl) hw
      · have h := h.2 hc
        refine lv_lload hx hb d_M_oneExact_179 (lv_at hl 5 rfl) ?_
        refine lv_lconst (v := (1 : Int64)) hx hb d_M_oneExact_181 (by decide) ?_
        refine lv_ladd hx hb d_M_oneExact_182 ?_
        refine lv_goto hx hb d_M_oneExact_183 (tgt := 188) (by decide) ?_
        exact w_M_oneExact_188 hfl K x1 x4 (x5 + (1 : Int64)) M _ _ _ h (lv_sub hl [1, 2, 4] rfl) hw
theorem w_M_oneExact_96 {post : Unit → nf_M → Prop} (hfl : l.flags = flags0) (K : nf_K p s m args meth c "NumberForgeModel" nb_M_oneExact 12 none D a sz) : ∀ (x1 : Int32) (x2 : Int64) (x4 : Int32) (x5 : Int64) (M : nf_M) (H : Heap) (locs : List Loc) (ls : Array Slot), B_M_oneExact_96 post x1 x2 x4 x5 M → lv_has ls 12 [(0, .ref (a 19)), (1, .int x1), (2, .long x2), (4, .int x4), (5, .long x5)] → nf_W D a s sz H locs M → W p l e rm_M_oneExact s m args below meth c H locs 0 0 (nf_MQ below (nf_Q nf_jN D a post ex (nf_A a sz)) args s rm_M_oneExact.cells rm_M_oneExact.slots (nf_A a sz)) (F0 m 96 ls []) := by
  have hx := K.1
  have hb := K.2.1
  intro x1 x2 x4 x5 M H locs ls h hl hw
  refine lv_iconst (v := (0 : Int32)) hx hb d_M_oneExact_96 (by decide) ?_
  refine lv_goto hx hb d_M_oneExact_97 (tgt := 150) (by decide) ?_
  exact w_M_oneExact_150 hfl K x1 x2 x4 x5 (0 : Int32) M _ _ _ h (lv_sub hl [0, 1, 2, 3, 4] rfl) hw
theorem w_M_oneExact_145 {post : Unit → nf_M → Prop} (hfl : l.flags = flags0) (K : nf_K p s m args meth c "NumberForgeModel" nb_M_oneExact 12 none D a sz) : ∀ (x1 : Int32) (x2 : Int64) (x4 : Int32) (x5 : Int64) (M : nf_M) (H : Heap) (locs : List Loc) (ls : Array Slot), B_M_oneExact_145 post x1 x2 x4 x5 M → lv_has ls 12 [(0, .ref (a 19)), (1, .int x1), (2, .long x2), (4, .int x4), (5, .long x5)] → nf_W D a s sz H locs M → W p l e rm_M_oneExact s m args below meth c H locs 0 0 (nf_MQ below (nf_Q nf_jN D a post ex (nf_A a sz)) args s rm_M_oneExact.cells rm_M_oneExact.slots (nf_A a sz)) (F0 m 145 ls []) := by
  have hx := K.1
  have hb := K.2.1
  intro x1 x2 x4 x5 M H locs ls h hl hw
  refine lv_iconst (v := (1 : Int32)) hx hb d_M_oneExact_145 (by decide) ?_
  refine lv_goto hx hb d_M_oneExact_146 (tgt := 150) (by decide) ?_
  exact w_M_oneExact_150 hfl K x1 x2 x4 x5 (1 : Int32) M _ _ _ h (lv_sub hl [0, 1, 2, 3, 4] rfl) hw
theorem w_M_oneExact_149 {post : Unit → nf_M → Prop} (hfl : l.flags = flags0) (K : nf_K p s m args meth c "NumberForgeModel" nb_M_oneExact 12 none D a sz) : ∀ (x1 : Int32) (x2 : Int64) (x4 : Int32) (x5 : Int64) (M : nf_M) (H : Heap) (locs : List Loc) (ls : Array Slot), B_M_oneExact_149 post x1 x2 x4 x5 M → lv_has ls 12 [(0, .ref (a 19)), (1, .int x1), (2, .long x2), (4, .int x4), (5, .long x5)] → nf_W D a s sz H locs M → W p l e rm_M_oneExact s m args below meth c H locs 0 0 (nf_MQ below (nf_Q nf_jN D a post ex (nf_A a sz)) args s rm_M_oneExact.cells rm_M_oneExact.slots (nf_A a sz)) (F0 m 149 ls []) := by
  have hx := K.1
  have hb := K.2.1
  intro x1 x2 x4 x5 M H locs ls h hl hw
  refine lv_iconst (v := (0 : Int32)) hx hb d_M_oneExact_149 (by decide) ?_
  exact w_M_oneExact_150 hfl K x1 x2 x4 x5 (0 : Int32) M _ _ _ h (lv_sub hl [0, 1, 2, 3, 4] rfl) hw
theorem w_M_oneExact_41 {post : Unit → nf_M → Prop} (hfl : l.flags = flags0) (K : nf_K p s m args meth c "NumberForgeModel" nb_M_oneExact 12 none D a sz) : ∀ (x1 : Int32) (x2 : Int64) (x4 : Int32) (x5 : Int64) (x7 : Int64) (M : nf_M) (H : Heap) (locs : List Loc) (ls : Array Slot), B_M_oneExact_41 post x1 x2 x4 x5 x7 M → lv_has ls 12 [(0, .ref (a 19)), (1, .int x1), (2, .long x2), (4, .int x4), (5, .long x5), (7, .long x7)] → nf_W D a s sz H locs M → W p l e rm_M_oneExact s m args below meth c H locs 0 0 (nf_MQ below (nf_Q nf_jN D a post ex (nf_A a sz)) args s rm_M_oneExact.cells rm_M_oneExact.slots (nf_A a sz)) (F0 m 41 ls []) := by
  have hx := K.1
  have hb := K.2.1
  intro x1 x2 x4 x5 x7 M H locs ls h hl hw
  refine lv_ldc2 (v := (2 : Int64)) hx hb K.2.2.2.1 (nf_Kg K nw_1156) d_M_oneExact_41 ?_
  refine lv_lload hx hb d_M_oneExact_44 (lv_at hl 5 rfl) ?_
  refine lv_lmul hx hb d_M_oneExact_46 ?_
  refine lv_topl (fun t1 et1 => ?_)
  have h := h t1 et1
  refine lv_lstore (lv' := [(9, .long t1), (0, .ref (a 19)), (1, .int x1), (2, .long x2), (4, .int x4), (5, .long x5), (7, .long x7)]) hx hb d_M_oneExact_47 hl (by decide) rfl (fun ls hl => ?_)
  refine lv_iload_n hx hb d_M_oneExact_49 rfl (lv_at hl 2 rfl) ?_
  refine lv_iconst (v := (3 : Int32)) hx hb d_M_oneExact_50 (by decide) ?_
  refine nf_ic_ne hx hb d_M_oneExact_51 (tgt := 69) (by decide) (fun hc => ?_) (fun hc => ?_)
  · have h := h.1 hc
    refine lv_lload hx hb d_M_oneExact_54 (lv_at hl 6 rfl) ?_
    refine lv_lconst (v := (0 : Int64)) hx hb d_M_oneExact_56 (by decide) ?_
    refine nf_lc_le hx hb d_M_oneExact_57 d_M_oneExact_58 (tgt := 65) (by decide) (fun hc => ?_) (fun hc => ?_)
    · have h := h.1 hc
      refine lv_iconst (v := (1 : Int32)) hx hb d_M_oneExact_61 (by decide) ?_
      refine lv_goto hx hb d_M_oneExact_62 (tgt := 150) (by decide) ?_
      exact w_M_oneExact_150 hfl K x1 x2 x4 x5 (1 : Int32) M _ _ _ h (lv_sub hl [1, 2, 3, 4, 5] rfl) hw
    · have h := h.2 hc
      refine lv_iconst (v := (0 : Int32)) hx hb d_M_oneExact_65 (by decide) ?_
      refine lv_goto hx hb d_M_oneExact_66 (tgt := 150) (by decide) ?_
      exact w_M_oneExact_150 hfl K x1 x2 x4 x5 (0 : Int32) M _ _ _ h (lv_sub hl [1, 2, 3, 4, 5] rfl) hw
  · have h := h.2 hc
    refine lv_iload_n hx hb d_M_oneExact_69 rfl (lv_at hl 2 rfl) ?_
    refine lv_iconst (v := (4 : Int32)) hx hb d_M_oneExact_70 (by decide) ?_
    refine nf_ic_ne hx hb d_M_oneExact_71 (tgt := 100) (by decide) (fun hc => ?_) (fun hc => ?_)
    · have h := h.1 hc
      refine lv_lload hx hb d_M_oneExact_74 (lv_at hl 6 rfl) ?_
      refine lv_lconst (v := (0 : Int64)) hx hb d_M_oneExact_76 (by decide) ?_
      refine nf_lc_le hx hb d_M_oneExact_77 d_M_oneExact_78 (tgt := 96) (by decide) (fun hc => ?_) (fun hc => ?_)
      · have h := h.1 hc
        refine lv_lload hx hb d_M_oneExact_81 (lv_at hl 0 rfl) ?_
        refine lv_iload hx hb d_M_oneExact_83 (lv_at hl 4 rfl) ?_
        refine nf_callW (ex := (fun _ _ => False)) (As := [.int x4]) (st0 := [.int x4, .long t1]) (rest := [.long t1]) K hw (nf_invS hx hb K.2.2.2.1 (nf_Kg K nw_1066) (nf_Kg K nw_1067) (nf_Kg K nw_9) (nf_Kg K nw_1068) ⟨by decide, by decide⟩ rfl nl_M_power rfl d_M_oneExact_85) (c_M_power l hfl x4) nw_1068 nw_9 rfl ⟨by decide, by decide⟩ (Nat.le_of_ble_eq_true rfl) hl.1 ⟨Nat.le_of_ble_eq_true rfl, Nat.le_of_ble_eq_true rfl⟩ h (fun _ _ h => h.elim) (fun r2 M3 H locs h hw => ?_)
        refine W.eq (g2 := F0 m 88 ls [.long r2, .long t1]) rfl ?_
        refine nf_lc_lt hx hb d_M_oneExact_88 d_M_oneExact_89 (tgt := 96) (by decide) (fun hc => ?_) (fun hc => ?_)
        · have h := h.1 hc
          exact w_M_oneExact_96 hfl K x1 x2 x4 x5 M3 _ _ _ h (lv_sub hl [1, 2, 3, 4, 5] rfl) hw
        · have h := h.2 hc
          refine lv_iconst (v := (1 : Int32)) hx hb d_M_oneExact_92 (by decide) ?_
          refine lv_goto hx hb d_M_oneExact_93 (tgt := 150) (by decide) ?_
          exact w_M_oneExact_150 hfl K x1 x2 x4 x5 (1 : Int32) M3 _ _ _ h (lv_sub hl [1, 2, 3, 4, 5] rfl) hw
      · have h := h.2 hc
        exact w_M_oneExact_96 hfl K x1 x2 x4 x5 M _ _ _ h (lv_sub hl [1, 2, 3, 4, 5] rfl) hw
    · have h := h.2 hc
      refine lv_iload_n hx hb d_M_oneExact_100 rfl (lv_at hl 2 rfl) ?_
      refine lv_iconst (v := (5 : Int32)) hx hb d_M_oneExact_101 (by decide) ?_
      refine nf_ic_ne hx hb d_M_oneExact_102 (tgt := 149) (by decide) (fun hc => ?_) (fun hc => ?_)
      · have h := h.1 hc
        refine lv_lload hx hb d_M_oneExact_105 (lv_at hl 6 rfl) ?_
        refine lv_lconst (v := (0 : Int64)) hx hb d_M_oneExact_107 (by decide) ?_
        refine nf_lc_le hx hb d_M_oneExact_108 d_M_oneExact_109 (tgt := 149) (by decide) (fun hc => ?_) (fun hc => ?_)
        · have h := h.1 hc
          refine lv_lload hx hb d_M_oneExact_112 (lv_at hl 0 rfl) ?_
          refine lv_iload hx hb d_M_oneExact_114 (lv_at hl 4 rfl) ?_
          refine nf_callW (ex := (fun _ _ => False)) (As := [.int x4]) (st0 := [.int x4, .long t1]) (rest := [.long t1]) K hw (nf_invS hx hb K.2.2.2.1 (nf_Kg K nw_1066) (nf_Kg K nw_1067) (nf_Kg K nw_9) (nf_Kg K nw_1068) ⟨by decide, by decide⟩ rfl nl_M_power rfl d_M_oneExact_116) (c_M_power l hfl x4) nw_1068 nw_9 rfl ⟨by decide, by decide⟩ (Nat.le_of_ble_eq_true rfl) hl.1 ⟨Nat.le_of_ble_eq_true rfl, Nat.le_of_ble_eq_true rfl⟩ h (fun _ _ h => h.elim) (fun r4 M5 H locs h hw => ?_)
          refine W.eq (g2 := F0 m 119 ls [.long r4, .long t1]) rfl ?_
          refine nf_lc_gt hx hb d_M_oneExact_119 d_M_oneExact_120 (tgt := 145) (by decide) (fun hc => ?_) (fun hc => ?_)
          · have h := h.1 hc
            exact w_M_oneExact_145 hfl K x1 x2 x4 x5 M5 _ _ _ h (lv_sub hl [1, 2, 3, 4, 5] rfl) hw
          · have h := h.2 hc
            refine lv_lload hx hb d_M_oneExact_123 (lv_at hl 0 rfl) ?_
            refine lv_iload hx hb d_M_oneExact_125 (lv_at hl 4 rfl) ?_
            refine nf_callW (ex := (fun _ _ => False)) (As := [.int x4]) (st0 := [.int x4, .long t1]) (rest := [.long t1]) K hw (nf_invS hx hb K.2.2.2.1 (nf_Kg K nw_1066) (nf_Kg K nw_1067) (nf_Kg K nw_9) (nf_Kg K nw_1068) ⟨by decide, by decide⟩ rfl nl_M_power rfl d_M_oneExact_127) (c_M_power l hfl x4) nw_1068 nw_9 rfl ⟨by decide, by decide⟩ (Nat.le_of_ble_eq_true rfl) hl.1 ⟨Nat.le_of_ble_eq_true rfl, Nat.le_of_ble_eq_true rfl⟩ h (fun _ _ h => h.elim) (fun r6 M7 H locs h hw => ?_)
            refine W.eq (g2 := F0 m 130 ls [.long r6, .long t1]) rfl ?_
            refine nf_lc_ne hx hb d_M_oneExact_130 d_M_oneExact_131 (tgt := 149) (by decide) (fun hc => ?_) (fun hc => ?_)
            · have h := h.1 hc
              refine lv_lload hx hb d_M_oneExact_134 (lv_at hl 5 rfl) ?_
              refine lv_ldc2 (v := (2 : Int64)) hx hb K.2.2.2.1 (nf_Kg K nw_1156) d_M_oneExact_136 ?_
              refine lv_lrem hx hb d_M_oneExact_139 (by decide) ?_
              refine lv_lconst (v := (0 : Int64)) hx hb d_M_oneExact_140 (by decide) ?_
              refine nf_lc_eq hx hb d_M_oneExact_141 d_M_oneExact_142 (tgt := 149) (by decide) (fun hc => ?_) (fun hc => ?_)
              · have h := h.1 hc
                exact w_M_oneExact_149 hfl K x1 x2 x4 x5 M7 _ _ _ h (lv_sub hl [1, 2, 3, 4, 5] rfl) hw
              · have h := h.2 hc
                exact w_M_oneExact_145 hfl K x1 x2 x4 x5 M7 _ _ _ h (lv_sub hl [1, 2, 3, 4, 5] rfl) hw
            · have h := h.2 hc
              exact w_M_oneExact_149 hfl K x1 x2 x4 x5 M7 _ _ _ h (lv_sub hl [1, 2, 3, 4, 5] rfl) hw
        · have h := h.2 hc
          exact w_M_oneExact_149 hfl K x1 x2 x4 x5 M _ _ _ h (lv_sub hl [1, 2, 3, 4, 5] rfl) hw
      · have h := h.2 hc
        exact w_M_oneExact_149 hfl K x1 x2 x4 x5 M _ _ _ h (lv_sub hl [1, 2, 3, 4, 5] rfl) hw
theorem c_M_oneExact (l : Launch) (hfl : l.flags = flags0) (x1 : Int32) (x2 : Int64) (x4 : Int32) : nf_C nf_jN l nm_M_oneExact nb_M_oneExact 12 none rm_M_oneExact (fun a => [.ref (a 19), .int x1, .long x2, .int x4]) (fun M post ex => P_M_oneExact x1 x2 x4 M post) := by
  refine nf_start (plainFor_of_name (by decide +kernel)) (fun a => Nat.le_of_ble_eq_true rfl) ?_
  intro D a sz M post ex p e s m below meth c ls h K hl hw
  have hx := K.1
  have hb := K.2.1
  have hl : lv_has ls 12 [(0, .ref (a 19)), (1, .int x1), (2, .long x2), (4, .int x4)] := hl
  refine lv_lload_n hx hb d_M_oneExact_0 rfl (lv_at hl 2 rfl) ?_
  refine lv_iload hx hb d_M_oneExact_1 (lv_at hl 3 rfl) ?_
  refine nf_callW (ex := (fun _ _ => False)) (As := [.int x4]) (st0 := [.int x4, .long x2]) (rest := [.long x2]) K hw (nf_invS hx hb K.2.2.2.1 (nf_Kg K nw_1066) (nf_Kg K nw_1067) (nf_Kg K nw_9) (nf_Kg K nw_1068) ⟨by decide, by decide⟩ rfl nl_M_power rfl d_M_oneExact_3) (c_M_power l hfl x4) nw_1068 nw_9 rfl ⟨by decide, by decide⟩ (Nat.le_of_ble_eq_true rfl) hl.1 ⟨Nat.le_of_ble_eq_true rfl, Nat.le_of_ble_eq_true rfl⟩ h (fun _ _ h => h.elim) (fun r1 M2 H locs h hw => ?_)
  refine W.eq (g2 := F0 m 6 ls [.long r1, .long x2]) rfl ?_
  obtain ⟨g3, h⟩ := h
  refine lv_ldiv hx hb d_M_oneExact_6 g3 ?_
  refine lv_topl (fun t4 et4 => ?_)
  have h := h t4 et4
  refine lv_lstore (lv' := [(5, .long t4), (0, .ref (a 19)), (1, .int x1), (2, .long x2), (4, .int x4)]) hx hb d_M_oneExact_7 hl (by decide) rfl (fun ls hl => ?_)
  refine lv_lload_n hx hb d_M_oneExact_9 rfl (lv_at hl 3 rfl) ?_
  refine lv_iload hx hb d_M_oneExact_10 (lv_at hl 4 rfl) ?_
  refine nf_callW (ex := (fun _ _ => False)) (As := [.int x4]) (st0 := [.int x4, .long x2]) (rest := [.long x2]) K hw (nf_invS hx hb K.2.2.2.1 (nf_Kg K nw_1066) (nf_Kg K nw_1067) (nf_Kg K nw_9) (nf_Kg K nw_1068) ⟨by decide, by decide⟩ rfl nl_M_power rfl d_M_oneExact_12) (c_M_power l hfl x4) nw_1068 nw_9 rfl ⟨by decide, by decide⟩ (Nat.le_of_ble_eq_true rfl) hl.1 ⟨Nat.le_of_ble_eq_true rfl, Nat.le_of_ble_eq_true rfl⟩ h (fun _ _ h => h.elim) (fun r5 M6 H locs h hw => ?_)
  refine W.eq (g2 := F0 m 15 ls [.long r5, .long x2]) rfl ?_
  obtain ⟨g7, h⟩ := h
  refine lv_lrem hx hb d_M_oneExact_15 g7 ?_
  refine lv_topl (fun t8 et8 => ?_)
  have h := h t8 et8
  refine lv_lstore (lv' := [(7, .long t8), (5, .long t4), (0, .ref (a 19)), (1, .int x1), (2, .long x2), (4, .int x4)]) hx hb d_M_oneExact_16 hl (by decide) rfl (fun ls hl => ?_)
  refine lv_lload hx hb d_M_oneExact_18 (lv_at hl 0 rfl) ?_
  refine lv_lconst (v := (0 : Int64)) hx hb d_M_oneExact_20 (by decide) ?_
  refine nf_lc_ge hx hb d_M_oneExact_21 d_M_oneExact_22 (tgt := 41) (by decide) (fun hc => ?_) (fun hc => ?_)
  · have h := h.1 hc
    refine lv_lload hx hb d_M_oneExact_25 (lv_at hl 1 rfl) ?_
    refine lv_lconst (v := (1 : Int64)) hx hb d_M_oneExact_27 (by decide) ?_
    refine lv_lsub hx hb d_M_oneExact_28 ?_
    refine lv_topl (fun t9 et9 => ?_)
    have h := h t9 et9
    refine lv_lstore (lv' := [(5, .long t9), (7, .long t8), (0, .ref (a 19)), (1, .int x1), (2, .long x2), (4, .int x4)]) hx hb d_M_oneExact_29 hl (by decide) rfl (fun ls hl => ?_)
    refine lv_lload hx hb d_M_oneExact_31 (lv_at hl 1 rfl) ?_
    refine lv_iload hx hb d_M_oneExact_33 (lv_at hl 5 rfl) ?_
    refine nf_callW (ex := (fun _ _ => False)) (As := [.int x4]) (st0 := [.int x4, .long t8]) (rest := [.long t8]) K hw (nf_invS hx hb K.2.2.2.1 (nf_Kg K nw_1066) (nf_Kg K nw_1067) (nf_Kg K nw_9) (nf_Kg K nw_1068) ⟨by decide, by decide⟩ rfl nl_M_power rfl d_M_oneExact_35) (c_M_power l hfl x4) nw_1068 nw_9 rfl ⟨by decide, by decide⟩ (Nat.le_of_ble_eq_true rfl) hl.1 ⟨Nat.le_of_ble_eq_true rfl, Nat.le_of_ble_eq_true rfl⟩ h (fun _ _ h => h.elim) (fun r10 M11 H locs h hw => ?_)
    refine W.eq (g2 := F0 m 38 ls [.long r10, .long t8]) rfl ?_
    refine lv_ladd hx hb d_M_oneExact_38 ?_
    refine lv_topl (fun t12 et12 => ?_)
    have h := h t12 et12
    refine lv_lstore (lv' := [(7, .long t12), (5, .long t9), (0, .ref (a 19)), (1, .int x1), (2, .long x2), (4, .int x4)]) hx hb d_M_oneExact_39 hl (by decide) rfl (fun ls hl => ?_)
    exact w_M_oneExact_41 hfl K x1 x2 x4 t9 t12 M11 _ _ _ h (lv_sub hl [2, 3, 4, 5, 1, 0] rfl) hw
  · have h := h.2 hc
    exact w_M_oneExact_41 hfl K x1 x2 x4 t4 t8 M6 _ _ _ h (lv_sub hl [2, 3, 4, 5, 1, 0] rfl) hw
end NW7
