/-! walks (printed by wip/whole/gen/drive.py) -/
section NW0
variable {p : Program} {l : Launch} {e : Env} {s : State} {m : MethodId} {args : Array Value} {below : List Frame} {meth : Method} {c : Code} {D : va_G} {a : Nat → Nat} {sz : Nat} {ex : Nat → nf_M → Prop}
theorem d_JM_max_0 : decode nb_JM_max 0 = .ok (.iload_n 0, 1) := by decide +kernel
theorem d_JM_max_1 : decode nb_JM_max 1 = .ok (.iload_n 1, 1) := by decide +kernel
theorem d_JM_max_2 : decode nb_JM_max 2 = .ok (.if_icmp .lt 7, 3) := by decide +kernel
theorem d_JM_max_5 : decode nb_JM_max 5 = .ok (.iload_n 0, 1) := by decide +kernel
theorem d_JM_max_6 : decode nb_JM_max 6 = .ok (.goto 4, 3) := by decide +kernel
theorem d_JM_max_9 : decode nb_JM_max 9 = .ok (.iload_n 1, 1) := by decide +kernel
theorem d_JM_max_10 : decode nb_JM_max 10 = .ok (.ireturn, 1) := by decide +kernel
abbrev rm_JM_max : Room := ({ frames := 0, cells := 0, slots := 0, locals := 0 })
theorem w_JM_max_10 {post : Int32 → nf_M → Prop} (hfl : l.flags = flags0) (K : nf_K p s m args meth c "java/lang/Math" nb_JM_max 2 (some FieldType.int) D a sz) : ∀ (xy0 : Int32) (M : nf_M) (H : Heap) (locs : List Loc) (ls : Array Slot), B_JM_max_10 post xy0 M → lv_has ls 2 [] → nf_W D a s sz H locs M → W p l e rm_JM_max s m args below meth c H locs 0 0 (nf_MQ below (nf_Q nf_jI D a post ex (nf_A a sz)) args s rm_JM_max.cells rm_JM_max.slots (nf_A a sz)) (F0 m 10 ls [.int xy0]) := by
  have hx := K.1
  have hb := K.2.1
  intro xy0 M H locs ls h hl hw
  exact nf_iret K hw d_JM_max_10 rfl (Nat.le_of_ble_eq_true rfl) (Nat.le_of_ble_eq_true rfl) (r := xy0) rfl h
theorem c_JM_max (l : Launch) (hfl : l.flags = flags0) (x0 : Int32) (x1 : Int32) : nf_C nf_jI l nm_JM_max nb_JM_max 2 (some FieldType.int) rm_JM_max (fun a => [.int x0, .int x1]) (fun M post ex => P_JM_max x0 x1 M post) := by
  refine nf_start (by decide +kernel) (fun a => Nat.le_of_ble_eq_true rfl) ?_
  intro D a sz M post ex p e s m below meth c ls h K hl hw
  have hx := K.1
  have hb := K.2.1
  have hl : lv_has ls 2 [(0, .int x0), (1, .int x1)] := hl
  refine lv_iload_n hx hb d_JM_max_0 rfl (lv_at hl 0 rfl) ?_
  refine lv_iload_n hx hb d_JM_max_1 rfl (lv_at hl 1 rfl) ?_
  refine nf_ic_lt hx hb d_JM_max_2 (tgt := 9) (by decide) (fun hc => ?_) (fun hc => ?_)
  · have h := h.1 hc
    refine lv_iload_n hx hb d_JM_max_9 rfl (lv_at hl 1 rfl) ?_
    exact w_JM_max_10 hfl K x1 M _ _ _ h (lv_sub hl [] rfl) hw
  · have h := h.2 hc
    refine lv_iload_n hx hb d_JM_max_5 rfl (lv_at hl 0 rfl) ?_
    refine lv_goto hx hb d_JM_max_6 (tgt := 10) (by decide) ?_
    exact w_JM_max_10 hfl K x0 M _ _ _ h (lv_sub hl [] rfl) hw
theorem d_R_add_0 : decode nb_R_add 0 = .ok (.aload_n 0, 1) := by decide +kernel
theorem d_R_add_1 : decode nb_R_add 1 = .ok (.getfield 19, 3) := by decide +kernel
theorem d_R_add_4 : decode nb_R_add 4 = .ok (.ifCond .lt 35, 3) := by decide +kernel
theorem d_R_add_7 : decode nb_R_add 7 = .ok (.aload_n 0, 1) := by decide +kernel
theorem d_R_add_8 : decode nb_R_add 8 = .ok (.getfield 19, 3) := by decide +kernel
theorem d_R_add_11 : decode nb_R_add 11 = .ok (.aload_n 0, 1) := by decide +kernel
theorem d_R_add_12 : decode nb_R_add 12 = .ok (.getfield 13, 3) := by decide +kernel
theorem d_R_add_15 : decode nb_R_add 15 = .ok (.arraylength, 1) := by decide +kernel
theorem d_R_add_16 : decode nb_R_add 16 = .ok (.if_icmp .ge 23, 3) := by decide +kernel
theorem d_R_add_19 : decode nb_R_add 19 = .ok (.aload_n 0, 1) := by decide +kernel
theorem d_R_add_20 : decode nb_R_add 20 = .ok (.getfield 13, 3) := by decide +kernel
theorem d_R_add_23 : decode nb_R_add 23 = .ok (.aload_n 0, 1) := by decide +kernel
theorem d_R_add_24 : decode nb_R_add 24 = .ok (.getfield 19, 3) := by decide +kernel
theorem d_R_add_27 : decode nb_R_add 27 = .ok (.iload_n 1, 1) := by decide +kernel
theorem d_R_add_28 : decode nb_R_add 28 = .ok (.castore, 1) := by decide +kernel
theorem d_R_add_29 : decode nb_R_add 29 = .ok (.aload_n 0, 1) := by decide +kernel
theorem d_R_add_30 : decode nb_R_add 30 = .ok (.dup, 1) := by decide +kernel
theorem d_R_add_31 : decode nb_R_add 31 = .ok (.getfield 19, 3) := by decide +kernel
theorem d_R_add_34 : decode nb_R_add 34 = .ok (.iconst 1, 1) := by decide +kernel
theorem d_R_add_35 : decode nb_R_add 35 = .ok (.iadd, 1) := by decide +kernel
theorem d_R_add_36 : decode nb_R_add 36 = .ok (.putfield 19, 3) := by decide +kernel
theorem d_R_add_39 : decode nb_R_add 39 = .ok (.return_, 1) := by decide +kernel
abbrev rm_R_add : Room := ({ frames := 0, cells := 0, slots := 0, locals := 0 })
theorem w_R_add_39 {post : Unit → nf_M → Prop} (hfl : l.flags = flags0) (K : nf_K p s m args meth c "NumberForge$Row" nb_R_add 2 none D a sz) : ∀ (M : nf_M) (H : Heap) (locs : List Loc) (ls : Array Slot), B_R_add_39 post  M → lv_has ls 2 [] → nf_W D a s sz H locs M → W p l e rm_R_add s m args below meth c H locs 0 0 (nf_MQ below (nf_Q nf_jN D a post ex (nf_A a sz)) args s rm_R_add.cells rm_R_add.slots (nf_A a sz)) (F0 m 39 ls []) := by
  have hx := K.1
  have hb := K.2.1
  intro  M H locs ls h hl hw
  exact nf_vret K hw d_R_add_39 (Nat.le_of_ble_eq_true rfl) (Nat.le_of_ble_eq_true rfl) (r := ()) rfl h
theorem c_R_add (l : Launch) (hfl : l.flags = flags0) (b0 : Bool) (x1 : Int32) : nf_C nf_jN l nm_R_add nb_R_add 2 none rm_R_add (fun a => [.ref (a (nf_ro b0)), .int x1]) (fun M post ex => P_R_add b0 x1 M post) := by
  refine nf_start (plainFor_of_name (by decide +kernel)) (fun a => Nat.le_of_ble_eq_true rfl) ?_
  intro D a sz M post ex p e s m below meth c ls h K hl hw
  have hx := K.1
  have hb := K.2.1
  have hl : lv_has ls 2 [(0, .ref (a (nf_ro b0))), (1, .int x1)] := hl
  refine lv_aload_n hx hb d_R_add_0 rfl (lv_at hl 0 rfl) ?_
  refine nf_get (v := .int (mg_N M b0)) K hw (nf_ro b0) 3 1 nw_67 (nf_heR _ _ _) rfl ni_R (by decide) rfl rfl d_R_add_1 ?_
  refine nf_if_lt hx hb d_R_add_4 (tgt := 39) (by decide) (fun hc => ?_) (fun hc => ?_)
  · have h := h.1 hc
    exact w_R_add_39 hfl K  M _ _ _ h (lv_sub hl [] rfl) hw
  · have h := h.2 hc
    refine lv_aload_n hx hb d_R_add_7 rfl (lv_at hl 0 rfl) ?_
    refine nf_get (v := .int (mg_N M b0)) K hw (nf_ro b0) 3 1 nw_67 (nf_heR _ _ _) rfl ni_R (by decide) rfl rfl d_R_add_8 ?_
    refine lv_aload_n hx hb d_R_add_11 rfl (lv_at hl 0 rfl) ?_
    refine nf_get (v := .ref (a (nf_ro b0 + 1))) K hw (nf_ro b0) 3 0 nw_66 (nf_heR _ _ _) rfl ni_R (by decide) rfl rfl d_R_add_12 ?_
    refine nf_clen K hw d_R_add_15 ?_
    refine nf_ic_ge hx hb d_R_add_16 (tgt := 39) (by decide) (fun hc => ?_) (fun hc => ?_)
    · have h := h.1 hc
      refine lv_aload_n hx hb d_R_add_19 rfl (lv_at hl 0 rfl) ?_
      refine nf_get (v := .ref (a (nf_ro b0 + 1))) K hw (nf_ro b0) 3 0 nw_66 (nf_heR _ _ _) rfl ni_R (by decide) rfl rfl d_R_add_20 ?_
      refine lv_aload_n hx hb d_R_add_23 rfl (lv_at hl 0 rfl) ?_
      refine nf_get (v := .int (mg_N M b0)) K hw (nf_ro b0) 3 1 nw_67 (nf_heR _ _ _) rfl ni_R (by decide) rfl rfl d_R_add_24 ?_
      refine lv_iload_n hx hb d_R_add_27 rfl (lv_at hl 1 rfl) ?_
      obtain ⟨g1, h⟩ := h
      refine nf_cast K hw g1 d_R_add_28 (fun H locs hw => ?_)
      obtain ⟨M2, eM2⟩ : ∃ z, z = ms_C M b0 (mg_N M b0).toNatClampNeg (vp_nar .char x1) := ⟨_, rfl⟩
      rw [← eM2] at hw
      have h := h M2 eM2
      refine lv_aload_n hx hb d_R_add_29 rfl (lv_at hl 0 rfl) ?_
      refine lv_dup hx hb d_R_add_30 rfl ?_
      refine nf_get (v := .int (mg_N M2 b0)) K hw (nf_ro b0) 3 1 nw_67 (nf_heR _ _ _) rfl ni_R (by decide) rfl rfl d_R_add_31 ?_
      refine lv_iconst (v := (1 : Int32)) hx hb d_R_add_34 (by decide) ?_
      refine lv_iadd hx hb d_R_add_35 ?_
      refine lv_topi (fun t3 et3 => ?_)
      have h := h t3 et3
      refine nf_put (M' := ms_N M2 b0 t3) K hw (nf_ro b0) 3 1 nw_67 (nf_heR _ _ _) (nf_setN _ _ _ _) rfl ni_R ny_R nq_R nn_R (by decide) rfl rfl rfl rfl (Nat.le_of_ble_eq_true rfl) d_R_add_36 (fun H locs hw => ?_)
      obtain ⟨M4, eM4⟩ : ∃ z, z = ms_N M2 b0 t3 := ⟨_, rfl⟩
      rw [← eM4] at hw
      have h := h M4 eM4
      exact w_R_add_39 hfl K  M4 _ _ _ h (lv_sub hl [] rfl) hw
    · have h := h.2 hc
      exact w_R_add_39 hfl K  M _ _ _ h (lv_sub hl [] rfl) hw
theorem d_F_type_0 : decode nb_F_type 0 = .ok (.iconst 0, 1) := by decide +kernel
theorem d_F_type_1 : decode nb_F_type 1 = .ok (.istore_n 3, 1) := by decide +kernel
theorem d_F_type_2 : decode nb_F_type 2 = .ok (.bipush 56, 2) := by decide +kernel
theorem d_F_type_4 : decode nb_F_type 4 = .ok (.istore 4, 2) := by decide +kernel
theorem d_F_type_6 : decode nb_F_type 6 = .ok (.iload 4, 2) := by decide +kernel
theorem d_F_type_8 : decode nb_F_type 8 = .ok (.ifCond .lt 54, 3) := by decide +kernel
theorem d_F_type_11 : decode nb_F_type 11 = .ok (.lload_n 1, 1) := by decide +kernel
theorem d_F_type_12 : decode nb_F_type 12 = .ok (.iload 4, 2) := by decide +kernel
theorem d_F_type_14 : decode nb_F_type 14 = .ok (.lushr, 1) := by decide +kernel
theorem d_F_type_15 : decode nb_F_type 15 = .ok (.l2i, 1) := by decide +kernel
theorem d_F_type_16 : decode nb_F_type 16 = .ok (.sipush 255, 3) := by decide +kernel
theorem d_F_type_19 : decode nb_F_type 19 = .ok (.iand, 1) := by decide +kernel
theorem d_F_type_20 : decode nb_F_type 20 = .ok (.istore 5, 2) := by decide +kernel
theorem d_F_type_22 : decode nb_F_type 22 = .ok (.iload 5, 2) := by decide +kernel
theorem d_F_type_24 : decode nb_F_type 24 = .ok (.ifCond .eq 19, 3) := by decide +kernel
theorem d_F_type_27 : decode nb_F_type 27 = .ok (.iload 5, 2) := by decide +kernel
theorem d_F_type_29 : decode nb_F_type 29 = .ok (.bipush 32, 2) := by decide +kernel
theorem d_F_type_31 : decode nb_F_type 31 = .ok (.if_icmp .lt 10, 3) := by decide +kernel
theorem d_F_type_34 : decode nb_F_type 34 = .ok (.iload 5, 2) := by decide +kernel
theorem d_F_type_36 : decode nb_F_type 36 = .ok (.bipush 126, 2) := by decide +kernel
theorem d_F_type_38 : decode nb_F_type 38 = .ok (.if_icmp .le 5, 3) := by decide +kernel
theorem d_F_type_41 : decode nb_F_type 41 = .ok (.iconst 0, 1) := by decide +kernel
theorem d_F_type_42 : decode nb_F_type 42 = .ok (.ireturn, 1) := by decide +kernel
theorem d_F_type_43 : decode nb_F_type 43 = .ok (.iload_n 3, 1) := by decide +kernel
theorem d_F_type_44 : decode nb_F_type 44 = .ok (.iload 5, 2) := by decide +kernel
theorem d_F_type_46 : decode nb_F_type 46 = .ok (.ifCond .ne 7, 3) := by decide +kernel
theorem d_F_type_49 : decode nb_F_type 49 = .ok (.iconst 0, 1) := by decide +kernel
theorem d_F_type_50 : decode nb_F_type 50 = .ok (.goto 4, 3) := by decide +kernel
theorem d_F_type_53 : decode nb_F_type 53 = .ok (.iconst 1, 1) := by decide +kernel
theorem d_F_type_54 : decode nb_F_type 54 = .ok (.iadd, 1) := by decide +kernel
theorem d_F_type_55 : decode nb_F_type 55 = .ok (.istore_n 3, 1) := by decide +kernel
theorem d_F_type_56 : decode nb_F_type 56 = .ok (.iinc 4 (-8), 3) := by decide +kernel
theorem d_F_type_59 : decode nb_F_type 59 = .ok (.goto (-53), 3) := by decide +kernel
theorem d_F_type_62 : decode nb_F_type 62 = .ok (.aload_n 0, 1) := by decide +kernel
theorem d_F_type_63 : decode nb_F_type 63 = .ok (.getfield 25, 3) := by decide +kernel
theorem d_F_type_66 : decode nb_F_type 66 = .ok (.getfield 60, 3) := by decide +kernel
theorem d_F_type_69 : decode nb_F_type 69 = .ok (.iload_n 3, 1) := by decide +kernel
theorem d_F_type_70 : decode nb_F_type 70 = .ok (.iadd, 1) := by decide +kernel
theorem d_F_type_71 : decode nb_F_type 71 = .ok (.bipush 40, 2) := by decide +kernel
theorem d_F_type_73 : decode nb_F_type 73 = .ok (.if_icmp .le 5, 3) := by decide +kernel
theorem d_F_type_76 : decode nb_F_type 76 = .ok (.iconst 0, 1) := by decide +kernel
theorem d_F_type_77 : decode nb_F_type 77 = .ok (.ireturn, 1) := by decide +kernel
theorem d_F_type_78 : decode nb_F_type 78 = .ok (.bipush 56, 2) := by decide +kernel
theorem d_F_type_80 : decode nb_F_type 80 = .ok (.istore 4, 2) := by decide +kernel
theorem d_F_type_82 : decode nb_F_type 82 = .ok (.iload 4, 2) := by decide +kernel
theorem d_F_type_84 : decode nb_F_type 84 = .ok (.ifCond .lt 35, 3) := by decide +kernel
theorem d_F_type_87 : decode nb_F_type 87 = .ok (.lload_n 1, 1) := by decide +kernel
theorem d_F_type_88 : decode nb_F_type 88 = .ok (.iload 4, 2) := by decide +kernel
theorem d_F_type_90 : decode nb_F_type 90 = .ok (.lushr, 1) := by decide +kernel
theorem d_F_type_91 : decode nb_F_type 91 = .ok (.l2i, 1) := by decide +kernel
theorem d_F_type_92 : decode nb_F_type 92 = .ok (.sipush 255, 3) := by decide +kernel
theorem d_F_type_95 : decode nb_F_type 95 = .ok (.iand, 1) := by decide +kernel
theorem d_F_type_96 : decode nb_F_type 96 = .ok (.istore 5, 2) := by decide +kernel
theorem d_F_type_98 : decode nb_F_type 98 = .ok (.iload 5, 2) := by decide +kernel
theorem d_F_type_100 : decode nb_F_type 100 = .ok (.ifCond .eq 13, 3) := by decide +kernel
theorem d_F_type_103 : decode nb_F_type 103 = .ok (.aload_n 0, 1) := by decide +kernel
theorem d_F_type_104 : decode nb_F_type 104 = .ok (.getfield 25, 3) := by decide +kernel
theorem d_F_type_107 : decode nb_F_type 107 = .ok (.iload 5, 2) := by decide +kernel
theorem d_F_type_109 : decode nb_F_type 109 = .ok (.i2c, 1) := by decide +kernel
theorem d_F_type_110 : decode nb_F_type 110 = .ok (.invokevirtual 64, 3) := by decide +kernel
theorem d_F_type_113 : decode nb_F_type 113 = .ok (.iinc 4 (-8), 3) := by decide +kernel
theorem d_F_type_116 : decode nb_F_type 116 = .ok (.goto (-34), 3) := by decide +kernel
theorem d_F_type_119 : decode nb_F_type 119 = .ok (.iconst 1, 1) := by decide +kernel
theorem d_F_type_120 : decode nb_F_type 120 = .ok (.ireturn, 1) := by decide +kernel
abbrev rm_F_type : Room := ({ frames := 1, cells := 0, slots := 0, locals := 21 })
theorem w_F_type_41 {post : Int32 → nf_M → Prop} (hfl : l.flags = flags0) (K : nf_K p s m args meth c "NumberForge" nb_F_type 6 (some FieldType.boolean) D a sz) : ∀ (M : nf_M) (H : Heap) (locs : List Loc) (ls : Array Slot), B_F_type_41 post  M → lv_has ls 6 [] → nf_W D a s sz H locs M → W p l e rm_F_type s m args below meth c H locs 0 0 (nf_MQ below (nf_Q nf_jI D a post ex (nf_A a sz)) args s rm_F_type.cells rm_F_type.slots (nf_A a sz)) (F0 m 41 ls []) := by
  have hx := K.1
  have hb := K.2.1
  intro  M H locs ls h hl hw
  refine lv_iconst (v := (0 : Int32)) hx hb d_F_type_41 (by decide) ?_
  exact nf_iret K hw d_F_type_42 rfl (Nat.le_of_ble_eq_true rfl) (Nat.le_of_ble_eq_true rfl) (r := (0 : Int32)) rfl h
theorem w_F_type_54 {post : Int32 → nf_M → Prop} (hfl : l.flags = flags0) (K : nf_K p s m args meth c "NumberForge" nb_F_type 6 (some FieldType.boolean) D a sz) (k6 : Int64 → Int32 → Int32 → nf_M → Prop) (hk6 : ∀ (x1 : Int64) (x3 : Int32) (x4 : Int32) (M : nf_M) (H : Heap) (locs : List Loc) (ls : Array Slot), k6 x1 x3 x4 M → lv_has ls 6 [(0, .ref (a 0)), (1, .long x1), (3, .int x3), (4, .int x4)] → nf_W D a s sz H locs M → W p l e rm_F_type s m args below meth c H locs 0 0 (nf_MQ below (nf_Q nf_jI D a post ex (nf_A a sz)) args s rm_F_type.cells rm_F_type.slots (nf_A a sz)) (F0 m 6 ls [])) : ∀ (x1 : Int64) (x4 : Int32) (xy0 : Int32) (xy1 : Int32) (M : nf_M) (H : Heap) (locs : List Loc) (ls : Array Slot), B_F_type_54 k6 post x1 x4 xy0 xy1 M → lv_has ls 6 [(0, .ref (a 0)), (1, .long x1), (4, .int x4)] → nf_W D a s sz H locs M → W p l e rm_F_type s m args below meth c H locs 0 0 (nf_MQ below (nf_Q nf_jI D a post ex (nf_A a sz)) args s rm_F_type.cells rm_F_type.slots (nf_A a sz)) (F0 m 54 ls [.int xy0, .int xy1]) := by
  have hx := K.1
  have hb := K.2.1
  intro x1 x4 xy0 xy1 M H locs ls h hl hw
  refine lv_iadd hx hb d_F_type_54 ?_
  refine lv_topi (fun t1 et1 => ?_)
  have h := h t1 et1
  refine lv_istore_n (lv' := [(3, .int t1), (0, .ref (a 0)), (1, .long x1), (4, .int x4)]) hx hb d_F_type_55 rfl hl (by decide) rfl (fun ls hl => ?_)
  refine lv_iinc (k := 3) (v := x4 + (-8 : Int32)) (lv' := [(4, .int (x4 + (-8 : Int32))), (3, .int t1), (0, .ref (a 0)), (1, .long x1)]) hx hb d_F_type_56 hl rfl (nf_inc (by decide)) (by decide) rfl (fun ls hl => ?_)
  refine lv_goto hx hb d_F_type_59 (tgt := 6) (by decide) ?_
  exact hk6 x1 t1 (x4 + (-8 : Int32)) M _ _ _ h (lv_sub hl [2, 3, 1, 0] rfl) hw
theorem w_F_type_43 {post : Int32 → nf_M → Prop} (hfl : l.flags = flags0) (K : nf_K p s m args meth c "NumberForge" nb_F_type 6 (some FieldType.boolean) D a sz) (k6 : Int64 → Int32 → Int32 → nf_M → Prop) (hk6 : ∀ (x1 : Int64) (x3 : Int32) (x4 : Int32) (M : nf_M) (H : Heap) (locs : List Loc) (ls : Array Slot), k6 x1 x3 x4 M → lv_has ls 6 [(0, .ref (a 0)), (1, .long x1), (3, .int x3), (4, .int x4)] → nf_W D a s sz H locs M → W p l e rm_F_type s m args below meth c H locs 0 0 (nf_MQ below (nf_Q nf_jI D a post ex (nf_A a sz)) args s rm_F_type.cells rm_F_type.slots (nf_A a sz)) (F0 m 6 ls [])) : ∀ (x1 : Int64) (x3 : Int32) (x4 : Int32) (x5 : Int32) (M : nf_M) (H : Heap) (locs : List Loc) (ls : Array Slot), B_F_type_43 k6 post x1 x3 x4 x5 M → lv_has ls 6 [(0, .ref (a 0)), (1, .long x1), (3, .int x3), (4, .int x4), (5, .int x5)] → nf_W D a s sz H locs M → W p l e rm_F_type s m args below meth c H locs 0 0 (nf_MQ below (nf_Q nf_jI D a post ex (nf_A a sz)) args s rm_F_type.cells rm_F_type.slots (nf_A a sz)) (F0 m 43 ls []) := by
  have hx := K.1
  have hb := K.2.1
  intro x1 x3 x4 x5 M H locs ls h hl hw
  refine lv_iload_n hx hb d_F_type_43 rfl (lv_at hl 2 rfl) ?_
  refine lv_iload hx hb d_F_type_44 (lv_at hl 4 rfl) ?_
  refine nf_if_ne hx hb d_F_type_46 (tgt := 53) (by decide) (fun hc => ?_) (fun hc => ?_)
  · have h := h.1 hc
    refine lv_iconst (v := (0 : Int32)) hx hb d_F_type_49 (by decide) ?_
    refine lv_goto hx hb d_F_type_50 (tgt := 54) (by decide) ?_
    exact w_F_type_54 hfl K k6 hk6 x1 x4 (0 : Int32) x3 M _ _ _ h (lv_sub hl [0, 1, 3] rfl) hw
  · have h := h.2 hc
    refine lv_iconst (v := (1 : Int32)) hx hb d_F_type_53 (by decide) ?_
    exact w_F_type_54 hfl K k6 hk6 x1 x4 (1 : Int32) x3 M _ _ _ h (lv_sub hl [0, 1, 3] rfl) hw
theorem w_F_type_113 {post : Int32 → nf_M → Prop} (hfl : l.flags = flags0) (K : nf_K p s m args meth c "NumberForge" nb_F_type 6 (some FieldType.boolean) D a sz) (k82 : Int64 → Int32 → nf_M → Prop) (hk82 : ∀ (x1 : Int64) (x4 : Int32) (M : nf_M) (H : Heap) (locs : List Loc) (ls : Array Slot), k82 x1 x4 M → lv_has ls 6 [(0, .ref (a 0)), (1, .long x1), (4, .int x4)] → nf_W D a s sz H locs M → W p l e rm_F_type s m args below meth c H locs 0 0 (nf_MQ below (nf_Q nf_jI D a post ex (nf_A a sz)) args s rm_F_type.cells rm_F_type.slots (nf_A a sz)) (F0 m 82 ls [])) : ∀ (x1 : Int64) (x4 : Int32) (M : nf_M) (H : Heap) (locs : List Loc) (ls : Array Slot), B_F_type_113 k82 post x1 x4 M → lv_has ls 6 [(0, .ref (a 0)), (1, .long x1), (4, .int x4)] → nf_W D a s sz H locs M → W p l e rm_F_type s m args below meth c H locs 0 0 (nf_MQ below (nf_Q nf_jI D a post ex (nf_A a sz)) args s rm_F_type.cells rm_F_type.slots (nf_A a sz)) (F0 m 113 ls []) := by
  have hx := K.1
  have hb := K.2.1
  intro x1 x4 M H locs ls h hl hw
  refine lv_iinc (k := 2) (v := x4 + (-8 : Int32)) (lv' := [(4, .int (x4 + (-8 : Int32))), (0, .ref (a 0)), (1, .long x1)]) hx hb d_F_type_113 hl rfl (nf_inc (by decide)) (by decide) rfl (fun ls hl => ?_)
  refine lv_goto hx hb d_F_type_116 (tgt := 82) (by decide) ?_
  exact hk82 x1 (x4 + (-8 : Int32)) M _ _ _ h (lv_sub hl [1, 2, 0] rfl) hw
theorem w_F_type_82 {post : Int32 → nf_M → Prop} (hfl : l.flags = flags0) (K : nf_K p s m args meth c "NumberForge" nb_F_type 6 (some FieldType.boolean) D a sz) : ∀ (n : Nat) (x1 : Int64) (x4 : Int32) (M : nf_M) (H : Heap) (locs : List Loc) (ls : Array Slot), B_F_type_82 post n x1 x4 M → lv_has ls 6 [(0, .ref (a 0)), (1, .long x1), (4, .int x4)] → nf_W D a s sz H locs M → W p l e rm_F_type s m args below meth c H locs 0 0 (nf_MQ below (nf_Q nf_jI D a post ex (nf_A a sz)) args s rm_F_type.cells rm_F_type.slots (nf_A a sz)) (F0 m 82 ls []) := by
  have hx := K.1
  have hb := K.2.1
  intro n
  induction n with
  | zero => intro x1 x4 M H locs ls h hl hw; exact h.elim
  | succ n ih =>
    intro x1 x4 M H locs ls h hl hw
    refine lv_iload hx hb d_F_type_82 (lv_at hl 2 rfl) ?_
    refine nf_if_lt hx hb d_F_type_84 (tgt := 119) (by decide) (fun hc => ?_) (fun hc => ?_)
    · have h := h.1 hc
      refine lv_iconst (v := (1 : Int32)) hx hb d_F_type_119 (by decide) ?_
      exact nf_iret K hw d_F_type_120 rfl (Nat.le_of_ble_eq_true rfl) (Nat.le_of_ble_eq_true rfl) (r := (1 : Int32)) rfl h
    · have h := h.2 hc
      refine lv_lload_n hx hb d_F_type_87 rfl (lv_at hl 1 rfl) ?_
      refine lv_iload hx hb d_F_type_88 (lv_at hl 2 rfl) ?_
      refine lv_lushr hx hb d_F_type_90 rfl ?_
      refine lv_l2i hx hb d_F_type_91 rfl ?_
      refine lv_sipush (v := (255 : Int32)) hx hb d_F_type_92 (by decide) ?_
      refine lv_iand hx hb d_F_type_95 ?_
      refine lv_topi (fun t1 et1 => ?_)
      have h := h t1 et1
      refine lv_istore (lv' := [(5, .int t1), (0, .ref (a 0)), (1, .long x1), (4, .int x4)]) hx hb d_F_type_96 hl (by decide) rfl (fun ls hl => ?_)
      refine lv_iload hx hb d_F_type_98 (lv_at hl 0 rfl) ?_
      refine nf_if_eq hx hb d_F_type_100 (tgt := 113) (by decide) (fun hc => ?_) (fun hc => ?_)
      · have h := h.1 hc
        exact w_F_type_113 hfl K (fun x1 x4 z => B_F_type_82 post n x1 x4 z) (fun x1 x4 z H locs ls hh hll hww => ih x1 x4 z H locs ls hh hll hww) x1 x4 M _ _ _ h (lv_sub hl [1, 2, 3] rfl) hw
      · have h := h.2 hc
        refine lv_aload_n hx hb d_F_type_103 rfl (lv_at hl 1 rfl) ?_
        refine nf_get (v := .ref (a (nf_ro false))) K hw 0 6 2 nw_170 rfl rfl ni_F (by decide) rfl rfl d_F_type_104 ?_
        refine lv_iload hx hb d_F_type_107 (lv_at hl 0 rfl) ?_
        refine lv_i2c hx hb d_F_type_109 rfl ?_
        refine nf_callW (ex := (fun _ _ => False)) (As := [.ref (a (nf_ro false)), .int ((t1.toUInt32 % 65536).toInt32)]) (st0 := [.int ((t1.toUInt32 % 65536).toInt32), .ref (a (nf_ro false))]) (rest := []) K hw (nf_invVN hx hb K.2.2.2.1 ((nf_Kr K nv_197).use rfl) (nf_Kg K nw_199) (nf_Kg K nx_R_add) (nf_Kg K nw_200) ⟨by decide, by decide⟩ (nf_rcv K hw (nf_ro false) 3 (nf_heR _ _ _) rfl) rfl nl_R_add rfl d_F_type_110) (c_R_add l hfl false ((t1.toUInt32 % 65536).toInt32)) nw_200 nw_3 rfl ⟨by decide, by decide⟩ (Nat.le_of_ble_eq_true rfl) hl.1 ⟨Nat.le_of_ble_eq_true rfl, Nat.le_of_ble_eq_true rfl⟩ h (fun _ _ h => h.elim) (fun r2 M3 H locs h hw => ?_)
        refine W.eq (g2 := F0 m 113 ls []) rfl ?_
        exact w_F_type_113 hfl K (fun x1 x4 z => B_F_type_82 post n x1 x4 z) (fun x1 x4 z H locs ls hh hll hww => ih x1 x4 z H locs ls hh hll hww) x1 x4 M3 _ _ _ h (lv_sub hl [1, 2, 3] rfl) hw
theorem w_F_type_6 {post : Int32 → nf_M → Prop} (hfl : l.flags = flags0) (K : nf_K p s m args meth c "NumberForge" nb_F_type 6 (some FieldType.boolean) D a sz) : ∀ (n : Nat) (x1 : Int64) (x3 : Int32) (x4 : Int32) (M : nf_M) (H : Heap) (locs : List Loc) (ls : Array Slot), B_F_type_6 post n x1 x3 x4 M → lv_has ls 6 [(0, .ref (a 0)), (1, .long x1), (3, .int x3), (4, .int x4)] → nf_W D a s sz H locs M → W p l e rm_F_type s m args below meth c H locs 0 0 (nf_MQ below (nf_Q nf_jI D a post ex (nf_A a sz)) args s rm_F_type.cells rm_F_type.slots (nf_A a sz)) (F0 m 6 ls []) := by
  have hx := K.1
  have hb := K.2.1
  intro n
  induction n with
  | zero => intro x1 x3 x4 M H locs ls h hl hw; exact h.elim
  | succ n ih =>
    intro x1 x3 x4 M H locs ls h hl hw
    refine lv_iload hx hb d_F_type_6 (lv_at hl 3 rfl) ?_
    refine nf_if_lt hx hb d_F_type_8 (tgt := 62) (by decide) (fun hc => ?_) (fun hc => ?_)
    · have h := h.1 hc
      refine lv_aload_n hx hb d_F_type_62 rfl (lv_at hl 0 rfl) ?_
      refine nf_get (v := .ref (a (nf_ro false))) K hw 0 6 2 nw_170 rfl rfl ni_F (by decide) rfl rfl d_F_type_63 ?_
      refine nf_getN (v := .int (mg_N M false)) K hw (nf_ro false) 3 1 nv_68 (nf_heR _ _ _) rfl ni_R (by decide) rfl rfl d_F_type_66 ?_
      refine lv_iload_n hx hb d_F_type_69 rfl (lv_at hl 2 rfl) ?_
      refine lv_iadd hx hb d_F_type_70 ?_
      refine lv_bipush (v := (40 : Int32)) hx hb d_F_type_71 (by decide) ?_
      refine nf_ic_le hx hb d_F_type_73 (tgt := 78) (by decide) (fun hc => ?_) (fun hc => ?_)
      · have h := h.1 hc
        refine lv_iconst (v := (0 : Int32)) hx hb d_F_type_76 (by decide) ?_
        exact nf_iret K hw d_F_type_77 rfl (Nat.le_of_ble_eq_true rfl) (Nat.le_of_ble_eq_true rfl) (r := (0 : Int32)) rfl h
      · have h := h.2 hc
        refine lv_bipush (v := (56 : Int32)) hx hb d_F_type_78 (by decide) ?_
        refine lv_istore (lv' := [(4, .int (56 : Int32)), (0, .ref (a 0)), (1, .long x1), (3, .int x3)]) hx hb d_F_type_80 hl (by decide) rfl (fun ls hl => ?_)
        obtain ⟨n9, h⟩ := h
        exact w_F_type_82 hfl K n9 x1 (56 : Int32) M _ _ _ h (lv_sub hl [1, 2, 0] rfl) hw
    · have h := h.2 hc
      refine lv_lload_n hx hb d_F_type_11 rfl (lv_at hl 1 rfl) ?_
      refine lv_iload hx hb d_F_type_12 (lv_at hl 3 rfl) ?_
      refine lv_lushr hx hb d_F_type_14 rfl ?_
      refine lv_l2i hx hb d_F_type_15 rfl ?_
      refine lv_sipush (v := (255 : Int32)) hx hb d_F_type_16 (by decide) ?_
      refine lv_iand hx hb d_F_type_19 ?_
      refine lv_topi (fun t1 et1 => ?_)
      have h := h t1 et1
      refine lv_istore (lv' := [(5, .int t1), (0, .ref (a 0)), (1, .long x1), (3, .int x3), (4, .int x4)]) hx hb d_F_type_20 hl (by decide) rfl (fun ls hl => ?_)
      refine lv_iload hx hb d_F_type_22 (lv_at hl 0 rfl) ?_
      refine nf_if_eq hx hb d_F_type_24 (tgt := 43) (by decide) (fun hc => ?_) (fun hc => ?_)
      · have h := h.1 hc
        exact w_F_type_43 hfl K (fun x1 x3 x4 z => B_F_type_6 post n x1 x3 x4 z) (fun x1 x3 x4 z H locs ls hh hll hww => ih x1 x3 x4 z H locs ls hh hll hww) x1 x3 x4 t1 M _ _ _ h (lv_sub hl [1, 2, 3, 4, 0] rfl) hw
      · have h := h.2 hc
        refine lv_iload hx hb d_F_type_27 (lv_at hl 0 rfl) ?_
        refine lv_bipush (v := (32 : Int32)) hx hb d_F_type_29 (by decide) ?_
        refine nf_ic_lt hx hb d_F_type_31 (tgt := 41) (by decide) (fun hc => ?_) (fun hc => ?_)
        · have h := h.1 hc
          exact w_F_type_41 hfl K  M _ _ _ h (lv_sub hl [] rfl) hw
        · have h := h.2 hc
          refine lv_iload hx hb d_F_type_34 (lv_at hl 0 rfl) ?_
          refine lv_bipush (v := (126 : Int32)) hx hb d_F_type_36 (by decide) ?_
          refine nf_ic_le hx hb d_F_type_38 (tgt := 43) (by decide) (fun hc => ?_) (fun hc => ?_)
          · have h := h.1 hc
            exact w_F_type_41 hfl K  M _ _ _ h (lv_sub hl [] rfl) hw
          · have h := h.2 hc
            exact w_F_type_43 hfl K (fun x1 x3 x4 z => B_F_type_6 post n x1 x3 x4 z) (fun x1 x3 x4 z H locs ls hh hll hww => ih x1 x3 x4 z H locs ls hh hll hww) x1 x3 x4 t1 M _ _ _ h (lv_sub hl [1, 2, 3, 4, 0] rfl) hw
theorem c_F_type (l : Launch) (hfl : l.flags = flags0) (x1 : Int64) : nf_C nf_jI l nm_F_type nb_F_type 6 (some FieldType.boolean) rm_F_type (fun a => [.ref (a 0), .long x1]) (fun M post ex => P_F_type x1 M post) := by
  refine nf_start (plainFor_of_name (by decide +kernel)) (fun a => Nat.le_of_ble_eq_true rfl) ?_
  intro D a sz M post ex p e s m below meth c ls h K hl hw
  have hx := K.1
  have hb := K.2.1
  have hl : lv_has ls 6 [(0, .ref (a 0)), (1, .long x1)] := hl
  refine lv_iconst (v := (0 : Int32)) hx hb d_F_type_0 (by decide) ?_
  refine lv_istore_n (lv' := [(3, .int (0 : Int32)), (0, .ref (a 0)), (1, .long x1)]) hx hb d_F_type_1 rfl hl (by decide) rfl (fun ls hl => ?_)
  refine lv_bipush (v := (56 : Int32)) hx hb d_F_type_2 (by decide) ?_
  refine lv_istore (lv' := [(4, .int (56 : Int32)), (3, .int (0 : Int32)), (0, .ref (a 0)), (1, .long x1)]) hx hb d_F_type_4 hl (by decide) rfl (fun ls hl => ?_)
  obtain ⟨n, h⟩ := h
  exact w_F_type_6 hfl K n x1 (0 : Int32) (56 : Int32) M _ _ _ h (lv_sub hl [2, 3, 1, 0] rfl) hw
theorem d_R_clear_0 : decode nb_R_clear 0 = .ok (.aload_n 0, 1) := by decide +kernel
theorem d_R_clear_1 : decode nb_R_clear 1 = .ok (.iconst 0, 1) := by decide +kernel
theorem d_R_clear_2 : decode nb_R_clear 2 = .ok (.putfield 19, 3) := by decide +kernel
theorem d_R_clear_5 : decode nb_R_clear 5 = .ok (.return_, 1) := by decide +kernel
abbrev rm_R_clear : Room := ({ frames := 0, cells := 0, slots := 0, locals := 0 })
theorem c_R_clear (l : Launch) (hfl : l.flags = flags0) (b0 : Bool) : nf_C nf_jN l nm_R_clear nb_R_clear 1 none rm_R_clear (fun a => [.ref (a (nf_ro b0))]) (fun M post ex => P_R_clear b0 M post) := by
  refine nf_start (plainFor_of_name (by decide +kernel)) (fun a => Nat.le_of_ble_eq_true rfl) ?_
  intro D a sz M post ex p e s m below meth c ls h K hl hw
  have hx := K.1
  have hb := K.2.1
  have hl : lv_has ls 1 [(0, .ref (a (nf_ro b0)))] := hl
  refine lv_aload_n hx hb d_R_clear_0 rfl (lv_at hl 0 rfl) ?_
  refine lv_iconst (v := (0 : Int32)) hx hb d_R_clear_1 (by decide) ?_
  refine nf_put (M' := ms_N M b0 (0 : Int32)) K hw (nf_ro b0) 3 1 nw_67 (nf_heR _ _ _) (nf_setN _ _ _ _) rfl ni_R ny_R nq_R nn_R (by decide) rfl rfl rfl rfl (Nat.le_of_ble_eq_true rfl) d_R_clear_2 (fun H locs hw => ?_)
  obtain ⟨M1, eM1⟩ : ∃ z, z = ms_N M b0 (0 : Int32) := ⟨_, rfl⟩
  rw [← eM1] at hw
  have h := h M1 eM1
  exact nf_vret K hw d_R_clear_5 (Nat.le_of_ble_eq_true rfl) (Nat.le_of_ble_eq_true rfl) (r := ()) rfl h
theorem d_F_wipe_0 : decode nb_F_wipe 0 = .ok (.aload_n 0, 1) := by decide +kernel
theorem d_F_wipe_1 : decode nb_F_wipe 1 = .ok (.getfield 25, 3) := by decide +kernel
theorem d_F_wipe_4 : decode nb_F_wipe 4 = .ok (.invokevirtual 68, 3) := by decide +kernel
theorem d_F_wipe_7 : decode nb_F_wipe 7 = .ok (.return_, 1) := by decide +kernel
abbrev rm_F_wipe : Room := ({ frames := 1, cells := 0, slots := 0, locals := 20 })
theorem c_F_wipe (l : Launch) (hfl : l.flags = flags0) : nf_C nf_jN l nm_F_wipe nb_F_wipe 1 none rm_F_wipe (fun a => [.ref (a 0)]) (fun M post ex => P_F_wipe  M post) := by
  refine nf_start (plainFor_of_name (by decide +kernel)) (fun a => Nat.le_of_ble_eq_true rfl) ?_
  intro D a sz M post ex p e s m below meth c ls h K hl hw
  have hx := K.1
  have hb := K.2.1
  have hl : lv_has ls 1 [(0, .ref (a 0))] := hl
  refine lv_aload_n hx hb d_F_wipe_0 rfl (lv_at hl 0 rfl) ?_
  refine nf_get (v := .ref (a (nf_ro false))) K hw 0 6 2 nw_170 rfl rfl ni_F (by decide) rfl rfl d_F_wipe_1 ?_
  refine nf_callW (ex := (fun _ _ => False)) (As := [.ref (a (nf_ro false))]) (st0 := [.ref (a (nf_ro false))]) (rest := []) K hw (nf_invVN hx hb K.2.2.2.1 ((nf_Kr K nv_205).use rfl) (nf_Kg K nw_207) (nf_Kg K nx_R_clear) (nf_Kg K nw_208) ⟨by decide, by decide⟩ (nf_rcv K hw (nf_ro false) 3 (nf_heR _ _ _) rfl) rfl nl_R_clear rfl d_F_wipe_4) (c_R_clear l hfl false) nw_208 nw_3 rfl ⟨by decide, by decide⟩ (Nat.le_of_ble_eq_true rfl) hl.1 ⟨Nat.le_of_ble_eq_true rfl, Nat.le_of_ble_eq_true rfl⟩ h (fun _ _ h => h.elim) (fun r1 M2 H locs h hw => ?_)
  refine W.eq (g2 := F0 m 7 ls []) rfl ?_
  exact nf_vret K hw d_F_wipe_7 (Nat.le_of_ble_eq_true rfl) (Nat.le_of_ble_eq_true rfl) (r := ()) rfl h
theorem d_F_isRegister_0 : decode nb_F_isRegister 0 = .ok (.iload_n 1, 1) := by decide +kernel
theorem d_F_isRegister_1 : decode nb_F_isRegister 1 = .ok (.ifCond .lt 16, 3) := by decide +kernel
theorem d_F_isRegister_4 : decode nb_F_isRegister 4 = .ok (.iload_n 1, 1) := by decide +kernel
theorem d_F_isRegister_5 : decode nb_F_isRegister 5 = .ok (.aload_n 0, 1) := by decide +kernel
theorem d_F_isRegister_6 : decode nb_F_isRegister 6 = .ok (.getfield 11, 3) := by decide +kernel
theorem d_F_isRegister_9 : decode nb_F_isRegister 9 = .ok (.arraylength, 1) := by decide +kernel
theorem d_F_isRegister_10 : decode nb_F_isRegister 10 = .ok (.if_icmp .ge 7, 3) := by decide +kernel
theorem d_F_isRegister_13 : decode nb_F_isRegister 13 = .ok (.iconst 1, 1) := by decide +kernel
theorem d_F_isRegister_14 : decode nb_F_isRegister 14 = .ok (.goto 4, 3) := by decide +kernel
theorem d_F_isRegister_17 : decode nb_F_isRegister 17 = .ok (.iconst 0, 1) := by decide +kernel
theorem d_F_isRegister_18 : decode nb_F_isRegister 18 = .ok (.ireturn, 1) := by decide +kernel
abbrev rm_F_isRegister : Room := ({ frames := 0, cells := 0, slots := 0, locals := 0 })
theorem w_F_isRegister_18 {post : Int32 → nf_M → Prop} (hfl : l.flags = flags0) (K : nf_K p s m args meth c "NumberForge" nb_F_isRegister 2 (some FieldType.boolean) D a sz) : ∀ (xy0 : Int32) (M : nf_M) (H : Heap) (locs : List Loc) (ls : Array Slot), B_F_isRegister_18 post xy0 M → lv_has ls 2 [] → nf_W D a s sz H locs M → W p l e rm_F_isRegister s m args below meth c H locs 0 0 (nf_MQ below (nf_Q nf_jI D a post ex (nf_A a sz)) args s rm_F_isRegister.cells rm_F_isRegister.slots (nf_A a sz)) (F0 m 18 ls [.int xy0]) := by
  have hx := K.1
  have hb := K.2.1
  intro xy0 M H locs ls h hl hw
  obtain ⟨g1, h⟩ := h
  exact nf_iret K hw d_F_isRegister_18 g1 (Nat.le_of_ble_eq_true rfl) (Nat.le_of_ble_eq_true rfl) (r := xy0) rfl h
theorem w_F_isRegister_17 {post : Int32 → nf_M → Prop} (hfl : l.flags = flags0) (K : nf_K p s m args meth c "NumberForge" nb_F_isRegister 2 (some FieldType.boolean) D a sz) : ∀ (M : nf_M) (H : Heap) (locs : List Loc) (ls : Array Slot), B_F_isRegister_17 post  M → lv_has ls 2 [] → nf_W D a s sz H locs M → W p l e rm_F_isRegister s m args below meth c H locs 0 0 (nf_MQ below (nf_Q nf_jI D a post ex (nf_A a sz)) args s rm_F_isRegister.cells rm_F_isRegister.slots (nf_A a sz)) (F0 m 17 ls []) := by
  have hx := K.1
  have hb := K.2.1
  intro  M H locs ls h hl hw
  refine lv_iconst (v := (0 : Int32)) hx hb d_F_isRegister_17 (by decide) ?_
  exact w_F_isRegister_18 hfl K (0 : Int32) M _ _ _ h (lv_sub hl [] rfl) hw
theorem c_F_isRegister (l : Launch) (hfl : l.flags = flags0) (x1 : Int32) : nf_C nf_jI l nm_F_isRegister nb_F_isRegister 2 (some FieldType.boolean) rm_F_isRegister (fun a => [.ref (a 0), .int x1]) (fun M post ex => P_F_isRegister x1 M post) := by
  refine nf_start (plainFor_of_name (by decide +kernel)) (fun a => Nat.le_of_ble_eq_true rfl) ?_
  intro D a sz M post ex p e s m below meth c ls h K hl hw
  have hx := K.1
  have hb := K.2.1
  have hl : lv_has ls 2 [(0, .ref (a 0)), (1, .int x1)] := hl
  refine lv_iload_n hx hb d_F_isRegister_0 rfl (lv_at hl 1 rfl) ?_
  refine nf_if_lt hx hb d_F_isRegister_1 (tgt := 17) (by decide) (fun hc => ?_) (fun hc => ?_)
  · have h := h.1 hc
    exact w_F_isRegister_17 hfl K  M _ _ _ h (lv_sub hl [] rfl) hw
  · have h := h.2 hc
    refine lv_iload_n hx hb d_F_isRegister_4 rfl (lv_at hl 1 rfl) ?_
    refine lv_aload_n hx hb d_F_isRegister_5 rfl (lv_at hl 0 rfl) ?_
    refine nf_get (v := .ref (a 1)) K hw 0 6 0 nw_168 rfl rfl ni_F (by decide) rfl rfl d_F_isRegister_6 ?_
    refine nf_rlen K hw d_F_isRegister_9 ?_
    refine nf_ic_ge hx hb d_F_isRegister_10 (tgt := 17) (by decide) (fun hc => ?_) (fun hc => ?_)
    · have h := h.1 hc
      refine lv_iconst (v := (1 : Int32)) hx hb d_F_isRegister_13 (by decide) ?_
      refine lv_goto hx hb d_F_isRegister_14 (tgt := 18) (by decide) ?_
      exact w_F_isRegister_18 hfl K (1 : Int32) M _ _ _ h (lv_sub hl [] rfl) hw
    · have h := h.2 hc
      exact w_F_isRegister_17 hfl K  M _ _ _ h (lv_sub hl [] rfl) hw
theorem d_F_kind_0 : decode nb_F_kind 0 = .ok (.aload_n 0, 1) := by decide +kernel
theorem d_F_kind_1 : decode nb_F_kind 1 = .ok (.iload_n 1, 1) := by decide +kernel
theorem d_F_kind_2 : decode nb_F_kind 2 = .ok (.invokevirtual 169, 3) := by decide +kernel
theorem d_F_kind_5 : decode nb_F_kind 5 = .ok (.ifCond .eq 15, 3) := by decide +kernel
theorem d_F_kind_8 : decode nb_F_kind 8 = .ok (.aload_n 0, 1) := by decide +kernel
theorem d_F_kind_9 : decode nb_F_kind 9 = .ok (.getfield 11, 3) := by decide +kernel
theorem d_F_kind_12 : decode nb_F_kind 12 = .ok (.iload_n 1, 1) := by decide +kernel
theorem d_F_kind_13 : decode nb_F_kind 13 = .ok (.aaload, 1) := by decide +kernel
theorem d_F_kind_14 : decode nb_F_kind 14 = .ok (.getfield 135, 3) := by decide +kernel
theorem d_F_kind_17 : decode nb_F_kind 17 = .ok (.goto 4, 3) := by decide +kernel
theorem d_F_kind_20 : decode nb_F_kind 20 = .ok (.iconst (-1), 1) := by decide +kernel
theorem d_F_kind_21 : decode nb_F_kind 21 = .ok (.ireturn, 1) := by decide +kernel
abbrev rm_F_kind : Room := ({ frames := 1, cells := 0, slots := 0, locals := 21 })
theorem w_F_kind_21 {post : Int32 → nf_M → Prop} (hfl : l.flags = flags0) (K : nf_K p s m args meth c "NumberForge" nb_F_kind 2 (some FieldType.int) D a sz) : ∀ (xy0 : Int32) (M : nf_M) (H : Heap) (locs : List Loc) (ls : Array Slot), B_F_kind_21 post xy0 M → lv_has ls 2 [] → nf_W D a s sz H locs M → W p l e rm_F_kind s m args below meth c H locs 0 0 (nf_MQ below (nf_Q nf_jI D a post ex (nf_A a sz)) args s rm_F_kind.cells rm_F_kind.slots (nf_A a sz)) (F0 m 21 ls [.int xy0]) := by
  have hx := K.1
  have hb := K.2.1
  intro xy0 M H locs ls h hl hw
  exact nf_iret K hw d_F_kind_21 rfl (Nat.le_of_ble_eq_true rfl) (Nat.le_of_ble_eq_true rfl) (r := xy0) rfl h
theorem c_F_kind (l : Launch) (hfl : l.flags = flags0) (x1 : Int32) : nf_C nf_jI l nm_F_kind nb_F_kind 2 (some FieldType.int) rm_F_kind (fun a => [.ref (a 0), .int x1]) (fun M post ex => P_F_kind x1 M post) := by
  refine nf_start (plainFor_of_name (by decide +kernel)) (fun a => Nat.le_of_ble_eq_true rfl) ?_
  intro D a sz M post ex p e s m below meth c ls h K hl hw
  have hx := K.1
  have hb := K.2.1
  have hl : lv_has ls 2 [(0, .ref (a 0)), (1, .int x1)] := hl
  refine lv_aload_n hx hb d_F_kind_0 rfl (lv_at hl 0 rfl) ?_
  refine lv_iload_n hx hb d_F_kind_1 rfl (lv_at hl 1 rfl) ?_
  refine nf_callW (ex := (fun _ _ => False)) (As := [.ref (a 0), .int x1]) (st0 := [.int x1, .ref (a 0)]) (rest := []) K hw (nf_invV hx hb K.2.2.2.1 (nf_Kg K nw_213) (nf_Kg K nw_215) (nf_Kg K nx_F_isRegister) (nf_Kg K nw_216) ⟨by decide, by decide⟩ (nf_rcv K hw 0 6 rfl rfl) rfl nl_F_isRegister rfl d_F_kind_2) (c_F_isRegister l hfl x1) nw_216 nw_1 rfl ⟨by decide, by decide⟩ (Nat.le_of_ble_eq_true rfl) hl.1 ⟨Nat.le_of_ble_eq_true rfl, Nat.le_of_ble_eq_true rfl⟩ h (fun _ _ h => h.elim) (fun r1 M2 H locs h hw => ?_)
  refine W.eq (g2 := F0 m 5 ls [.int r1]) rfl ?_
  refine nf_if_eq hx hb d_F_kind_5 (tgt := 20) (by decide) (fun hc => ?_) (fun hc => ?_)
  · have h := h.1 hc
    refine lv_iconst (v := (-1 : Int32)) hx hb d_F_kind_20 (by decide) ?_
    exact w_F_kind_21 hfl K (-1 : Int32) M2 _ _ _ h (lv_sub hl [] rfl) hw
  · have h := h.2 hc
    refine lv_aload_n hx hb d_F_kind_8 rfl (lv_at hl 0 rfl) ?_
    refine nf_get (v := .ref (a 1)) K hw 0 6 0 nw_168 rfl rfl ni_F (by decide) rfl rfl d_F_kind_9 ?_
    refine lv_iload_n hx hb d_F_kind_12 rfl (lv_at hl 1 rfl) ?_
    obtain ⟨g3, h⟩ := h
    refine nf_rald K hw g3 d_F_kind_13 ?_
    refine nf_getN (v := .int (mg_T M2 (nf_rg x1))) K hw (10 + ((nf_rg x1) : Fin 9).val) 4 0 nv_39 (nf_heV _ _ _) rfl ni_V (by decide) rfl rfl d_F_kind_14 ?_
    refine lv_goto hx hb d_F_kind_17 (tgt := 21) (by decide) ?_
    exact w_F_kind_21 hfl K (mg_T M2 (nf_rg x1)) M2 _ _ _ h (lv_sub hl [] rfl) hw
theorem d_V_holdsUnits_0 : decode nb_V_holdsUnits 0 = .ok (.aload_n 0, 1) := by decide +kernel
theorem d_V_holdsUnits_1 : decode nb_V_holdsUnits 1 = .ok (.getfield 9, 3) := by decide +kernel
theorem d_V_holdsUnits_4 : decode nb_V_holdsUnits 4 = .ok (.ifCond .lt 16, 3) := by decide +kernel
theorem d_V_holdsUnits_7 : decode nb_V_holdsUnits 7 = .ok (.aload_n 0, 1) := by decide +kernel
theorem d_V_holdsUnits_8 : decode nb_V_holdsUnits 8 = .ok (.getfield 9, 3) := by decide +kernel
theorem d_V_holdsUnits_11 : decode nb_V_holdsUnits 11 = .ok (.bipush 8, 2) := by decide +kernel
theorem d_V_holdsUnits_13 : decode nb_V_holdsUnits 13 = .ok (.if_icmp .ge 7, 3) := by decide +kernel
theorem d_V_holdsUnits_16 : decode nb_V_holdsUnits 16 = .ok (.iconst 1, 1) := by decide +kernel
theorem d_V_holdsUnits_17 : decode nb_V_holdsUnits 17 = .ok (.goto 4, 3) := by decide +kernel
theorem d_V_holdsUnits_20 : decode nb_V_holdsUnits 20 = .ok (.iconst 0, 1) := by decide +kernel
theorem d_V_holdsUnits_21 : decode nb_V_holdsUnits 21 = .ok (.ireturn, 1) := by decide +kernel
abbrev rm_V_holdsUnits : Room := ({ frames := 0, cells := 0, slots := 0, locals := 0 })
theorem w_V_holdsUnits_21 {post : Int32 → nf_M → Prop} (hfl : l.flags = flags0) (K : nf_K p s m args meth c "NumberForge$Value" nb_V_holdsUnits 1 (some FieldType.boolean) D a sz) : ∀ (xy0 : Int32) (M : nf_M) (H : Heap) (locs : List Loc) (ls : Array Slot), B_V_holdsUnits_21 post xy0 M → lv_has ls 1 [] → nf_W D a s sz H locs M → W p l e rm_V_holdsUnits s m args below meth c H locs 0 0 (nf_MQ below (nf_Q nf_jI D a post ex (nf_A a sz)) args s rm_V_holdsUnits.cells rm_V_holdsUnits.slots (nf_A a sz)) (F0 m 21 ls [.int xy0]) := by
  have hx := K.1
  have hb := K.2.1
  intro xy0 M H locs ls h hl hw
  obtain ⟨g1, h⟩ := h
  exact nf_iret K hw d_V_holdsUnits_21 g1 (Nat.le_of_ble_eq_true rfl) (Nat.le_of_ble_eq_true rfl) (r := xy0) rfl h
theorem w_V_holdsUnits_20 {post : Int32 → nf_M → Prop} (hfl : l.flags = flags0) (K : nf_K p s m args meth c "NumberForge$Value" nb_V_holdsUnits 1 (some FieldType.boolean) D a sz) : ∀ (M : nf_M) (H : Heap) (locs : List Loc) (ls : Array Slot), B_V_holdsUnits_20 post  M → lv_has ls 1 [] → nf_W D a s sz H locs M → W p l e rm_V_holdsUnits s m args below meth c H locs 0 0 (nf_MQ below (nf_Q nf_jI D a post ex (nf_A a sz)) args s rm_V_holdsUnits.cells rm_V_holdsUnits.slots (nf_A a sz)) (F0 m 20 ls []) := by
  have hx := K.1
  have hb := K.2.1
  intro  M H locs ls h hl hw
  refine lv_iconst (v := (0 : Int32)) hx hb d_V_holdsUnits_20 (by decide) ?_
  exact w_V_holdsUnits_21 hfl K (0 : Int32) M _ _ _ h (lv_sub hl [] rfl) hw
theorem c_V_holdsUnits (l : Launch) (hfl : l.flags = flags0) (v0 : Fin 9) : nf_C nf_jI l nm_V_holdsUnits nb_V_holdsUnits 1 (some FieldType.boolean) rm_V_holdsUnits (fun a => [.ref (a (10 + (v0 : Fin 9).val))]) (fun M post ex => P_V_holdsUnits v0 M post) := by
  refine nf_start (plainFor_of_name (by decide +kernel)) (fun a => Nat.le_of_ble_eq_true rfl) ?_
  intro D a sz M post ex p e s m below meth c ls h K hl hw
  have hx := K.1
  have hb := K.2.1
  have hl : lv_has ls 1 [(0, .ref (a (10 + (v0 : Fin 9).val)))] := hl
  refine lv_aload_n hx hb d_V_holdsUnits_0 rfl (lv_at hl 0 rfl) ?_
  refine nf_get (v := .int (mg_T M v0)) K hw (10 + (v0 : Fin 9).val) 4 0 nw_38 (nf_heV _ _ _) rfl ni_V (by decide) rfl rfl d_V_holdsUnits_1 ?_
  refine nf_if_lt hx hb d_V_holdsUnits_4 (tgt := 20) (by decide) (fun hc => ?_) (fun hc => ?_)
  · have h := h.1 hc
    exact w_V_holdsUnits_20 hfl K  M _ _ _ h (lv_sub hl [] rfl) hw
  · have h := h.2 hc
    refine lv_aload_n hx hb d_V_holdsUnits_7 rfl (lv_at hl 0 rfl) ?_
    refine nf_get (v := .int (mg_T M v0)) K hw (10 + (v0 : Fin 9).val) 4 0 nw_38 (nf_heV _ _ _) rfl ni_V (by decide) rfl rfl d_V_holdsUnits_8 ?_
    refine lv_bipush (v := (8 : Int32)) hx hb d_V_holdsUnits_11 (by decide) ?_
    refine nf_ic_ge hx hb d_V_holdsUnits_13 (tgt := 20) (by decide) (fun hc => ?_) (fun hc => ?_)
    · have h := h.1 hc
      refine lv_iconst (v := (1 : Int32)) hx hb d_V_holdsUnits_16 (by decide) ?_
      refine lv_goto hx hb d_V_holdsUnits_17 (tgt := 21) (by decide) ?_
      exact w_V_holdsUnits_21 hfl K (1 : Int32) M _ _ _ h (lv_sub hl [] rfl) hw
    · have h := h.2 hc
      exact w_V_holdsUnits_20 hfl K  M _ _ _ h (lv_sub hl [] rfl) hw
theorem d_F_exact_0 : decode nb_F_exact 0 = .ok (.aload_n 0, 1) := by decide +kernel
theorem d_F_exact_1 : decode nb_F_exact 1 = .ok (.iload_n 1, 1) := by decide +kernel
theorem d_F_exact_2 : decode nb_F_exact 2 = .ok (.invokevirtual 169, 3) := by decide +kernel
theorem d_F_exact_5 : decode nb_F_exact 5 = .ok (.ifCond .eq 15, 3) := by decide +kernel
theorem d_F_exact_8 : decode nb_F_exact 8 = .ok (.aload_n 0, 1) := by decide +kernel
theorem d_F_exact_9 : decode nb_F_exact 9 = .ok (.getfield 11, 3) := by decide +kernel
theorem d_F_exact_12 : decode nb_F_exact 12 = .ok (.iload_n 1, 1) := by decide +kernel
theorem d_F_exact_13 : decode nb_F_exact 13 = .ok (.aaload, 1) := by decide +kernel
theorem d_F_exact_14 : decode nb_F_exact 14 = .ok (.invokevirtual 173, 3) := by decide +kernel
theorem d_F_exact_17 : decode nb_F_exact 17 = .ok (.ifCond .ne 5, 3) := by decide +kernel
theorem d_F_exact_20 : decode nb_F_exact 20 = .ok (.lconst 0, 1) := by decide +kernel
theorem d_F_exact_21 : decode nb_F_exact 21 = .ok (.lreturn, 1) := by decide +kernel
theorem d_F_exact_22 : decode nb_F_exact 22 = .ok (.iload_n 2, 1) := by decide +kernel
theorem d_F_exact_23 : decode nb_F_exact 23 = .ok (.ifCond .ne 15, 3) := by decide +kernel
theorem d_F_exact_26 : decode nb_F_exact 26 = .ok (.aload_n 0, 1) := by decide +kernel
theorem d_F_exact_27 : decode nb_F_exact 27 = .ok (.getfield 11, 3) := by decide +kernel
theorem d_F_exact_30 : decode nb_F_exact 30 = .ok (.iload_n 1, 1) := by decide +kernel
theorem d_F_exact_31 : decode nb_F_exact 31 = .ok (.aaload, 1) := by decide +kernel
theorem d_F_exact_32 : decode nb_F_exact 32 = .ok (.getfield 110, 3) := by decide +kernel
theorem d_F_exact_35 : decode nb_F_exact 35 = .ok (.goto 22, 3) := by decide +kernel
theorem d_F_exact_38 : decode nb_F_exact 38 = .ok (.iload_n 2, 1) := by decide +kernel
theorem d_F_exact_39 : decode nb_F_exact 39 = .ok (.iconst 1, 1) := by decide +kernel
theorem d_F_exact_40 : decode nb_F_exact 40 = .ok (.if_icmp .ne 16, 3) := by decide +kernel
theorem d_F_exact_43 : decode nb_F_exact 43 = .ok (.aload_n 0, 1) := by decide +kernel
theorem d_F_exact_44 : decode nb_F_exact 44 = .ok (.getfield 11, 3) := by decide +kernel
theorem d_F_exact_47 : decode nb_F_exact 47 = .ok (.iload_n 1, 1) := by decide +kernel
theorem d_F_exact_48 : decode nb_F_exact 48 = .ok (.aaload, 1) := by decide +kernel
theorem d_F_exact_49 : decode nb_F_exact 49 = .ok (.getfield 176, 3) := by decide +kernel
theorem d_F_exact_52 : decode nb_F_exact 52 = .ok (.i2l, 1) := by decide +kernel
theorem d_F_exact_53 : decode nb_F_exact 53 = .ok (.goto 4, 3) := by decide +kernel
theorem d_F_exact_56 : decode nb_F_exact 56 = .ok (.lconst 0, 1) := by decide +kernel
theorem d_F_exact_57 : decode nb_F_exact 57 = .ok (.lreturn, 1) := by decide +kernel
abbrev rm_F_exact : Room := ({ frames := 1, cells := 0, slots := 0, locals := 21 })
theorem w_F_exact_20 {post : Int64 → nf_M → Prop} (hfl : l.flags = flags0) (K : nf_K p s m args meth c "NumberForge" nb_F_exact 3 (some FieldType.long) D a sz) : ∀ (M : nf_M) (H : Heap) (locs : List Loc) (ls : Array Slot), B_F_exact_20 post  M → lv_has ls 3 [] → nf_W D a s sz H locs M → W p l e rm_F_exact s m args below meth c H locs 0 0 (nf_MQ below (nf_Q nf_jJ D a post ex (nf_A a sz)) args s rm_F_exact.cells rm_F_exact.slots (nf_A a sz)) (F0 m 20 ls []) := by
  have hx := K.1
  have hb := K.2.1
  intro  M H locs ls h hl hw
  refine lv_lconst (v := (0 : Int64)) hx hb d_F_exact_20 (by decide) ?_
  exact nf_lret K hw d_F_exact_21 (Nat.le_of_ble_eq_true rfl) (Nat.le_of_ble_eq_true rfl) (r := (0 : Int64)) rfl h
theorem w_F_exact_57 {post : Int64 → nf_M → Prop} (hfl : l.flags = flags0) (K : nf_K p s m args meth c "NumberForge" nb_F_exact 3 (some FieldType.long) D a sz) : ∀ (xy0 : Int64) (M : nf_M) (H : Heap) (locs : List Loc) (ls : Array Slot), B_F_exact_57 post xy0 M → lv_has ls 3 [] → nf_W D a s sz H locs M → W p l e rm_F_exact s m args below meth c H locs 0 0 (nf_MQ below (nf_Q nf_jJ D a post ex (nf_A a sz)) args s rm_F_exact.cells rm_F_exact.slots (nf_A a sz)) (F0 m 57 ls [.long xy0]) := by
  have hx := K.1
  have hb := K.2.1
  intro xy0 M H locs ls h hl hw
  exact nf_lret K hw d_F_exact_57 (Nat.le_of_ble_eq_true rfl) (Nat.le_of_ble_eq_true rfl) (r := xy0) rfl h
theorem c_F_exact (l : Launch) (hfl : l.flags = flags0) (x1 : Int32) (x2 : Int32) : nf_C nf_jJ l nm_F_exact nb_F_exact 3 (some FieldType.long) rm_F_exact (fun a => [.ref (a 0), .int x1, .int x2]) (fun M post ex => P_F_exact x1 x2 M post) := by
  refine nf_start (plainFor_of_name (by decide +kernel)) (fun a => Nat.le_of_ble_eq_true rfl) ?_
  intro D a sz M post ex p e s m below meth c ls h K hl hw
  have hx := K.1
  have hb := K.2.1
  have hl : lv_has ls 3 [(0, .ref (a 0)), (1, .int x1), (2, .int x2)] := hl
  refine lv_aload_n hx hb d_F_exact_0 rfl (lv_at hl 0 rfl) ?_
  refine lv_iload_n hx hb d_F_exact_1 rfl (lv_at hl 1 rfl) ?_
  refine nf_callW (ex := (fun _ _ => False)) (As := [.ref (a 0), .int x1]) (st0 := [.int x1, .ref (a 0)]) (rest := []) K hw (nf_invV hx hb K.2.2.2.1 (nf_Kg K nw_213) (nf_Kg K nw_215) (nf_Kg K nx_F_isRegister) (nf_Kg K nw_216) ⟨by decide, by decide⟩ (nf_rcv K hw 0 6 rfl rfl) rfl nl_F_isRegister rfl d_F_exact_2) (c_F_isRegister l hfl x1) nw_216 nw_1 rfl ⟨by decide, by decide⟩ (Nat.le_of_ble_eq_true rfl) hl.1 ⟨Nat.le_of_ble_eq_true rfl, Nat.le_of_ble_eq_true rfl⟩ h (fun _ _ h => h.elim) (fun r1 M2 H locs h hw => ?_)
  refine W.eq (g2 := F0 m 5 ls [.int r1]) rfl ?_
  refine nf_if_eq hx hb d_F_exact_5 (tgt := 20) (by decide) (fun hc => ?_) (fun hc => ?_)
  · have h := h.1 hc
    exact w_F_exact_20 hfl K  M2 _ _ _ h (lv_sub hl [] rfl) hw
  · have h := h.2 hc
    refine lv_aload_n hx hb d_F_exact_8 rfl (lv_at hl 0 rfl) ?_
    refine nf_get (v := .ref (a 1)) K hw 0 6 0 nw_168 rfl rfl ni_F (by decide) rfl rfl d_F_exact_9 ?_
    refine lv_iload_n hx hb d_F_exact_12 rfl (lv_at hl 1 rfl) ?_
    obtain ⟨g3, h⟩ := h
    refine nf_rald K hw g3 d_F_exact_13 ?_
    refine nf_callW (ex := (fun _ _ => False)) (As := [.ref (a (10 + ((nf_rg x1) : Fin 9).val))]) (st0 := [.ref (a (10 + ((nf_rg x1) : Fin 9).val))]) (rest := []) K hw (nf_invVN hx hb K.2.2.2.1 ((nf_Kr K nv_221).use rfl) (nf_Kg K nw_223) (nf_Kg K nx_V_holdsUnits) (nf_Kg K nw_224) ⟨by decide, by decide⟩ (nf_rcv K hw (10 + ((nf_rg x1) : Fin 9).val) 4 (nf_heV _ _ _) rfl) rfl nl_V_holdsUnits rfl d_F_exact_14) (c_V_holdsUnits l hfl (nf_rg x1)) nw_224 nw_2 rfl ⟨by decide, by decide⟩ (Nat.le_of_ble_eq_true rfl) hl.1 ⟨Nat.le_of_ble_eq_true rfl, Nat.le_of_ble_eq_true rfl⟩ h (fun _ _ h => h.elim) (fun r4 M5 H locs h hw => ?_)
    refine W.eq (g2 := F0 m 17 ls [.int r4]) rfl ?_
    refine nf_if_ne hx hb d_F_exact_17 (tgt := 22) (by decide) (fun hc => ?_) (fun hc => ?_)
    · have h := h.1 hc
      exact w_F_exact_20 hfl K  M5 _ _ _ h (lv_sub hl [] rfl) hw
    · have h := h.2 hc
      refine lv_iload_n hx hb d_F_exact_22 rfl (lv_at hl 2 rfl) ?_
      refine nf_if_ne hx hb d_F_exact_23 (tgt := 38) (by decide) (fun hc => ?_) (fun hc => ?_)
      · have h := h.1 hc
        refine lv_aload_n hx hb d_F_exact_26 rfl (lv_at hl 0 rfl) ?_
        refine nf_get (v := .ref (a 1)) K hw 0 6 0 nw_168 rfl rfl ni_F (by decide) rfl rfl d_F_exact_27 ?_
        refine lv_iload_n hx hb d_F_exact_30 rfl (lv_at hl 1 rfl) ?_
        obtain ⟨g6, h⟩ := h
        refine nf_rald K hw g6 d_F_exact_31 ?_
        refine nf_getN (v := .long (mg_U M5 (nf_rg x1))) K hw (10 + ((nf_rg x1) : Fin 9).val) 4 1 nv_41 (nf_heV _ _ _) rfl ni_V (by decide) rfl rfl d_F_exact_32 ?_
        refine lv_goto hx hb d_F_exact_35 (tgt := 57) (by decide) ?_
        exact w_F_exact_57 hfl K (mg_U M5 (nf_rg x1)) M5 _ _ _ h (lv_sub hl [] rfl) hw
      · have h := h.2 hc
        refine lv_iload_n hx hb d_F_exact_38 rfl (lv_at hl 2 rfl) ?_
        refine lv_iconst (v := (1 : Int32)) hx hb d_F_exact_39 (by decide) ?_
        refine nf_ic_ne hx hb d_F_exact_40 (tgt := 56) (by decide) (fun hc => ?_) (fun hc => ?_)
        · have h := h.1 hc
          refine lv_aload_n hx hb d_F_exact_43 rfl (lv_at hl 0 rfl) ?_
          refine nf_get (v := .ref (a 1)) K hw 0 6 0 nw_168 rfl rfl ni_F (by decide) rfl rfl d_F_exact_44 ?_
          refine lv_iload_n hx hb d_F_exact_47 rfl (lv_at hl 1 rfl) ?_
          obtain ⟨g7, h⟩ := h
          refine nf_rald K hw g7 d_F_exact_48 ?_
          refine nf_getN (v := .int (mg_S M5 (nf_rg x1))) K hw (10 + ((nf_rg x1) : Fin 9).val) 4 2 nv_45 (nf_heV _ _ _) rfl ni_V (by decide) rfl rfl d_F_exact_49 ?_
          refine lv_i2l hx hb d_F_exact_52 rfl ?_
          refine lv_goto hx hb d_F_exact_53 (tgt := 57) (by decide) ?_
          exact w_F_exact_57 hfl K ((mg_S M5 (nf_rg x1)).toInt64) M5 _ _ _ h (lv_sub hl [] rfl) hw
        · have h := h.2 hc
          refine lv_lconst (v := (0 : Int64)) hx hb d_F_exact_56 (by decide) ?_
          exact w_F_exact_57 hfl K (0 : Int64) M5 _ _ _ h (lv_sub hl [] rfl) hw
theorem d_R_at_0 : decode nb_R_at 0 = .ok (.iload_n 1, 1) := by decide +kernel
theorem d_R_at_1 : decode nb_R_at 1 = .ok (.ifCond .lt 29, 3) := by decide +kernel
theorem d_R_at_4 : decode nb_R_at 4 = .ok (.iload_n 1, 1) := by decide +kernel
theorem d_R_at_5 : decode nb_R_at 5 = .ok (.aload_n 0, 1) := by decide +kernel
theorem d_R_at_6 : decode nb_R_at 6 = .ok (.getfield 19, 3) := by decide +kernel
theorem d_R_at_9 : decode nb_R_at 9 = .ok (.if_icmp .ge 21, 3) := by decide +kernel
theorem d_R_at_12 : decode nb_R_at 12 = .ok (.iload_n 1, 1) := by decide +kernel
theorem d_R_at_13 : decode nb_R_at 13 = .ok (.aload_n 0, 1) := by decide +kernel
theorem d_R_at_14 : decode nb_R_at 14 = .ok (.getfield 13, 3) := by decide +kernel
theorem d_R_at_17 : decode nb_R_at 17 = .ok (.arraylength, 1) := by decide +kernel
theorem d_R_at_18 : decode nb_R_at 18 = .ok (.if_icmp .ge 12, 3) := by decide +kernel
theorem d_R_at_21 : decode nb_R_at 21 = .ok (.aload_n 0, 1) := by decide +kernel
theorem d_R_at_22 : decode nb_R_at 22 = .ok (.getfield 13, 3) := by decide +kernel
theorem d_R_at_25 : decode nb_R_at 25 = .ok (.iload_n 1, 1) := by decide +kernel
theorem d_R_at_26 : decode nb_R_at 26 = .ok (.caload, 1) := by decide +kernel
theorem d_R_at_27 : decode nb_R_at 27 = .ok (.goto 4, 3) := by decide +kernel
theorem d_R_at_30 : decode nb_R_at 30 = .ok (.iconst 0, 1) := by decide +kernel
theorem d_R_at_31 : decode nb_R_at 31 = .ok (.ireturn, 1) := by decide +kernel
abbrev rm_R_at : Room := ({ frames := 0, cells := 0, slots := 0, locals := 0 })
theorem w_R_at_31 {post : Int32 → nf_M → Prop} (hfl : l.flags = flags0) (K : nf_K p s m args meth c "NumberForge$Row" nb_R_at 2 (some FieldType.char) D a sz) : ∀ (xy0 : Int32) (M : nf_M) (H : Heap) (locs : List Loc) (ls : Array Slot), B_R_at_31 post xy0 M → lv_has ls 2 [] → nf_W D a s sz H locs M → W p l e rm_R_at s m args below meth c H locs 0 0 (nf_MQ below (nf_Q nf_jI D a post ex (nf_A a sz)) args s rm_R_at.cells rm_R_at.slots (nf_A a sz)) (F0 m 31 ls [.int xy0]) := by
  have hx := K.1
  have hb := K.2.1
  intro xy0 M H locs ls h hl hw
  obtain ⟨g1, h⟩ := h
  exact nf_iret K hw d_R_at_31 g1 (Nat.le_of_ble_eq_true rfl) (Nat.le_of_ble_eq_true rfl) (r := xy0) rfl h
theorem w_R_at_30 {post : Int32 → nf_M → Prop} (hfl : l.flags = flags0) (K : nf_K p s m args meth c "NumberForge$Row" nb_R_at 2 (some FieldType.char) D a sz) : ∀ (M : nf_M) (H : Heap) (locs : List Loc) (ls : Array Slot), B_R_at_30 post  M → lv_has ls 2 [] → nf_W D a s sz H locs M → W p l e rm_R_at s m args below meth c H locs 0 0 (nf_MQ below (nf_Q nf_jI D a post ex (nf_A a sz)) args s rm_R_at.cells rm_R_at.slots (nf_A a sz)) (F0 m 30 ls []) := by
  have hx := K.1
  have hb := K.2.1
  intro  M H locs ls h hl hw
  refine lv_iconst (v := (0 : Int32)) hx hb d_R_at_30 (by decide) ?_
  exact w_R_at_31 hfl K (0 : Int32) M _ _ _ h (lv_sub hl [] rfl) hw
theorem c_R_at (l : Launch) (hfl : l.flags = flags0) (b0 : Bool) (x1 : Int32) : nf_C nf_jI l nm_R_at nb_R_at 2 (some FieldType.char) rm_R_at (fun a => [.ref (a (nf_ro b0)), .int x1]) (fun M post ex => P_R_at b0 x1 M post) := by
  refine nf_start (plainFor_of_name (by decide +kernel)) (fun a => Nat.le_of_ble_eq_true rfl) ?_
  intro D a sz M post ex p e s m below meth c ls h K hl hw
  have hx := K.1
  have hb := K.2.1
  have hl : lv_has ls 2 [(0, .ref (a (nf_ro b0))), (1, .int x1)] := hl
  refine lv_iload_n hx hb d_R_at_0 rfl (lv_at hl 1 rfl) ?_
  refine nf_if_lt hx hb d_R_at_1 (tgt := 30) (by decide) (fun hc => ?_) (fun hc => ?_)
  · have h := h.1 hc
    exact w_R_at_30 hfl K  M _ _ _ h (lv_sub hl [] rfl) hw
  · have h := h.2 hc
    refine lv_iload_n hx hb d_R_at_4 rfl (lv_at hl 1 rfl) ?_
    refine lv_aload_n hx hb d_R_at_5 rfl (lv_at hl 0 rfl) ?_
    refine nf_get (v := .int (mg_N M b0)) K hw (nf_ro b0) 3 1 nw_67 (nf_heR _ _ _) rfl ni_R (by decide) rfl rfl d_R_at_6 ?_
    refine nf_ic_ge hx hb d_R_at_9 (tgt := 30) (by decide) (fun hc => ?_) (fun hc => ?_)
    · have h := h.1 hc
      refine lv_iload_n hx hb d_R_at_12 rfl (lv_at hl 1 rfl) ?_
      refine lv_aload_n hx hb d_R_at_13 rfl (lv_at hl 0 rfl) ?_
      refine nf_get (v := .ref (a (nf_ro b0 + 1))) K hw (nf_ro b0) 3 0 nw_66 (nf_heR _ _ _) rfl ni_R (by decide) rfl rfl d_R_at_14 ?_
      refine nf_clen K hw d_R_at_17 ?_
      refine nf_ic_ge hx hb d_R_at_18 (tgt := 30) (by decide) (fun hc => ?_) (fun hc => ?_)
      · have h := h.1 hc
        refine lv_aload_n hx hb d_R_at_21 rfl (lv_at hl 0 rfl) ?_
        refine nf_get (v := .ref (a (nf_ro b0 + 1))) K hw (nf_ro b0) 3 0 nw_66 (nf_heR _ _ _) rfl ni_R (by decide) rfl rfl d_R_at_22 ?_
        refine lv_iload_n hx hb d_R_at_25 rfl (lv_at hl 1 rfl) ?_
        obtain ⟨g1, h⟩ := h
        refine nf_cald K hw g1 d_R_at_26 ?_
        refine lv_goto hx hb d_R_at_27 (tgt := 31) (by decide) ?_
        exact w_R_at_31 hfl K (mg_C M b0 x1.toNatClampNeg) M _ _ _ h (lv_sub hl [] rfl) hw
      · have h := h.2 hc
        exact w_R_at_30 hfl K  M _ _ _ h (lv_sub hl [] rfl) hw
    · have h := h.2 hc
      exact w_R_at_30 hfl K  M _ _ _ h (lv_sub hl [] rfl) hw
theorem d_F_output_0 : decode nb_F_output 0 = .ok (.iload_n 1, 1) := by decide +kernel
theorem d_F_output_1 : decode nb_F_output 1 = .ok (.iconst (-1), 1) := by decide +kernel
theorem d_F_output_2 : decode nb_F_output 2 = .ok (.if_icmp .ne 11, 3) := by decide +kernel
theorem d_F_output_5 : decode nb_F_output 5 = .ok (.aload_n 0, 1) := by decide +kernel
theorem d_F_output_6 : decode nb_F_output 6 = .ok (.getfield 29, 3) := by decide +kernel
theorem d_F_output_9 : decode nb_F_output 9 = .ok (.getfield 60, 3) := by decide +kernel
theorem d_F_output_12 : decode nb_F_output 12 = .ok (.ireturn, 1) := by decide +kernel
theorem d_F_output_13 : decode nb_F_output 13 = .ok (.iload_n 1, 1) := by decide +kernel
theorem d_F_output_14 : decode nb_F_output 14 = .ok (.ifCond .lt 25, 3) := by decide +kernel
theorem d_F_output_17 : decode nb_F_output 17 = .ok (.iload_n 1, 1) := by decide +kernel
theorem d_F_output_18 : decode nb_F_output 18 = .ok (.aload_n 0, 1) := by decide +kernel
theorem d_F_output_19 : decode nb_F_output 19 = .ok (.getfield 29, 3) := by decide +kernel
theorem d_F_output_22 : decode nb_F_output 22 = .ok (.getfield 60, 3) := by decide +kernel
theorem d_F_output_25 : decode nb_F_output 25 = .ok (.if_icmp .ge 14, 3) := by decide +kernel
theorem d_F_output_28 : decode nb_F_output 28 = .ok (.aload_n 0, 1) := by decide +kernel
theorem d_F_output_29 : decode nb_F_output 29 = .ok (.getfield 29, 3) := by decide +kernel
theorem d_F_output_32 : decode nb_F_output 32 = .ok (.iload_n 1, 1) := by decide +kernel
theorem d_F_output_33 : decode nb_F_output 33 = .ok (.invokevirtual 235, 3) := by decide +kernel
theorem d_F_output_36 : decode nb_F_output 36 = .ok (.goto 4, 3) := by decide +kernel
theorem d_F_output_39 : decode nb_F_output 39 = .ok (.iconst (-1), 1) := by decide +kernel
theorem d_F_output_40 : decode nb_F_output 40 = .ok (.ireturn, 1) := by decide +kernel
abbrev rm_F_output : Room := ({ frames := 1, cells := 0, slots := 0, locals := 21 })
theorem w_F_output_40 {post : Int32 → nf_M → Prop} (hfl : l.flags = flags0) (K : nf_K p s m args meth c "NumberForge" nb_F_output 2 (some FieldType.int) D a sz) : ∀ (xy0 : Int32) (M : nf_M) (H : Heap) (locs : List Loc) (ls : Array Slot), B_F_output_40 post xy0 M → lv_has ls 2 [] → nf_W D a s sz H locs M → W p l e rm_F_output s m args below meth c H locs 0 0 (nf_MQ below (nf_Q nf_jI D a post ex (nf_A a sz)) args s rm_F_output.cells rm_F_output.slots (nf_A a sz)) (F0 m 40 ls [.int xy0]) := by
  have hx := K.1
  have hb := K.2.1
  intro xy0 M H locs ls h hl hw
  exact nf_iret K hw d_F_output_40 rfl (Nat.le_of_ble_eq_true rfl) (Nat.le_of_ble_eq_true rfl) (r := xy0) rfl h
theorem w_F_output_39 {post : Int32 → nf_M → Prop} (hfl : l.flags = flags0) (K : nf_K p s m args meth c "NumberForge" nb_F_output 2 (some FieldType.int) D a sz) : ∀ (M : nf_M) (H : Heap) (locs : List Loc) (ls : Array Slot), B_F_output_39 post  M → lv_has ls 2 [] → nf_W D a s sz H locs M → W p l e rm_F_output s m args below meth c H locs 0 0 (nf_MQ below (nf_Q nf_jI D a post ex (nf_A a sz)) args s rm_F_output.cells rm_F_output.slots (nf_A a sz)) (F0 m 39 ls []) := by
  have hx := K.1
  have hb := K.2.1
  intro  M H locs ls h hl hw
  refine lv_iconst (v := (-1 : Int32)) hx hb d_F_output_39 (by decide) ?_
  exact w_F_output_40 hfl K (-1 : Int32) M _ _ _ h (lv_sub hl [] rfl) hw
theorem c_F_output (l : Launch) (hfl : l.flags = flags0) (x1 : Int32) : nf_C nf_jI l nm_F_output nb_F_output 2 (some FieldType.int) rm_F_output (fun a => [.ref (a 0), .int x1]) (fun M post ex => P_F_output x1 M post) := by
  refine nf_start (plainFor_of_name (by decide +kernel)) (fun a => Nat.le_of_ble_eq_true rfl) ?_
  intro D a sz M post ex p e s m below meth c ls h K hl hw
  have hx := K.1
  have hb := K.2.1
  have hl : lv_has ls 2 [(0, .ref (a 0)), (1, .int x1)] := hl
  refine lv_iload_n hx hb d_F_output_0 rfl (lv_at hl 1 rfl) ?_
  refine lv_iconst (v := (-1 : Int32)) hx hb d_F_output_1 (by decide) ?_
  refine nf_ic_ne hx hb d_F_output_2 (tgt := 13) (by decide) (fun hc => ?_) (fun hc => ?_)
  · have h := h.1 hc
    refine lv_aload_n hx hb d_F_output_5 rfl (lv_at hl 0 rfl) ?_
    refine nf_get (v := .ref (a (nf_ro true))) K hw 0 6 3 nw_171 rfl rfl ni_F (by decide) rfl rfl d_F_output_6 ?_
    refine nf_getN (v := .int (mg_N M true)) K hw (nf_ro true) 3 1 nv_68 (nf_heR _ _ _) rfl ni_R (by decide) rfl rfl d_F_output_9 ?_
    exact nf_iret K hw d_F_output_12 rfl (Nat.le_of_ble_eq_true rfl) (Nat.le_of_ble_eq_true rfl) (r := mg_N M true) rfl h
  · have h := h.2 hc
    refine lv_iload_n hx hb d_F_output_13 rfl (lv_at hl 1 rfl) ?_
    refine nf_if_lt hx hb d_F_output_14 (tgt := 39) (by decide) (fun hc => ?_) (fun hc => ?_)
    · have h := h.1 hc
      exact w_F_output_39 hfl K  M _ _ _ h (lv_sub hl [] rfl) hw
    · have h := h.2 hc
      refine lv_iload_n hx hb d_F_output_17 rfl (lv_at hl 1 rfl) ?_
      refine lv_aload_n hx hb d_F_output_18 rfl (lv_at hl 0 rfl) ?_
      refine nf_get (v := .ref (a (nf_ro true))) K hw 0 6 3 nw_171 rfl rfl ni_F (by decide) rfl rfl d_F_output_19 ?_
      refine nf_getN (v := .int (mg_N M true)) K hw (nf_ro true) 3 1 nv_68 (nf_heR _ _ _) rfl ni_R (by decide) rfl rfl d_F_output_22 ?_
      refine nf_ic_ge hx hb d_F_output_25 (tgt := 39) (by decide) (fun hc => ?_) (fun hc => ?_)
      · have h := h.1 hc
        refine lv_aload_n hx hb d_F_output_28 rfl (lv_at hl 0 rfl) ?_
        refine nf_get (v := .ref (a (nf_ro true))) K hw 0 6 3 nw_171 rfl rfl ni_F (by decide) rfl rfl d_F_output_29 ?_
        refine lv_iload_n hx hb d_F_output_32 rfl (lv_at hl 1 rfl) ?_
        refine nf_callW (ex := (fun _ _ => False)) (As := [.ref (a (nf_ro true)), .int x1]) (st0 := [.int x1, .ref (a (nf_ro true))]) (rest := []) K hw (nf_invVN hx hb K.2.2.2.1 ((nf_Kr K nv_229).use rfl) (nf_Kg K nw_231) (nf_Kg K nx_R_at) (nf_Kg K nw_232) ⟨by decide, by decide⟩ (nf_rcv K hw (nf_ro true) 3 (nf_heR _ _ _) rfl) rfl nl_R_at rfl d_F_output_33) (c_R_at l hfl true x1) nw_232 nw_3 rfl ⟨by decide, by decide⟩ (Nat.le_of_ble_eq_true rfl) hl.1 ⟨Nat.le_of_ble_eq_true rfl, Nat.le_of_ble_eq_true rfl⟩ h (fun _ _ h => h.elim) (fun r1 M2 H locs h hw => ?_)
        refine W.eq (g2 := F0 m 36 ls [.int r1]) rfl ?_
        refine lv_goto hx hb d_F_output_36 (tgt := 40) (by decide) ?_
        exact w_F_output_40 hfl K r1 M2 _ _ _ h (lv_sub hl [] rfl) hw
      · have h := h.2 hc
        exact w_F_output_39 hfl K  M _ _ _ h (lv_sub hl [] rfl) hw
theorem d_F_register_0 : decode nb_F_register 0 = .ok (.iload_n 1, 1) := by decide +kernel
theorem d_F_register_1 : decode nb_F_register 1 = .ok (.ifCond .lt 12, 3) := by decide +kernel
theorem d_F_register_4 : decode nb_F_register 4 = .ok (.iload_n 1, 1) := by decide +kernel
theorem d_F_register_5 : decode nb_F_register 5 = .ok (.aload_n 0, 1) := by decide +kernel
theorem d_F_register_6 : decode nb_F_register 6 = .ok (.getfield 11, 3) := by decide +kernel
theorem d_F_register_9 : decode nb_F_register 9 = .ok (.arraylength, 1) := by decide +kernel
theorem d_F_register_10 : decode nb_F_register 10 = .ok (.if_icmp .lt 13, 3) := by decide +kernel
theorem d_F_register_13 : decode nb_F_register 13 = .ok (.new 239, 3) := by decide +kernel
theorem d_F_register_16 : decode nb_F_register 16 = .ok (.dup, 1) := by decide +kernel
theorem d_F_register_17 : decode nb_F_register 17 = .ok (.ldc 241, 2) := by decide +kernel
theorem d_F_register_19 : decode nb_F_register 19 = .ok (.invokespecial 243, 3) := by decide +kernel
theorem d_F_register_22 : decode nb_F_register 22 = .ok (.athrow, 1) := by decide +kernel
theorem d_F_register_23 : decode nb_F_register 23 = .ok (.aload_n 0, 1) := by decide +kernel
theorem d_F_register_24 : decode nb_F_register 24 = .ok (.getfield 11, 3) := by decide +kernel
theorem d_F_register_27 : decode nb_F_register 27 = .ok (.iload_n 1, 1) := by decide +kernel
theorem d_F_register_28 : decode nb_F_register 28 = .ok (.aaload, 1) := by decide +kernel
theorem d_F_register_29 : decode nb_F_register 29 = .ok (.areturn, 1) := by decide +kernel
abbrev rm_F_register : Room := ({ frames := 6, cells := 1, slots := 6, locals := 100 })
theorem w_F_register_13 {post : Fin 9 → nf_M → Prop} (hfl : l.flags = flags0) (K : nf_K p s m args meth c "NumberForge" nb_F_register 2 (some (FieldType.object "NumberForge$Value")) D a sz) : ∀ (M : nf_M) (H : Heap) (locs : List Loc) (ls : Array Slot), B_F_register_13 post ex  M → lv_has ls 2 [] → nf_W D a s sz H locs M → W p l e rm_F_register s m args below meth c H locs 0 0 (nf_MQ below (nf_Q nf_jV D a post ex (nf_A a sz)) args s rm_F_register.cells rm_F_register.slots (nf_A a sz)) (F0 m 13 ls []) := by
  have hx := K.1
  have hb := K.2.1
  intro  M H locs ls h hl hw
  exact nf_throw (i := 5) 0 hfl K hw rfl (by decide) na_F_243 nw_247 nw_248 nw_13 rfl d_F_register_13 d_F_register_16 d_F_register_17 d_F_register_19 d_F_register_22 hl.1 ⟨by decide, by decide⟩ ⟨Nat.le_of_ble_eq_true rfl, Nat.le_of_ble_eq_true rfl⟩ h
theorem c_F_register (l : Launch) (hfl : l.flags = flags0) (x1 : Int32) : nf_C nf_jV l nm_F_register nb_F_register 2 (some (FieldType.object "NumberForge$Value")) rm_F_register (fun a => [.ref (a 0), .int x1]) (fun M post ex => P_F_register x1 M post ex) := by
  refine nf_start (plainFor_of_name (by decide +kernel)) (fun a => Nat.le_of_ble_eq_true rfl) ?_
  intro D a sz M post ex p e s m below meth c ls h K hl hw
  have hx := K.1
  have hb := K.2.1
  have hl : lv_has ls 2 [(0, .ref (a 0)), (1, .int x1)] := hl
  refine lv_iload_n hx hb d_F_register_0 rfl (lv_at hl 1 rfl) ?_
  refine nf_if_lt hx hb d_F_register_1 (tgt := 13) (by decide) (fun hc => ?_) (fun hc => ?_)
  · have h := h.1 hc
    exact w_F_register_13 hfl K  M _ _ _ h (lv_sub hl [] rfl) hw
  · have h := h.2 hc
    refine lv_iload_n hx hb d_F_register_4 rfl (lv_at hl 1 rfl) ?_
    refine lv_aload_n hx hb d_F_register_5 rfl (lv_at hl 0 rfl) ?_
    refine nf_get (v := .ref (a 1)) K hw 0 6 0 nw_168 rfl rfl ni_F (by decide) rfl rfl d_F_register_6 ?_
    refine nf_rlen K hw d_F_register_9 ?_
    refine nf_ic_lt hx hb d_F_register_10 (tgt := 23) (by decide) (fun hc => ?_) (fun hc => ?_)
    · have h := h.1 hc
      refine lv_aload_n hx hb d_F_register_23 rfl (lv_at hl 0 rfl) ?_
      refine nf_get (v := .ref (a 1)) K hw 0 6 0 nw_168 rfl rfl ni_F (by decide) rfl rfl d_F_register_24 ?_
      refine lv_iload_n hx hb d_F_register_27 rfl (lv_at hl 1 rfl) ?_
      obtain ⟨g1, h⟩ := h
      refine nf_rald K hw g1 d_F_register_28 ?_
      exact nf_aret K hw d_F_register_29 (Nat.le_of_ble_eq_true rfl) (Nat.le_of_ble_eq_true rfl) (r := (nf_rg x1)) rfl h
    · have h := h.2 hc
      exact w_F_register_13 hfl K  M _ _ _ h (lv_sub hl [] rfl) hw
theorem d_F_checkIndex_0 : decode nb_F_checkIndex 0 = .ok (.iload_n 0, 1) := by decide +kernel
theorem d_F_checkIndex_1 : decode nb_F_checkIndex 1 = .ok (.ifCond .lt 8, 3) := by decide +kernel
theorem d_F_checkIndex_4 : decode nb_F_checkIndex 4 = .ok (.iload_n 0, 1) := by decide +kernel
theorem d_F_checkIndex_5 : decode nb_F_checkIndex 5 = .ok (.iload_n 1, 1) := by decide +kernel
theorem d_F_checkIndex_6 : decode nb_F_checkIndex 6 = .ok (.if_icmp .lt 13, 3) := by decide +kernel
theorem d_F_checkIndex_9 : decode nb_F_checkIndex 9 = .ok (.new 239, 3) := by decide +kernel
theorem d_F_checkIndex_12 : decode nb_F_checkIndex 12 = .ok (.dup, 1) := by decide +kernel
theorem d_F_checkIndex_13 : decode nb_F_checkIndex 13 = .ok (.ldc 244, 2) := by decide +kernel
theorem d_F_checkIndex_15 : decode nb_F_checkIndex 15 = .ok (.invokespecial 243, 3) := by decide +kernel
theorem d_F_checkIndex_18 : decode nb_F_checkIndex 18 = .ok (.athrow, 1) := by decide +kernel
theorem d_F_checkIndex_19 : decode nb_F_checkIndex 19 = .ok (.return_, 1) := by decide +kernel
abbrev rm_F_checkIndex : Room := ({ frames := 6, cells := 1, slots := 6, locals := 100 })
theorem w_F_checkIndex_9 {post : Unit → nf_M → Prop} (hfl : l.flags = flags0) (K : nf_K p s m args meth c "NumberForge" nb_F_checkIndex 2 none D a sz) : ∀ (M : nf_M) (H : Heap) (locs : List Loc) (ls : Array Slot), B_F_checkIndex_9 post ex  M → lv_has ls 2 [] → nf_W D a s sz H locs M → W p l e rm_F_checkIndex s m args below meth c H locs 0 0 (nf_MQ below (nf_Q nf_jN D a post ex (nf_A a sz)) args s rm_F_checkIndex.cells rm_F_checkIndex.slots (nf_A a sz)) (F0 m 9 ls []) := by
  have hx := K.1
  have hb := K.2.1
  intro  M H locs ls h hl hw
  exact nf_throw (i := 6) 0 hfl K hw rfl (by decide) na_F_243 nw_247 nw_248 nw_13 rfl d_F_checkIndex_9 d_F_checkIndex_12 d_F_checkIndex_13 d_F_checkIndex_15 d_F_checkIndex_18 hl.1 ⟨by decide, by decide⟩ ⟨Nat.le_of_ble_eq_true rfl, Nat.le_of_ble_eq_true rfl⟩ h
theorem c_F_checkIndex (l : Launch) (hfl : l.flags = flags0) (x0 : Int32) (x1 : Int32) : nf_C nf_jN l nm_F_checkIndex nb_F_checkIndex 2 none rm_F_checkIndex (fun a => [.int x0, .int x1]) (fun M post ex => P_F_checkIndex x0 x1 M post ex) := by
  refine nf_start (plainFor_of_name (by decide +kernel)) (fun a => Nat.le_of_ble_eq_true rfl) ?_
  intro D a sz M post ex p e s m below meth c ls h K hl hw
  have hx := K.1
  have hb := K.2.1
  have hl : lv_has ls 2 [(0, .int x0), (1, .int x1)] := hl
  refine lv_iload_n hx hb d_F_checkIndex_0 rfl (lv_at hl 0 rfl) ?_
  refine nf_if_lt hx hb d_F_checkIndex_1 (tgt := 9) (by decide) (fun hc => ?_) (fun hc => ?_)
  · have h := h.1 hc
    exact w_F_checkIndex_9 hfl K  M _ _ _ h (lv_sub hl [] rfl) hw
  · have h := h.2 hc
    refine lv_iload_n hx hb d_F_checkIndex_4 rfl (lv_at hl 0 rfl) ?_
    refine lv_iload_n hx hb d_F_checkIndex_5 rfl (lv_at hl 1 rfl) ?_
    refine nf_ic_lt hx hb d_F_checkIndex_6 (tgt := 19) (by decide) (fun hc => ?_) (fun hc => ?_)
    · have h := h.1 hc
      exact nf_vret K hw d_F_checkIndex_19 (Nat.le_of_ble_eq_true rfl) (Nat.le_of_ble_eq_true rfl) (r := ()) rfl h
    · have h := h.2 hc
      exact w_F_checkIndex_9 hfl K  M _ _ _ h (lv_sub hl [] rfl) hw
theorem d_N_passBlanks_0 : decode nb_N_passBlanks 0 = .ok (.aload_n 0, 1) := by decide +kernel
theorem d_N_passBlanks_1 : decode nb_N_passBlanks 1 = .ok (.iconst 0, 1) := by decide +kernel
theorem d_N_passBlanks_2 : decode nb_N_passBlanks 2 = .ok (.putfield 15, 3) := by decide +kernel
theorem d_N_passBlanks_5 : decode nb_N_passBlanks 5 = .ok (.aload_n 0, 1) := by decide +kernel
theorem d_N_passBlanks_6 : decode nb_N_passBlanks 6 = .ok (.aload_n 1, 1) := by decide +kernel
theorem d_N_passBlanks_7 : decode nb_N_passBlanks 7 = .ok (.getfield 48, 3) := by decide +kernel
theorem d_N_passBlanks_10 : decode nb_N_passBlanks 10 = .ok (.putfield 19, 3) := by decide +kernel
theorem d_N_passBlanks_13 : decode nb_N_passBlanks 13 = .ok (.aload_n 0, 1) := by decide +kernel
theorem d_N_passBlanks_14 : decode nb_N_passBlanks 14 = .ok (.getfield 15, 3) := by decide +kernel
theorem d_N_passBlanks_17 : decode nb_N_passBlanks 17 = .ok (.aload_n 0, 1) := by decide +kernel
theorem d_N_passBlanks_18 : decode nb_N_passBlanks 18 = .ok (.getfield 19, 3) := by decide +kernel
theorem d_N_passBlanks_21 : decode nb_N_passBlanks 21 = .ok (.if_icmp .ge 29, 3) := by decide +kernel
theorem d_N_passBlanks_24 : decode nb_N_passBlanks 24 = .ok (.aload_n 1, 1) := by decide +kernel
theorem d_N_passBlanks_25 : decode nb_N_passBlanks 25 = .ok (.aload_n 0, 1) := by decide +kernel
theorem d_N_passBlanks_26 : decode nb_N_passBlanks 26 = .ok (.getfield 15, 3) := by decide +kernel
theorem d_N_passBlanks_29 : decode nb_N_passBlanks 29 = .ok (.invokevirtual 22, 3) := by decide +kernel
theorem d_N_passBlanks_32 : decode nb_N_passBlanks 32 = .ok (.bipush 32, 2) := by decide +kernel
theorem d_N_passBlanks_34 : decode nb_N_passBlanks 34 = .ok (.if_icmp .ne 16, 3) := by decide +kernel
theorem d_N_passBlanks_37 : decode nb_N_passBlanks 37 = .ok (.aload_n 0, 1) := by decide +kernel
theorem d_N_passBlanks_38 : decode nb_N_passBlanks 38 = .ok (.dup, 1) := by decide +kernel
theorem d_N_passBlanks_39 : decode nb_N_passBlanks 39 = .ok (.getfield 15, 3) := by decide +kernel
theorem d_N_passBlanks_42 : decode nb_N_passBlanks 42 = .ok (.iconst 1, 1) := by decide +kernel
theorem d_N_passBlanks_43 : decode nb_N_passBlanks 43 = .ok (.iadd, 1) := by decide +kernel
theorem d_N_passBlanks_44 : decode nb_N_passBlanks 44 = .ok (.putfield 15, 3) := by decide +kernel
theorem d_N_passBlanks_47 : decode nb_N_passBlanks 47 = .ok (.goto (-34), 3) := by decide +kernel
theorem d_N_passBlanks_50 : decode nb_N_passBlanks 50 = .ok (.aload_n 0, 1) := by decide +kernel
theorem d_N_passBlanks_51 : decode nb_N_passBlanks 51 = .ok (.getfield 19, 3) := by decide +kernel
theorem d_N_passBlanks_54 : decode nb_N_passBlanks 54 = .ok (.aload_n 0, 1) := by decide +kernel
theorem d_N_passBlanks_55 : decode nb_N_passBlanks 55 = .ok (.getfield 15, 3) := by decide +kernel
theorem d_N_passBlanks_58 : decode nb_N_passBlanks 58 = .ok (.if_icmp .le 31, 3) := by decide +kernel
theorem d_N_passBlanks_61 : decode nb_N_passBlanks 61 = .ok (.aload_n 1, 1) := by decide +kernel
theorem d_N_passBlanks_62 : decode nb_N_passBlanks 62 = .ok (.aload_n 0, 1) := by decide +kernel
theorem d_N_passBlanks_63 : decode nb_N_passBlanks 63 = .ok (.getfield 19, 3) := by decide +kernel
theorem d_N_passBlanks_66 : decode nb_N_passBlanks 66 = .ok (.iconst 1, 1) := by decide +kernel
theorem d_N_passBlanks_67 : decode nb_N_passBlanks 67 = .ok (.isub, 1) := by decide +kernel
theorem d_N_passBlanks_68 : decode nb_N_passBlanks 68 = .ok (.invokevirtual 22, 3) := by decide +kernel
theorem d_N_passBlanks_71 : decode nb_N_passBlanks 71 = .ok (.bipush 32, 2) := by decide +kernel
theorem d_N_passBlanks_73 : decode nb_N_passBlanks 73 = .ok (.if_icmp .ne 16, 3) := by decide +kernel
theorem d_N_passBlanks_76 : decode nb_N_passBlanks 76 = .ok (.aload_n 0, 1) := by decide +kernel
theorem d_N_passBlanks_77 : decode nb_N_passBlanks 77 = .ok (.dup, 1) := by decide +kernel
theorem d_N_passBlanks_78 : decode nb_N_passBlanks 78 = .ok (.getfield 19, 3) := by decide +kernel
theorem d_N_passBlanks_81 : decode nb_N_passBlanks 81 = .ok (.iconst 1, 1) := by decide +kernel
theorem d_N_passBlanks_82 : decode nb_N_passBlanks 82 = .ok (.isub, 1) := by decide +kernel
theorem d_N_passBlanks_83 : decode nb_N_passBlanks 83 = .ok (.putfield 19, 3) := by decide +kernel
theorem d_N_passBlanks_86 : decode nb_N_passBlanks 86 = .ok (.goto (-36), 3) := by decide +kernel
theorem d_N_passBlanks_89 : decode nb_N_passBlanks 89 = .ok (.return_, 1) := by decide +kernel
abbrev rm_N_passBlanks : Room := ({ frames := 1, cells := 0, slots := 0, locals := 21 })
theorem w_N_passBlanks_89 {post : Unit → nf_M → Prop} (hfl : l.flags = flags0) (K : nf_K p s m args meth c "NumberForge$Numeral" nb_N_passBlanks 2 none D a sz) : ∀ (M : nf_M) (H : Heap) (locs : List Loc) (ls : Array Slot), B_N_passBlanks_89 post  M → lv_has ls 2 [] → nf_W D a s sz H locs M → W p l e rm_N_passBlanks s m args below meth c H locs 0 0 (nf_MQ below (nf_Q nf_jN D a post ex (nf_A a sz)) args s rm_N_passBlanks.cells rm_N_passBlanks.slots (nf_A a sz)) (F0 m 89 ls []) := by
  have hx := K.1
  have hb := K.2.1
  intro  M H locs ls h hl hw
  exact nf_vret K hw d_N_passBlanks_89 (Nat.le_of_ble_eq_true rfl) (Nat.le_of_ble_eq_true rfl) (r := ()) rfl h
theorem w_N_passBlanks_50 {post : Unit → nf_M → Prop} (hfl : l.flags = flags0) (K : nf_K p s m args meth c "NumberForge$Numeral" nb_N_passBlanks 2 none D a sz) : ∀ (n : Nat) (b1 : Bool) (M : nf_M) (H : Heap) (locs : List Loc) (ls : Array Slot), B_N_passBlanks_50 post n b1 M → lv_has ls 2 [(0, .ref (a 6)), (1, .ref (a (nf_ro b1)))] → nf_W D a s sz H locs M → W p l e rm_N_passBlanks s m args below meth c H locs 0 0 (nf_MQ below (nf_Q nf_jN D a post ex (nf_A a sz)) args s rm_N_passBlanks.cells rm_N_passBlanks.slots (nf_A a sz)) (F0 m 50 ls []) := by
  have hx := K.1
  have hb := K.2.1
  intro n
  induction n with
  | zero => intro b1 M H locs ls h hl hw; exact h.elim
  | succ n ih =>
    intro b1 M H locs ls h hl hw
    refine lv_aload_n hx hb d_N_passBlanks_50 rfl (lv_at hl 0 rfl) ?_
    refine nf_get (v := .int (mg_I M 6 1)) K hw 6 1 1 nw_84 rfl rfl ni_N (by decide) rfl rfl d_N_passBlanks_51 ?_
    refine lv_aload_n hx hb d_N_passBlanks_54 rfl (lv_at hl 0 rfl) ?_
    refine nf_get (v := .int (mg_I M 6 0)) K hw 6 1 0 nw_83 rfl rfl ni_N (by decide) rfl rfl d_N_passBlanks_55 ?_
    refine nf_ic_le hx hb d_N_passBlanks_58 (tgt := 89) (by decide) (fun hc => ?_) (fun hc => ?_)
    · have h := h.1 hc
      refine lv_aload_n hx hb d_N_passBlanks_61 rfl (lv_at hl 1 rfl) ?_
      refine lv_aload_n hx hb d_N_passBlanks_62 rfl (lv_at hl 0 rfl) ?_
      refine nf_get (v := .int (mg_I M 6 1)) K hw 6 1 1 nw_84 rfl rfl ni_N (by decide) rfl rfl d_N_passBlanks_63 ?_
      refine lv_iconst (v := (1 : Int32)) hx hb d_N_passBlanks_66 (by decide) ?_
      refine lv_isub hx hb d_N_passBlanks_67 ?_
      refine nf_callW (ex := (fun _ _ => False)) (As := [.ref (a (nf_ro b1)), .int ((mg_I M 6 1) - (1 : Int32))]) (st0 := [.int ((mg_I M 6 1) - (1 : Int32)), .ref (a (nf_ro b1))]) (rest := []) K hw (nf_invVN hx hb K.2.2.2.1 ((nf_Kr K nv_329).use rfl) (nf_Kg K nw_231) (nf_Kg K nx_R_at) (nf_Kg K nw_232) ⟨by decide, by decide⟩ (nf_rcv K hw (nf_ro b1) 3 (nf_heR _ _ _) rfl) rfl nl_R_at rfl d_N_passBlanks_68) (c_R_at l hfl b1 ((mg_I M 6 1) - (1 : Int32))) nw_232 nw_3 rfl ⟨by decide, by decide⟩ (Nat.le_of_ble_eq_true rfl) hl.1 ⟨Nat.le_of_ble_eq_true rfl, Nat.le_of_ble_eq_true rfl⟩ h (fun _ _ h => h.elim) (fun r1 M2 H locs h hw => ?_)
      refine W.eq (g2 := F0 m 71 ls [.int r1]) rfl ?_
      refine lv_bipush (v := (32 : Int32)) hx hb d_N_passBlanks_71 (by decide) ?_
      refine nf_ic_ne hx hb d_N_passBlanks_73 (tgt := 89) (by decide) (fun hc => ?_) (fun hc => ?_)
      · have h := h.1 hc
        refine lv_aload_n hx hb d_N_passBlanks_76 rfl (lv_at hl 0 rfl) ?_
        refine lv_dup hx hb d_N_passBlanks_77 rfl ?_
        refine nf_get (v := .int (mg_I M2 6 1)) K hw 6 1 1 nw_84 rfl rfl ni_N (by decide) rfl rfl d_N_passBlanks_78 ?_
        refine lv_iconst (v := (1 : Int32)) hx hb d_N_passBlanks_81 (by decide) ?_
        refine lv_isub hx hb d_N_passBlanks_82 ?_
        refine lv_topi (fun t3 et3 => ?_)
        have h := h t3 et3
        refine nf_put (M' := ms_I M2 6 1 t3) K hw 6 1 1 nw_84 rfl rfl rfl ni_N ny_N nq_N nn_N (by decide) rfl rfl rfl rfl (Nat.le_of_ble_eq_true rfl) d_N_passBlanks_83 (fun H locs hw => ?_)
        obtain ⟨M4, eM4⟩ : ∃ z, z = ms_I M2 6 1 t3 := ⟨_, rfl⟩
        rw [← eM4] at hw
        have h := h M4 eM4
        refine lv_goto hx hb d_N_passBlanks_86 (tgt := 50) (by decide) ?_
        exact ih b1 M4 _ _ _ h (lv_sub hl [0, 1] rfl) hw
      · have h := h.2 hc
        exact w_N_passBlanks_89 hfl K  M2 _ _ _ h (lv_sub hl [] rfl) hw
    · have h := h.2 hc
      exact w_N_passBlanks_89 hfl K  M _ _ _ h (lv_sub hl [] rfl) hw
theorem w_N_passBlanks_13 {post : Unit → nf_M → Prop} (hfl : l.flags = flags0) (K : nf_K p s m args meth c "NumberForge$Numeral" nb_N_passBlanks 2 none D a sz) : ∀ (n : Nat) (b1 : Bool) (M : nf_M) (H : Heap) (locs : List Loc) (ls : Array Slot), B_N_passBlanks_13 post n b1 M → lv_has ls 2 [(0, .ref (a 6)), (1, .ref (a (nf_ro b1)))] → nf_W D a s sz H locs M → W p l e rm_N_passBlanks s m args below meth c H locs 0 0 (nf_MQ below (nf_Q nf_jN D a post ex (nf_A a sz)) args s rm_N_passBlanks.cells rm_N_passBlanks.slots (nf_A a sz)) (F0 m 13 ls []) := by
  have hx := K.1
  have hb := K.2.1
  intro n
  induction n with
  | zero => intro b1 M H locs ls h hl hw; exact h.elim
  | succ n ih =>
    intro b1 M H locs ls h hl hw
    refine lv_aload_n hx hb d_N_passBlanks_13 rfl (lv_at hl 0 rfl) ?_
    refine nf_get (v := .int (mg_I M 6 0)) K hw 6 1 0 nw_83 rfl rfl ni_N (by decide) rfl rfl d_N_passBlanks_14 ?_
    refine lv_aload_n hx hb d_N_passBlanks_17 rfl (lv_at hl 0 rfl) ?_
    refine nf_get (v := .int (mg_I M 6 1)) K hw 6 1 1 nw_84 rfl rfl ni_N (by decide) rfl rfl d_N_passBlanks_18 ?_
    refine nf_ic_ge hx hb d_N_passBlanks_21 (tgt := 50) (by decide) (fun hc => ?_) (fun hc => ?_)
    · have h := h.1 hc
      refine lv_aload_n hx hb d_N_passBlanks_24 rfl (lv_at hl 1 rfl) ?_
      refine lv_aload_n hx hb d_N_passBlanks_25 rfl (lv_at hl 0 rfl) ?_
      refine nf_get (v := .int (mg_I M 6 0)) K hw 6 1 0 nw_83 rfl rfl ni_N (by decide) rfl rfl d_N_passBlanks_26 ?_
      refine nf_callW (ex := (fun _ _ => False)) (As := [.ref (a (nf_ro b1)), .int (mg_I M 6 0)]) (st0 := [.int (mg_I M 6 0), .ref (a (nf_ro b1))]) (rest := []) K hw (nf_invVN hx hb K.2.2.2.1 ((nf_Kr K nv_329).use rfl) (nf_Kg K nw_231) (nf_Kg K nx_R_at) (nf_Kg K nw_232) ⟨by decide, by decide⟩ (nf_rcv K hw (nf_ro b1) 3 (nf_heR _ _ _) rfl) rfl nl_R_at rfl d_N_passBlanks_29) (c_R_at l hfl b1 (mg_I M 6 0)) nw_232 nw_3 rfl ⟨by decide, by decide⟩ (Nat.le_of_ble_eq_true rfl) hl.1 ⟨Nat.le_of_ble_eq_true rfl, Nat.le_of_ble_eq_true rfl⟩ h (fun _ _ h => h.elim) (fun r1 M2 H locs h hw => ?_)
      refine W.eq (g2 := F0 m 32 ls [.int r1]) rfl ?_
      refine lv_bipush (v := (32 : Int32)) hx hb d_N_passBlanks_32 (by decide) ?_
      refine nf_ic_ne hx hb d_N_passBlanks_34 (tgt := 50) (by decide) (fun hc => ?_) (fun hc => ?_)
      · have h := h.1 hc
        refine lv_aload_n hx hb d_N_passBlanks_37 rfl (lv_at hl 0 rfl) ?_
        refine lv_dup hx hb d_N_passBlanks_38 rfl ?_
        refine nf_get (v := .int (mg_I M2 6 0)) K hw 6 1 0 nw_83 rfl rfl ni_N (by decide) rfl rfl d_N_passBlanks_39 ?_
        refine lv_iconst (v := (1 : Int32)) hx hb d_N_passBlanks_42 (by decide) ?_
        refine lv_iadd hx hb d_N_passBlanks_43 ?_
        refine lv_topi (fun t3 et3 => ?_)
        have h := h t3 et3
        refine nf_put (M' := ms_I M2 6 0 t3) K hw 6 1 0 nw_83 rfl rfl rfl ni_N ny_N nq_N nn_N (by decide) rfl rfl rfl rfl (Nat.le_of_ble_eq_true rfl) d_N_passBlanks_44 (fun H locs hw => ?_)
        obtain ⟨M4, eM4⟩ : ∃ z, z = ms_I M2 6 0 t3 := ⟨_, rfl⟩
        rw [← eM4] at hw
        have h := h M4 eM4
        refine lv_goto hx hb d_N_passBlanks_47 (tgt := 13) (by decide) ?_
        exact ih b1 M4 _ _ _ h (lv_sub hl [0, 1] rfl) hw
      · have h := h.2 hc
        obtain ⟨n9, h⟩ := h
        exact w_N_passBlanks_50 hfl K n9 b1 M2 _ _ _ h (lv_sub hl [0, 1] rfl) hw
    · have h := h.2 hc
      obtain ⟨n9, h⟩ := h
      exact w_N_passBlanks_50 hfl K n9 b1 M _ _ _ h (lv_sub hl [0, 1] rfl) hw
theorem c_N_passBlanks (l : Launch) (hfl : l.flags = flags0) (b1 : Bool) : nf_C nf_jN l nm_N_passBlanks nb_N_passBlanks 2 none rm_N_passBlanks (fun a => [.ref (a 6), .ref (a (nf_ro b1))]) (fun M post ex => P_N_passBlanks b1 M post) := by
  refine nf_start (plainFor_of_name (by decide +kernel)) (fun a => Nat.le_of_ble_eq_true rfl) ?_
  intro D a sz M post ex p e s m below meth c ls h K hl hw
  have hx := K.1
  have hb := K.2.1
  have hl : lv_has ls 2 [(0, .ref (a 6)), (1, .ref (a (nf_ro b1)))] := hl
  refine lv_aload_n hx hb d_N_passBlanks_0 rfl (lv_at hl 0 rfl) ?_
  refine lv_iconst (v := (0 : Int32)) hx hb d_N_passBlanks_1 (by decide) ?_
  refine nf_put (M' := ms_I M 6 0 (0 : Int32)) K hw 6 1 0 nw_83 rfl rfl rfl ni_N ny_N nq_N nn_N (by decide) rfl rfl rfl rfl (Nat.le_of_ble_eq_true rfl) d_N_passBlanks_2 (fun H locs hw => ?_)
  obtain ⟨M1, eM1⟩ : ∃ z, z = ms_I M 6 0 (0 : Int32) := ⟨_, rfl⟩
  rw [← eM1] at hw
  have h := h M1 eM1
  refine lv_aload_n hx hb d_N_passBlanks_5 rfl (lv_at hl 0 rfl) ?_
  refine lv_aload_n hx hb d_N_passBlanks_6 rfl (lv_at hl 1 rfl) ?_
  refine nf_getN (v := .int (mg_N M1 b1)) K hw (nf_ro b1) 3 1 nv_70 (nf_heR _ _ _) rfl ni_R (by decide) rfl rfl d_N_passBlanks_7 ?_
  refine lv_topi (fun t2 et2 => ?_)
  have h := h t2 et2
  refine nf_put (M' := ms_I M1 6 1 t2) K hw 6 1 1 nw_84 rfl rfl rfl ni_N ny_N nq_N nn_N (by decide) rfl rfl rfl rfl (Nat.le_of_ble_eq_true rfl) d_N_passBlanks_10 (fun H locs hw => ?_)
  obtain ⟨M3, eM3⟩ : ∃ z, z = ms_I M1 6 1 t2 := ⟨_, rfl⟩
  rw [← eM3] at hw
  have h := h M3 eM3
  obtain ⟨n, h⟩ := h
  exact w_N_passBlanks_13 hfl K n b1 M3 _ _ _ h (lv_sub hl [0, 1] rfl) hw
theorem d_N_passSign_0 : decode nb_N_passSign 0 = .ok (.aload_n 0, 1) := by decide +kernel
theorem d_N_passSign_1 : decode nb_N_passSign 1 = .ok (.getfield 15, 3) := by decide +kernel
theorem d_N_passSign_4 : decode nb_N_passSign 4 = .ok (.aload_n 0, 1) := by decide +kernel
theorem d_N_passSign_5 : decode nb_N_passSign 5 = .ok (.getfield 19, 3) := by decide +kernel
theorem d_N_passSign_8 : decode nb_N_passSign 8 = .ok (.if_icmp .ge 39, 3) := by decide +kernel
theorem d_N_passSign_11 : decode nb_N_passSign 11 = .ok (.aload_n 1, 1) := by decide +kernel
theorem d_N_passSign_12 : decode nb_N_passSign 12 = .ok (.aload_n 0, 1) := by decide +kernel
theorem d_N_passSign_13 : decode nb_N_passSign 13 = .ok (.getfield 15, 3) := by decide +kernel
theorem d_N_passSign_16 : decode nb_N_passSign 16 = .ok (.invokevirtual 22, 3) := by decide +kernel
theorem d_N_passSign_19 : decode nb_N_passSign 19 = .ok (.bipush 45, 2) := by decide +kernel
theorem d_N_passSign_21 : decode nb_N_passSign 21 = .ok (.if_icmp .eq 16, 3) := by decide +kernel
theorem d_N_passSign_24 : decode nb_N_passSign 24 = .ok (.aload_n 1, 1) := by decide +kernel
theorem d_N_passSign_25 : decode nb_N_passSign 25 = .ok (.aload_n 0, 1) := by decide +kernel
theorem d_N_passSign_26 : decode nb_N_passSign 26 = .ok (.getfield 15, 3) := by decide +kernel
theorem d_N_passSign_29 : decode nb_N_passSign 29 = .ok (.invokevirtual 22, 3) := by decide +kernel
theorem d_N_passSign_32 : decode nb_N_passSign 32 = .ok (.bipush 43, 2) := by decide +kernel
theorem d_N_passSign_34 : decode nb_N_passSign 34 = .ok (.if_icmp .ne 13, 3) := by decide +kernel
theorem d_N_passSign_37 : decode nb_N_passSign 37 = .ok (.aload_n 0, 1) := by decide +kernel
theorem d_N_passSign_38 : decode nb_N_passSign 38 = .ok (.dup, 1) := by decide +kernel
theorem d_N_passSign_39 : decode nb_N_passSign 39 = .ok (.getfield 15, 3) := by decide +kernel
theorem d_N_passSign_42 : decode nb_N_passSign 42 = .ok (.iconst 1, 1) := by decide +kernel
theorem d_N_passSign_43 : decode nb_N_passSign 43 = .ok (.iadd, 1) := by decide +kernel
theorem d_N_passSign_44 : decode nb_N_passSign 44 = .ok (.putfield 15, 3) := by decide +kernel
theorem d_N_passSign_47 : decode nb_N_passSign 47 = .ok (.return_, 1) := by decide +kernel
abbrev rm_N_passSign : Room := ({ frames := 1, cells := 0, slots := 0, locals := 21 })
theorem w_N_passSign_47 {post : Unit → nf_M → Prop} (hfl : l.flags = flags0) (K : nf_K p s m args meth c "NumberForge$Numeral" nb_N_passSign 2 none D a sz) : ∀ (M : nf_M) (H : Heap) (locs : List Loc) (ls : Array Slot), B_N_passSign_47 post  M → lv_has ls 2 [] → nf_W D a s sz H locs M → W p l e rm_N_passSign s m args below meth c H locs 0 0 (nf_MQ below (nf_Q nf_jN D a post ex (nf_A a sz)) args s rm_N_passSign.cells rm_N_passSign.slots (nf_A a sz)) (F0 m 47 ls []) := by
  have hx := K.1
  have hb := K.2.1
  intro  M H locs ls h hl hw
  exact nf_vret K hw d_N_passSign_47 (Nat.le_of_ble_eq_true rfl) (Nat.le_of_ble_eq_true rfl) (r := ()) rfl h
theorem w_N_passSign_37 {post : Unit → nf_M → Prop} (hfl : l.flags = flags0) (K : nf_K p s m args meth c "NumberForge$Numeral" nb_N_passSign 2 none D a sz) : ∀ (M : nf_M) (H : Heap) (locs : List Loc) (ls : Array Slot), B_N_passSign_37 post  M → lv_has ls 2 [(0, .ref (a 6))] → nf_W D a s sz H locs M → W p l e rm_N_passSign s m args below meth c H locs 0 0 (nf_MQ below (nf_Q nf_jN D a post ex (nf_A a sz)) args s rm_N_passSign.cells rm_N_passSign.slots (nf_A a sz)) (F0 m 37 ls []) := by
  have hx := K.1
  have hb := K.2.1
  intro  M H locs ls h hl hw
  refine lv_aload_n hx hb d_N_passSign_37 rfl (lv_at hl 0 rfl) ?_
  refine lv_dup hx hb d_N_passSign_38 rfl ?_
  refine nf_get (v := .int (mg_I M 6 0)) K hw 6 1 0 nw_83 rfl rfl ni_N (by decide) rfl rfl d_N_passSign_39 ?_
  refine lv_iconst (v := (1 : Int32)) hx hb d_N_passSign_42 (by decide) ?_
  refine lv_iadd hx hb d_N_passSign_43 ?_
  refine lv_topi (fun t1 et1 => ?_)
  have h := h t1 et1
  refine nf_put (M' := ms_I M 6 0 t1) K hw 6 1 0 nw_83 rfl rfl rfl ni_N ny_N nq_N nn_N (by decide) rfl rfl rfl rfl (Nat.le_of_ble_eq_true rfl) d_N_passSign_44 (fun H locs hw => ?_)
  obtain ⟨M2, eM2⟩ : ∃ z, z = ms_I M 6 0 t1 := ⟨_, rfl⟩
  rw [← eM2] at hw
  have h := h M2 eM2
  exact w_N_passSign_47 hfl K  M2 _ _ _ h (lv_sub hl [] rfl) hw
theorem c_N_passSign (l : Launch) (hfl : l.flags = flags0) (b1 : Bool) : nf_C nf_jN l nm_N_passSign nb_N_passSign 2 none rm_N_passSign (fun a => [.ref (a 6), .ref (a (nf_ro b1))]) (fun M post ex => P_N_passSign b1 M post) := by
  refine nf_start (plainFor_of_name (by decide +kernel)) (fun a => Nat.le_of_ble_eq_true rfl) ?_
  intro D a sz M post ex p e s m below meth c ls h K hl hw
  have hx := K.1
  have hb := K.2.1
  have hl : lv_has ls 2 [(0, .ref (a 6)), (1, .ref (a (nf_ro b1)))] := hl
  refine lv_aload_n hx hb d_N_passSign_0 rfl (lv_at hl 0 rfl) ?_
  refine nf_get (v := .int (mg_I M 6 0)) K hw 6 1 0 nw_83 rfl rfl ni_N (by decide) rfl rfl d_N_passSign_1 ?_
  refine lv_aload_n hx hb d_N_passSign_4 rfl (lv_at hl 0 rfl) ?_
  refine nf_get (v := .int (mg_I M 6 1)) K hw 6 1 1 nw_84 rfl rfl ni_N (by decide) rfl rfl d_N_passSign_5 ?_
  refine nf_ic_ge hx hb d_N_passSign_8 (tgt := 47) (by decide) (fun hc => ?_) (fun hc => ?_)
  · have h := h.1 hc
    refine lv_aload_n hx hb d_N_passSign_11 rfl (lv_at hl 1 rfl) ?_
    refine lv_aload_n hx hb d_N_passSign_12 rfl (lv_at hl 0 rfl) ?_
    refine nf_get (v := .int (mg_I M 6 0)) K hw 6 1 0 nw_83 rfl rfl ni_N (by decide) rfl rfl d_N_passSign_13 ?_
    refine nf_callW (ex := (fun _ _ => False)) (As := [.ref (a (nf_ro b1)), .int (mg_I M 6 0)]) (st0 := [.int (mg_I M 6 0), .ref (a (nf_ro b1))]) (rest := []) K hw (nf_invVN hx hb K.2.2.2.1 ((nf_Kr K nv_329).use rfl) (nf_Kg K nw_231) (nf_Kg K nx_R_at) (nf_Kg K nw_232) ⟨by decide, by decide⟩ (nf_rcv K hw (nf_ro b1) 3 (nf_heR _ _ _) rfl) rfl nl_R_at rfl d_N_passSign_16) (c_R_at l hfl b1 (mg_I M 6 0)) nw_232 nw_3 rfl ⟨by decide, by decide⟩ (Nat.le_of_ble_eq_true rfl) hl.1 ⟨Nat.le_of_ble_eq_true rfl, Nat.le_of_ble_eq_true rfl⟩ h (fun _ _ h => h.elim) (fun r1 M2 H locs h hw => ?_)
    refine W.eq (g2 := F0 m 19 ls [.int r1]) rfl ?_
    refine lv_bipush (v := (45 : Int32)) hx hb d_N_passSign_19 (by decide) ?_
    refine nf_ic_eq hx hb d_N_passSign_21 (tgt := 37) (by decide) (fun hc => ?_) (fun hc => ?_)
    · have h := h.1 hc
      exact w_N_passSign_37 hfl K  M2 _ _ _ h (lv_sub hl [0] rfl) hw
    · have h := h.2 hc
      refine lv_aload_n hx hb d_N_passSign_24 rfl (lv_at hl 1 rfl) ?_
      refine lv_aload_n hx hb d_N_passSign_25 rfl (lv_at hl 0 rfl) ?_
      refine nf_get (v := .int (mg_I M2 6 0)) K hw 6 1 0 nw_83 rfl rfl ni_N (by decide) rfl rfl d_N_passSign_26 ?_
      refine nf_callW (ex := (fun _ _ => False)) (As := [.ref (a (nf_ro b1)), .int (mg_I M2 6 0)]) (st0 := [.int (mg_I M2 6 0), .ref (a (nf_ro b1))]) (rest := []) K hw (nf_invVN hx hb K.2.2.2.1 ((nf_Kr K nv_329).use rfl) (nf_Kg K nw_231) (nf_Kg K nx_R_at) (nf_Kg K nw_232) ⟨by decide, by decide⟩ (nf_rcv K hw (nf_ro b1) 3 (nf_heR _ _ _) rfl) rfl nl_R_at rfl d_N_passSign_29) (c_R_at l hfl b1 (mg_I M2 6 0)) nw_232 nw_3 rfl ⟨by decide, by decide⟩ (Nat.le_of_ble_eq_true rfl) hl.1 ⟨Nat.le_of_ble_eq_true rfl, Nat.le_of_ble_eq_true rfl⟩ h (fun _ _ h => h.elim) (fun r3 M4 H locs h hw => ?_)
      refine W.eq (g2 := F0 m 32 ls [.int r3]) rfl ?_
      refine lv_bipush (v := (43 : Int32)) hx hb d_N_passSign_32 (by decide) ?_
      refine nf_ic_ne hx hb d_N_passSign_34 (tgt := 47) (by decide) (fun hc => ?_) (fun hc => ?_)
      · have h := h.1 hc
        exact w_N_passSign_37 hfl K  M4 _ _ _ h (lv_sub hl [0] rfl) hw
      · have h := h.2 hc
        exact w_N_passSign_47 hfl K  M4 _ _ _ h (lv_sub hl [] rfl) hw
  · have h := h.2 hc
    exact w_N_passSign_47 hfl K  M _ _ _ h (lv_sub hl [] rfl) hw
theorem d_N_isInfinityWord_0 : decode nb_N_isInfinityWord 0 = .ok (.aload_n 0, 1) := by decide +kernel
theorem d_N_isInfinityWord_1 : decode nb_N_isInfinityWord 1 = .ok (.getfield 19, 3) := by decide +kernel
theorem d_N_isInfinityWord_4 : decode nb_N_isInfinityWord 4 = .ok (.aload_n 0, 1) := by decide +kernel
theorem d_N_isInfinityWord_5 : decode nb_N_isInfinityWord 5 = .ok (.getfield 15, 3) := by decide +kernel
theorem d_N_isInfinityWord_8 : decode nb_N_isInfinityWord 8 = .ok (.isub, 1) := by decide +kernel
theorem d_N_isInfinityWord_9 : decode nb_N_isInfinityWord 9 = .ok (.iconst 3, 1) := by decide +kernel
theorem d_N_isInfinityWord_10 : decode nb_N_isInfinityWord 10 = .ok (.if_icmp .ne 50, 3) := by decide +kernel
theorem d_N_isInfinityWord_13 : decode nb_N_isInfinityWord 13 = .ok (.aload_n 1, 1) := by decide +kernel
theorem d_N_isInfinityWord_14 : decode nb_N_isInfinityWord 14 = .ok (.aload_n 0, 1) := by decide +kernel
theorem d_N_isInfinityWord_15 : decode nb_N_isInfinityWord 15 = .ok (.getfield 15, 3) := by decide +kernel
theorem d_N_isInfinityWord_18 : decode nb_N_isInfinityWord 18 = .ok (.invokevirtual 22, 3) := by decide +kernel
theorem d_N_isInfinityWord_21 : decode nb_N_isInfinityWord 21 = .ok (.bipush 73, 2) := by decide +kernel
theorem d_N_isInfinityWord_23 : decode nb_N_isInfinityWord 23 = .ok (.if_icmp .ne 37, 3) := by decide +kernel
theorem d_N_isInfinityWord_26 : decode nb_N_isInfinityWord 26 = .ok (.aload_n 1, 1) := by decide +kernel
theorem d_N_isInfinityWord_27 : decode nb_N_isInfinityWord 27 = .ok (.aload_n 0, 1) := by decide +kernel
theorem d_N_isInfinityWord_28 : decode nb_N_isInfinityWord 28 = .ok (.getfield 15, 3) := by decide +kernel
theorem d_N_isInfinityWord_31 : decode nb_N_isInfinityWord 31 = .ok (.iconst 1, 1) := by decide +kernel
theorem d_N_isInfinityWord_32 : decode nb_N_isInfinityWord 32 = .ok (.iadd, 1) := by decide +kernel
theorem d_N_isInfinityWord_33 : decode nb_N_isInfinityWord 33 = .ok (.invokevirtual 22, 3) := by decide +kernel
theorem d_N_isInfinityWord_36 : decode nb_N_isInfinityWord 36 = .ok (.bipush 78, 2) := by decide +kernel
theorem d_N_isInfinityWord_38 : decode nb_N_isInfinityWord 38 = .ok (.if_icmp .ne 22, 3) := by decide +kernel
theorem d_N_isInfinityWord_41 : decode nb_N_isInfinityWord 41 = .ok (.aload_n 1, 1) := by decide +kernel
theorem d_N_isInfinityWord_42 : decode nb_N_isInfinityWord 42 = .ok (.aload_n 0, 1) := by decide +kernel
theorem d_N_isInfinityWord_43 : decode nb_N_isInfinityWord 43 = .ok (.getfield 15, 3) := by decide +kernel
theorem d_N_isInfinityWord_46 : decode nb_N_isInfinityWord 46 = .ok (.iconst 2, 1) := by decide +kernel
theorem d_N_isInfinityWord_47 : decode nb_N_isInfinityWord 47 = .ok (.iadd, 1) := by decide +kernel
theorem d_N_isInfinityWord_48 : decode nb_N_isInfinityWord 48 = .ok (.invokevirtual 22, 3) := by decide +kernel
theorem d_N_isInfinityWord_51 : decode nb_N_isInfinityWord 51 = .ok (.bipush 70, 2) := by decide +kernel
theorem d_N_isInfinityWord_53 : decode nb_N_isInfinityWord 53 = .ok (.if_icmp .ne 7, 3) := by decide +kernel
theorem d_N_isInfinityWord_56 : decode nb_N_isInfinityWord 56 = .ok (.iconst 1, 1) := by decide +kernel
theorem d_N_isInfinityWord_57 : decode nb_N_isInfinityWord 57 = .ok (.goto 4, 3) := by decide +kernel
theorem d_N_isInfinityWord_60 : decode nb_N_isInfinityWord 60 = .ok (.iconst 0, 1) := by decide +kernel
theorem d_N_isInfinityWord_61 : decode nb_N_isInfinityWord 61 = .ok (.ireturn, 1) := by decide +kernel
abbrev rm_N_isInfinityWord : Room := ({ frames := 1, cells := 0, slots := 0, locals := 21 })
theorem w_N_isInfinityWord_61 {post : Int32 → nf_M → Prop} (hfl : l.flags = flags0) (K : nf_K p s m args meth c "NumberForge$Numeral" nb_N_isInfinityWord 2 (some FieldType.boolean) D a sz) : ∀ (xy0 : Int32) (M : nf_M) (H : Heap) (locs : List Loc) (ls : Array Slot), B_N_isInfinityWord_61 post xy0 M → lv_has ls 2 [] → nf_W D a s sz H locs M → W p l e rm_N_isInfinityWord s m args below meth c H locs 0 0 (nf_MQ below (nf_Q nf_jI D a post ex (nf_A a sz)) args s rm_N_isInfinityWord.cells rm_N_isInfinityWord.slots (nf_A a sz)) (F0 m 61 ls [.int xy0]) := by
  have hx := K.1
  have hb := K.2.1
  intro xy0 M H locs ls h hl hw
  obtain ⟨g1, h⟩ := h
  exact nf_iret K hw d_N_isInfinityWord_61 g1 (Nat.le_of_ble_eq_true rfl) (Nat.le_of_ble_eq_true rfl) (r := xy0) rfl h
theorem w_N_isInfinityWord_60 {post : Int32 → nf_M → Prop} (hfl : l.flags = flags0) (K : nf_K p s m args meth c "NumberForge$Numeral" nb_N_isInfinityWord 2 (some FieldType.boolean) D a sz) : ∀ (M : nf_M) (H : Heap) (locs : List Loc) (ls : Array Slot), B_N_isInfinityWord_60 post  M → lv_has ls 2 [] → nf_W D a s sz H locs M → W p l e rm_N_isInfinityWord s m args below meth c H locs 0 0 (nf_MQ below (nf_Q nf_jI D a post ex (nf_A a sz)) args s rm_N_isInfinityWord.cells rm_N_isInfinityWord.slots (nf_A a sz)) (F0 m 60 ls []) := by
  have hx := K.1
  have hb := K.2.1
  intro  M H locs ls h hl hw
  refine lv_iconst (v := (0 : Int32)) hx hb d_N_isInfinityWord_60 (by decide) ?_
  exact w_N_isInfinityWord_61 hfl K (0 : Int32) M _ _ _ h (lv_sub hl [] rfl) hw
theorem c_N_isInfinityWord (l : Launch) (hfl : l.flags = flags0) (b1 : Bool) : nf_C nf_jI l nm_N_isInfinityWord nb_N_isInfinityWord 2 (some FieldType.boolean) rm_N_isInfinityWord (fun a => [.ref (a 6), .ref (a (nf_ro b1))]) (fun M post ex => P_N_isInfinityWord b1 M post) := by
  refine nf_start (plainFor_of_name (by decide +kernel)) (fun a => Nat.le_of_ble_eq_true rfl) ?_
  intro D a sz M post ex p e s m below meth c ls h K hl hw
  have hx := K.1
  have hb := K.2.1
  have hl : lv_has ls 2 [(0, .ref (a 6)), (1, .ref (a (nf_ro b1)))] := hl
  refine lv_aload_n hx hb d_N_isInfinityWord_0 rfl (lv_at hl 0 rfl) ?_
  refine nf_get (v := .int (mg_I M 6 1)) K hw 6 1 1 nw_84 rfl rfl ni_N (by decide) rfl rfl d_N_isInfinityWord_1 ?_
  refine lv_aload_n hx hb d_N_isInfinityWord_4 rfl (lv_at hl 0 rfl) ?_
  refine nf_get (v := .int (mg_I M 6 0)) K hw 6 1 0 nw_83 rfl rfl ni_N (by decide) rfl rfl d_N_isInfinityWord_5 ?_
  refine lv_isub hx hb d_N_isInfinityWord_8 ?_
  refine lv_iconst (v := (3 : Int32)) hx hb d_N_isInfinityWord_9 (by decide) ?_
  refine nf_ic_ne hx hb d_N_isInfinityWord_10 (tgt := 60) (by decide) (fun hc => ?_) (fun hc => ?_)
  · have h := h.1 hc
    refine lv_aload_n hx hb d_N_isInfinityWord_13 rfl (lv_at hl 1 rfl) ?_
    refine lv_aload_n hx hb d_N_isInfinityWord_14 rfl (lv_at hl 0 rfl) ?_
    refine nf_get (v := .int (mg_I M 6 0)) K hw 6 1 0 nw_83 rfl rfl ni_N (by decide) rfl rfl d_N_isInfinityWord_15 ?_
    refine nf_callW (ex := (fun _ _ => False)) (As := [.ref (a (nf_ro b1)), .int (mg_I M 6 0)]) (st0 := [.int (mg_I M 6 0), .ref (a (nf_ro b1))]) (rest := []) K hw (nf_invVN hx hb K.2.2.2.1 ((nf_Kr K nv_329).use rfl) (nf_Kg K nw_231) (nf_Kg K nx_R_at) (nf_Kg K nw_232) ⟨by decide, by decide⟩ (nf_rcv K hw (nf_ro b1) 3 (nf_heR _ _ _) rfl) rfl nl_R_at rfl d_N_isInfinityWord_18) (c_R_at l hfl b1 (mg_I M 6 0)) nw_232 nw_3 rfl ⟨by decide, by decide⟩ (Nat.le_of_ble_eq_true rfl) hl.1 ⟨Nat.le_of_ble_eq_true rfl, Nat.le_of_ble_eq_true rfl⟩ h (fun _ _ h => h.elim) (fun r1 M2 H locs h hw => ?_)
    refine W.eq (g2 := F0 m 21 ls [.int r1]) rfl ?_
    refine lv_bipush (v := (73 : Int32)) hx hb d_N_isInfinityWord_21 (by decide) ?_
    refine nf_ic_ne hx hb d_N_isInfinityWord_23 (tgt := 60) (by decide) (fun hc => ?_) (fun hc => ?_)
    · have h := h.1 hc
      refine lv_aload_n hx hb d_N_isInfinityWord_26 rfl (lv_at hl 1 rfl) ?_
      refine lv_aload_n hx hb d_N_isInfinityWord_27 rfl (lv_at hl 0 rfl) ?_
      refine nf_get (v := .int (mg_I M2 6 0)) K hw 6 1 0 nw_83 rfl rfl ni_N (by decide) rfl rfl d_N_isInfinityWord_28 ?_
      refine lv_iconst (v := (1 : Int32)) hx hb d_N_isInfinityWord_31 (by decide) ?_
      refine lv_iadd hx hb d_N_isInfinityWord_32 ?_
      refine nf_callW (ex := (fun _ _ => False)) (As := [.ref (a (nf_ro b1)), .int ((mg_I M2 6 0) + (1 : Int32))]) (st0 := [.int ((mg_I M2 6 0) + (1 : Int32)), .ref (a (nf_ro b1))]) (rest := []) K hw (nf_invVN hx hb K.2.2.2.1 ((nf_Kr K nv_329).use rfl) (nf_Kg K nw_231) (nf_Kg K nx_R_at) (nf_Kg K nw_232) ⟨by decide, by decide⟩ (nf_rcv K hw (nf_ro b1) 3 (nf_heR _ _ _) rfl) rfl nl_R_at rfl d_N_isInfinityWord_33) (c_R_at l hfl b1 ((mg_I M2 6 0) + (1 : Int32))) nw_232 nw_3 rfl ⟨by decide, by decide⟩ (Nat.le_of_ble_eq_true rfl) hl.1 ⟨Nat.le_of_ble_eq_true rfl, Nat.le_of_ble_eq_true rfl⟩ h (fun _ _ h => h.elim) (fun r3 M4 H locs h hw => ?_)
      refine W.eq (g2 := F0 m 36 ls [.int r3]) rfl ?_
      refine lv_bipush (v := (78 : Int32)) hx hb d_N_isInfinityWord_36 (by decide) ?_
      refine nf_ic_ne hx hb d_N_isInfinityWord_38 (tgt := 60) (by decide) (fun hc => ?_) (fun hc => ?_)
      · have h := h.1 hc
        refine lv_aload_n hx hb d_N_isInfinityWord_41 rfl (lv_at hl 1 rfl) ?_
        refine lv_aload_n hx hb d_N_isInfinityWord_42 rfl (lv_at hl 0 rfl) ?_
        refine nf_get (v := .int (mg_I M4 6 0)) K hw 6 1 0 nw_83 rfl rfl ni_N (by decide) rfl rfl d_N_isInfinityWord_43 ?_
        refine lv_iconst (v := (2 : Int32)) hx hb d_N_isInfinityWord_46 (by decide) ?_
        refine lv_iadd hx hb d_N_isInfinityWord_47 ?_
        refine nf_callW (ex := (fun _ _ => False)) (As := [.ref (a (nf_ro b1)), .int ((mg_I M4 6 0) + (2 : Int32))]) (st0 := [.int ((mg_I M4 6 0) + (2 : Int32)), .ref (a (nf_ro b1))]) (rest := []) K hw (nf_invVN hx hb K.2.2.2.1 ((nf_Kr K nv_329).use rfl) (nf_Kg K nw_231) (nf_Kg K nx_R_at) (nf_Kg K nw_232) ⟨by decide, by decide⟩ (nf_rcv K hw (nf_ro b1) 3 (nf_heR _ _ _) rfl) rfl nl_R_at rfl d_N_isInfinityWord_48) (c_R_at l hfl b1 ((mg_I M4 6 0) + (2 : Int32))) nw_232 nw_3 rfl ⟨by decide, by decide⟩ (Nat.le_of_ble_eq_true rfl) hl.1 ⟨Nat.le_of_ble_eq_true rfl, Nat.le_of_ble_eq_true rfl⟩ h (fun _ _ h => h.elim) (fun r5 M6 H locs h hw => ?_)
        refine W.eq (g2 := F0 m 51 ls [.int r5]) rfl ?_
        refine lv_bipush (v := (70 : Int32)) hx hb d_N_isInfinityWord_51 (by decide) ?_
        refine nf_ic_ne hx hb d_N_isInfinityWord_53 (tgt := 60) (by decide) (fun hc => ?_) (fun hc => ?_)
        · have h := h.1 hc
          refine lv_iconst (v := (1 : Int32)) hx hb d_N_isInfinityWord_56 (by decide) ?_
          refine lv_goto hx hb d_N_isInfinityWord_57 (tgt := 61) (by decide) ?_
          exact w_N_isInfinityWord_61 hfl K (1 : Int32) M6 _ _ _ h (lv_sub hl [] rfl) hw
        · have h := h.2 hc
          exact w_N_isInfinityWord_60 hfl K  M6 _ _ _ h (lv_sub hl [] rfl) hw
      · have h := h.2 hc
        exact w_N_isInfinityWord_60 hfl K  M4 _ _ _ h (lv_sub hl [] rfl) hw
    · have h := h.2 hc
      exact w_N_isInfinityWord_60 hfl K  M2 _ _ _ h (lv_sub hl [] rfl) hw
  · have h := h.2 hc
    exact w_N_isInfinityWord_60 hfl K  M _ _ _ h (lv_sub hl [] rfl) hw
theorem d_R_hasDigitAt_0 : decode nb_R_hasDigitAt 0 = .ok (.aload_n 0, 1) := by decide +kernel
theorem d_R_hasDigitAt_1 : decode nb_R_hasDigitAt 1 = .ok (.iload_n 1, 1) := by decide +kernel
theorem d_R_hasDigitAt_2 : decode nb_R_hasDigitAt 2 = .ok (.invokevirtual 46, 3) := by decide +kernel
theorem d_R_hasDigitAt_5 : decode nb_R_hasDigitAt 5 = .ok (.bipush 48, 2) := by decide +kernel
theorem d_R_hasDigitAt_7 : decode nb_R_hasDigitAt 7 = .ok (.if_icmp .lt 17, 3) := by decide +kernel
theorem d_R_hasDigitAt_10 : decode nb_R_hasDigitAt 10 = .ok (.aload_n 0, 1) := by decide +kernel
theorem d_R_hasDigitAt_11 : decode nb_R_hasDigitAt 11 = .ok (.iload_n 1, 1) := by decide +kernel
theorem d_R_hasDigitAt_12 : decode nb_R_hasDigitAt 12 = .ok (.invokevirtual 46, 3) := by decide +kernel
theorem d_R_hasDigitAt_15 : decode nb_R_hasDigitAt 15 = .ok (.bipush 57, 2) := by decide +kernel
theorem d_R_hasDigitAt_17 : decode nb_R_hasDigitAt 17 = .ok (.if_icmp .gt 7, 3) := by decide +kernel
theorem d_R_hasDigitAt_20 : decode nb_R_hasDigitAt 20 = .ok (.iconst 1, 1) := by decide +kernel
theorem d_R_hasDigitAt_21 : decode nb_R_hasDigitAt 21 = .ok (.goto 4, 3) := by decide +kernel
theorem d_R_hasDigitAt_24 : decode nb_R_hasDigitAt 24 = .ok (.iconst 0, 1) := by decide +kernel
theorem d_R_hasDigitAt_25 : decode nb_R_hasDigitAt 25 = .ok (.ireturn, 1) := by decide +kernel
abbrev rm_R_hasDigitAt : Room := ({ frames := 1, cells := 0, slots := 0, locals := 21 })
theorem w_R_hasDigitAt_25 {post : Int32 → nf_M → Prop} (hfl : l.flags = flags0) (K : nf_K p s m args meth c "NumberForge$Row" nb_R_hasDigitAt 2 (some FieldType.boolean) D a sz) : ∀ (xy0 : Int32) (M : nf_M) (H : Heap) (locs : List Loc) (ls : Array Slot), B_R_hasDigitAt_25 post xy0 M → lv_has ls 2 [] → nf_W D a s sz H locs M → W p l e rm_R_hasDigitAt s m args below meth c H locs 0 0 (nf_MQ below (nf_Q nf_jI D a post ex (nf_A a sz)) args s rm_R_hasDigitAt.cells rm_R_hasDigitAt.slots (nf_A a sz)) (F0 m 25 ls [.int xy0]) := by
  have hx := K.1
  have hb := K.2.1
  intro xy0 M H locs ls h hl hw
  obtain ⟨g1, h⟩ := h
  exact nf_iret K hw d_R_hasDigitAt_25 g1 (Nat.le_of_ble_eq_true rfl) (Nat.le_of_ble_eq_true rfl) (r := xy0) rfl h
theorem w_R_hasDigitAt_24 {post : Int32 → nf_M → Prop} (hfl : l.flags = flags0) (K : nf_K p s m args meth c "NumberForge$Row" nb_R_hasDigitAt 2 (some FieldType.boolean) D a sz) : ∀ (M : nf_M) (H : Heap) (locs : List Loc) (ls : Array Slot), B_R_hasDigitAt_24 post  M → lv_has ls 2 [] → nf_W D a s sz H locs M → W p l e rm_R_hasDigitAt s m args below meth c H locs 0 0 (nf_MQ below (nf_Q nf_jI D a post ex (nf_A a sz)) args s rm_R_hasDigitAt.cells rm_R_hasDigitAt.slots (nf_A a sz)) (F0 m 24 ls []) := by
  have hx := K.1
  have hb := K.2.1
  intro  M H locs ls h hl hw
  refine lv_iconst (v := (0 : Int32)) hx hb d_R_hasDigitAt_24 (by decide) ?_
  exact w_R_hasDigitAt_25 hfl K (0 : Int32) M _ _ _ h (lv_sub hl [] rfl) hw
theorem c_R_hasDigitAt (l : Launch) (hfl : l.flags = flags0) (b0 : Bool) (x1 : Int32) : nf_C nf_jI l nm_R_hasDigitAt nb_R_hasDigitAt 2 (some FieldType.boolean) rm_R_hasDigitAt (fun a => [.ref (a (nf_ro b0)), .int x1]) (fun M post ex => P_R_hasDigitAt b0 x1 M post) := by
  refine nf_start (plainFor_of_name (by decide +kernel)) (fun a => Nat.le_of_ble_eq_true rfl) ?_
  intro D a sz M post ex p e s m below meth c ls h K hl hw
  have hx := K.1
  have hb := K.2.1
  have hl : lv_has ls 2 [(0, .ref (a (nf_ro b0))), (1, .int x1)] := hl
  refine lv_aload_n hx hb d_R_hasDigitAt_0 rfl (lv_at hl 0 rfl) ?_
  refine lv_iload_n hx hb d_R_hasDigitAt_1 rfl (lv_at hl 1 rfl) ?_
  refine nf_callW (ex := (fun _ _ => False)) (As := [.ref (a (nf_ro b0)), .int x1]) (st0 := [.int x1, .ref (a (nf_ro b0))]) (rest := []) K hw (nf_invV hx hb K.2.2.2.1 (nf_Kg K nw_346) (nf_Kg K nw_231) (nf_Kg K nx_R_at) (nf_Kg K nw_232) ⟨by decide, by decide⟩ (nf_rcv K hw (nf_ro b0) 3 (nf_heR _ _ _) rfl) rfl nl_R_at rfl d_R_hasDigitAt_2) (c_R_at l hfl b0 x1) nw_232 nw_3 rfl ⟨by decide, by decide⟩ (Nat.le_of_ble_eq_true rfl) hl.1 ⟨Nat.le_of_ble_eq_true rfl, Nat.le_of_ble_eq_true rfl⟩ h (fun _ _ h => h.elim) (fun r1 M2 H locs h hw => ?_)
  refine W.eq (g2 := F0 m 5 ls [.int r1]) rfl ?_
  refine lv_bipush (v := (48 : Int32)) hx hb d_R_hasDigitAt_5 (by decide) ?_
  refine nf_ic_lt hx hb d_R_hasDigitAt_7 (tgt := 24) (by decide) (fun hc => ?_) (fun hc => ?_)
  · have h := h.1 hc
    exact w_R_hasDigitAt_24 hfl K  M2 _ _ _ h (lv_sub hl [] rfl) hw
  · have h := h.2 hc
    refine lv_aload_n hx hb d_R_hasDigitAt_10 rfl (lv_at hl 0 rfl) ?_
    refine lv_iload_n hx hb d_R_hasDigitAt_11 rfl (lv_at hl 1 rfl) ?_
    refine nf_callW (ex := (fun _ _ => False)) (As := [.ref (a (nf_ro b0)), .int x1]) (st0 := [.int x1, .ref (a (nf_ro b0))]) (rest := []) K hw (nf_invV hx hb K.2.2.2.1 (nf_Kg K nw_346) (nf_Kg K nw_231) (nf_Kg K nx_R_at) (nf_Kg K nw_232) ⟨by decide, by decide⟩ (nf_rcv K hw (nf_ro b0) 3 (nf_heR _ _ _) rfl) rfl nl_R_at rfl d_R_hasDigitAt_12) (c_R_at l hfl b0 x1) nw_232 nw_3 rfl ⟨by decide, by decide⟩ (Nat.le_of_ble_eq_true rfl) hl.1 ⟨Nat.le_of_ble_eq_true rfl, Nat.le_of_ble_eq_true rfl⟩ h (fun _ _ h => h.elim) (fun r3 M4 H locs h hw => ?_)
    refine W.eq (g2 := F0 m 15 ls [.int r3]) rfl ?_
    refine lv_bipush (v := (57 : Int32)) hx hb d_R_hasDigitAt_15 (by decide) ?_
    refine nf_ic_gt hx hb d_R_hasDigitAt_17 (tgt := 24) (by decide) (fun hc => ?_) (fun hc => ?_)
    · have h := h.1 hc
      exact w_R_hasDigitAt_24 hfl K  M4 _ _ _ h (lv_sub hl [] rfl) hw
    · have h := h.2 hc
      refine lv_iconst (v := (1 : Int32)) hx hb d_R_hasDigitAt_20 (by decide) ?_
      refine lv_goto hx hb d_R_hasDigitAt_21 (tgt := 25) (by decide) ?_
      exact w_R_hasDigitAt_25 hfl K (1 : Int32) M4 _ _ _ h (lv_sub hl [] rfl) hw
theorem d_F_power_0 : decode nb_F_power 0 = .ok (.iload_n 0, 1) := by decide +kernel
theorem d_F_power_1 : decode nb_F_power 1 = .ok (.ifCond .lt 19, 3) := by decide +kernel
theorem d_F_power_4 : decode nb_F_power 4 = .ok (.iload_n 0, 1) := by decide +kernel
theorem d_F_power_5 : decode nb_F_power 5 = .ok (.getstatic 257, 3) := by decide +kernel
theorem d_F_power_8 : decode nb_F_power 8 = .ok (.arraylength, 1) := by decide +kernel
theorem d_F_power_9 : decode nb_F_power 9 = .ok (.if_icmp .ge 11, 3) := by decide +kernel
theorem d_F_power_12 : decode nb_F_power 12 = .ok (.getstatic 257, 3) := by decide +kernel
theorem d_F_power_15 : decode nb_F_power 15 = .ok (.iload_n 0, 1) := by decide +kernel
theorem d_F_power_16 : decode nb_F_power 16 = .ok (.laload, 1) := by decide +kernel
theorem d_F_power_17 : decode nb_F_power 17 = .ok (.goto 4, 3) := by decide +kernel
theorem d_F_power_20 : decode nb_F_power 20 = .ok (.lconst 1, 1) := by decide +kernel
theorem d_F_power_21 : decode nb_F_power 21 = .ok (.lreturn, 1) := by decide +kernel
abbrev rm_F_power : Room := ({ frames := 0, cells := 0, slots := 0, locals := 0 })
theorem w_F_power_21 {post : Int64 → nf_M → Prop} (hfl : l.flags = flags0) (K : nf_K p s m args meth c "NumberForge" nb_F_power 1 (some FieldType.long) D a sz) : ∀ (xy0 : Int64) (M : nf_M) (H : Heap) (locs : List Loc) (ls : Array Slot), B_F_power_21 post xy0 M → lv_has ls 1 [] → nf_W D a s sz H locs M → W p l e rm_F_power s m args below meth c H locs 0 0 (nf_MQ below (nf_Q nf_jJ D a post ex (nf_A a sz)) args s rm_F_power.cells rm_F_power.slots (nf_A a sz)) (F0 m 21 ls [.long xy0]) := by
  have hx := K.1
  have hb := K.2.1
  intro xy0 M H locs ls h hl hw
  exact nf_lret K hw d_F_power_21 (Nat.le_of_ble_eq_true rfl) (Nat.le_of_ble_eq_true rfl) (r := xy0) rfl h
theorem w_F_power_20 {post : Int64 → nf_M → Prop} (hfl : l.flags = flags0) (K : nf_K p s m args meth c "NumberForge" nb_F_power 1 (some FieldType.long) D a sz) : ∀ (M : nf_M) (H : Heap) (locs : List Loc) (ls : Array Slot), B_F_power_20 post  M → lv_has ls 1 [] → nf_W D a s sz H locs M → W p l e rm_F_power s m args below meth c H locs 0 0 (nf_MQ below (nf_Q nf_jJ D a post ex (nf_A a sz)) args s rm_F_power.cells rm_F_power.slots (nf_A a sz)) (F0 m 20 ls []) := by
  have hx := K.1
  have hb := K.2.1
  intro  M H locs ls h hl hw
  refine lv_lconst (v := (1 : Int64)) hx hb d_F_power_20 (by decide) ?_
  exact w_F_power_21 hfl K (1 : Int64) M _ _ _ h (lv_sub hl [] rfl) hw
theorem c_F_power (l : Launch) (hfl : l.flags = flags0) (x0 : Int32) : nf_C nf_jJ l nm_F_power nb_F_power 1 (some FieldType.long) rm_F_power (fun a => [.int x0]) (fun M post ex => P_F_power x0 M post) := by
  refine nf_start (plainFor_of_name (by decide +kernel)) (fun a => Nat.le_of_ble_eq_true rfl) ?_
  intro D a sz M post ex p e s m below meth c ls h K hl hw
  have hx := K.1
  have hb := K.2.1
  have hl : lv_has ls 1 [(0, .int x0)] := hl
  refine lv_iload_n hx hb d_F_power_0 rfl (lv_at hl 0 rfl) ?_
  refine nf_if_lt hx hb d_F_power_1 (tgt := 20) (by decide) (fun hc => ?_) (fun hc => ?_)
  · have h := h.1 hc
    exact w_F_power_20 hfl K  M _ _ _ h (lv_sub hl [] rfl) hw
  · have h := h.2 hc
    refine lv_iload_n hx hb d_F_power_4 rfl (lv_at hl 0 rfl) ?_
    refine nf_gets K hw (nf_st0 K).1 nw_354 d_F_power_5 ?_
    refine va_tlen (v := (16 : Int32)) hx hb (nf_st0 K).2.1 hw.2.2 (by decide) d_F_power_8 ?_
    refine nf_ic_ge hx hb d_F_power_9 (tgt := 20) (by decide) (fun hc => ?_) (fun hc => ?_)
    · have h := h.1 hc
      refine nf_gets K hw (nf_st0 K).1 nw_354 d_F_power_12 ?_
      refine lv_iload_n hx hb d_F_power_15 rfl (lv_at hl 0 rfl) ?_
      obtain ⟨g1, h⟩ := h
      refine va_tl (v := .long (nf_POW.getD x0.toNatClampNeg 0)) hx hb (nf_st0 K).2.1 hw.2.2 g1 rfl d_F_power_16 ?_
      refine lv_goto hx hb d_F_power_17 (tgt := 21) (by decide) ?_
      exact w_F_power_21 hfl K (nf_POW.getD x0.toNatClampNeg 0) M _ _ _ h (lv_sub hl [] rfl) hw
    · have h := h.2 hc
      exact w_F_power_20 hfl K  M _ _ _ h (lv_sub hl [] rfl) hw
theorem d_N_takeDigit_0 : decode nb_N_takeDigit 0 = .ok (.aload_n 0, 1) := by decide +kernel
theorem d_N_takeDigit_1 : decode nb_N_takeDigit 1 = .ok (.dup, 1) := by decide +kernel
theorem d_N_takeDigit_2 : decode nb_N_takeDigit 2 = .ok (.getfield 55, 3) := by decide +kernel
theorem d_N_takeDigit_5 : decode nb_N_takeDigit 5 = .ok (.iload_n 2, 1) := by decide +kernel
theorem d_N_takeDigit_6 : decode nb_N_takeDigit 6 = .ok (.iadd, 1) := by decide +kernel
theorem d_N_takeDigit_7 : decode nb_N_takeDigit 7 = .ok (.putfield 55, 3) := by decide +kernel
theorem d_N_takeDigit_10 : decode nb_N_takeDigit 10 = .ok (.aload_n 0, 1) := by decide +kernel
theorem d_N_takeDigit_11 : decode nb_N_takeDigit 11 = .ok (.getfield 55, 3) := by decide +kernel
theorem d_N_takeDigit_14 : decode nb_N_takeDigit 14 = .ok (.bipush 15, 2) := by decide +kernel
theorem d_N_takeDigit_16 : decode nb_N_takeDigit 16 = .ok (.if_icmp .gt 19, 3) := by decide +kernel
theorem d_N_takeDigit_19 : decode nb_N_takeDigit 19 = .ok (.aload_n 0, 1) := by decide +kernel
theorem d_N_takeDigit_20 : decode nb_N_takeDigit 20 = .ok (.aload_n 0, 1) := by decide +kernel
theorem d_N_takeDigit_21 : decode nb_N_takeDigit 21 = .ok (.getfield 51, 3) := by decide +kernel
theorem d_N_takeDigit_24 : decode nb_N_takeDigit 24 = .ok (.iload_n 2, 1) := by decide +kernel
theorem d_N_takeDigit_25 : decode nb_N_takeDigit 25 = .ok (.invokestatic 69, 3) := by decide +kernel
theorem d_N_takeDigit_28 : decode nb_N_takeDigit 28 = .ok (.lmul, 1) := by decide +kernel
theorem d_N_takeDigit_29 : decode nb_N_takeDigit 29 = .ok (.iload_n 1, 1) := by decide +kernel
theorem d_N_takeDigit_30 : decode nb_N_takeDigit 30 = .ok (.i2l, 1) := by decide +kernel
theorem d_N_takeDigit_31 : decode nb_N_takeDigit 31 = .ok (.ladd, 1) := by decide +kernel
theorem d_N_takeDigit_32 : decode nb_N_takeDigit 32 = .ok (.putfield 51, 3) := by decide +kernel
theorem d_N_takeDigit_35 : decode nb_N_takeDigit 35 = .ok (.return_, 1) := by decide +kernel
abbrev rm_N_takeDigit : Room := ({ frames := 1, cells := 0, slots := 0, locals := 20 })
theorem w_N_takeDigit_35 {post : Unit → nf_M → Prop} (hfl : l.flags = flags0) (K : nf_K p s m args meth c "NumberForge$Numeral" nb_N_takeDigit 3 none D a sz) : ∀ (M : nf_M) (H : Heap) (locs : List Loc) (ls : Array Slot), B_N_takeDigit_35 post  M → lv_has ls 3 [] → nf_W D a s sz H locs M → W p l e rm_N_takeDigit s m args below meth c H locs 0 0 (nf_MQ below (nf_Q nf_jN D a post ex (nf_A a sz)) args s rm_N_takeDigit.cells rm_N_takeDigit.slots (nf_A a sz)) (F0 m 35 ls []) := by
  have hx := K.1
  have hb := K.2.1
  intro  M H locs ls h hl hw
  exact nf_vret K hw d_N_takeDigit_35 (Nat.le_of_ble_eq_true rfl) (Nat.le_of_ble_eq_true rfl) (r := ()) rfl h
theorem c_N_takeDigit (l : Launch) (hfl : l.flags = flags0) (x1 : Int32) (x2 : Int32) : nf_C nf_jN l nm_N_takeDigit nb_N_takeDigit 3 none rm_N_takeDigit (fun a => [.ref (a 6), .int x1, .int x2]) (fun M post ex => P_N_takeDigit x1 x2 M post) := by
  refine nf_start (plainFor_of_name (by decide +kernel)) (fun a => Nat.le_of_ble_eq_true rfl) ?_
  intro D a sz M post ex p e s m below meth c ls h K hl hw
  have hx := K.1
  have hb := K.2.1
  have hl : lv_has ls 3 [(0, .ref (a 6)), (1, .int x1), (2, .int x2)] := hl
  refine lv_aload_n hx hb d_N_takeDigit_0 rfl (lv_at hl 0 rfl) ?_
  refine lv_dup hx hb d_N_takeDigit_1 rfl ?_
  refine nf_get (v := .int (mg_I M 6 5)) K hw 6 1 5 nw_88 rfl rfl ni_N (by decide) rfl rfl d_N_takeDigit_2 ?_
  refine lv_iload_n hx hb d_N_takeDigit_5 rfl (lv_at hl 2 rfl) ?_
  refine lv_iadd hx hb d_N_takeDigit_6 ?_
  refine lv_topi (fun t1 et1 => ?_)
  have h := h t1 et1
  refine nf_put (M' := ms_I M 6 5 t1) K hw 6 1 5 nw_88 rfl rfl rfl ni_N ny_N nq_N nn_N (by decide) rfl rfl rfl rfl (Nat.le_of_ble_eq_true rfl) d_N_takeDigit_7 (fun H locs hw => ?_)
  obtain ⟨M2, eM2⟩ : ∃ z, z = ms_I M 6 5 t1 := ⟨_, rfl⟩
  rw [← eM2] at hw
  have h := h M2 eM2
  refine lv_aload_n hx hb d_N_takeDigit_10 rfl (lv_at hl 0 rfl) ?_
  refine nf_get (v := .int (mg_I M2 6 5)) K hw 6 1 5 nw_88 rfl rfl ni_N (by decide) rfl rfl d_N_takeDigit_11 ?_
  refine lv_bipush (v := (15 : Int32)) hx hb d_N_takeDigit_14 (by decide) ?_
  refine nf_ic_gt hx hb d_N_takeDigit_16 (tgt := 35) (by decide) (fun hc => ?_) (fun hc => ?_)
  · have h := h.1 hc
    exact w_N_takeDigit_35 hfl K  M2 _ _ _ h (lv_sub hl [] rfl) hw
  · have h := h.2 hc
    refine lv_aload_n hx hb d_N_takeDigit_19 rfl (lv_at hl 0 rfl) ?_
    refine lv_aload_n hx hb d_N_takeDigit_20 rfl (lv_at hl 0 rfl) ?_
    refine nf_get (v := .long (mg_L M2 6 4)) K hw 6 1 4 nw_87 rfl rfl ni_N (by decide) rfl rfl d_N_takeDigit_21 ?_
    refine lv_iload_n hx hb d_N_takeDigit_24 rfl (lv_at hl 2 rfl) ?_
    refine nf_callW (ex := (fun _ _ => False)) (As := [.int x2]) (st0 := [.int x2, .long (mg_L M2 6 4), .ref (a 6)]) (rest := [.long (mg_L M2 6 4), .ref (a 6)]) K hw (nf_invSN hx hb K.2.2.2.1 ((nf_Kr K nv_351).use rfl) (nf_Kg K nw_352) (nf_Kg K nw_1) (nf_Kg K nw_353) ⟨by decide, by decide⟩ rfl nl_F_power rfl d_N_takeDigit_25) (c_F_power l hfl x2) nw_353 nw_1 rfl ⟨by decide, by decide⟩ (Nat.le_of_ble_eq_true rfl) hl.1 ⟨Nat.le_of_ble_eq_true rfl, Nat.le_of_ble_eq_true rfl⟩ h (fun _ _ h => h.elim) (fun r3 M4 H locs h hw => ?_)
    refine W.eq (g2 := F0 m 28 ls [.long r3, .long (mg_L M2 6 4), .ref (a 6)]) rfl ?_
    refine lv_lmul hx hb d_N_takeDigit_28 ?_
    refine lv_iload_n hx hb d_N_takeDigit_29 rfl (lv_at hl 1 rfl) ?_
    refine lv_i2l hx hb d_N_takeDigit_30 rfl ?_
    refine lv_ladd hx hb d_N_takeDigit_31 ?_
    refine lv_topl (fun t5 et5 => ?_)
    have h := h t5 et5
    refine nf_put (M' := ms_L M4 6 4 t5) K hw 6 1 4 nw_87 rfl rfl rfl ni_N ny_N nq_N nn_N (by decide) rfl rfl rfl rfl (Nat.le_of_ble_eq_true rfl) d_N_takeDigit_32 (fun H locs hw => ?_)
    obtain ⟨M6, eM6⟩ : ∃ z, z = ms_L M4 6 4 t5 := ⟨_, rfl⟩
    rw [← eM6] at hw
    have h := h M6 eM6
    exact w_N_takeDigit_35 hfl K  M6 _ _ _ h (lv_sub hl [] rfl) hw
theorem d_N_parseDigits_0 : decode nb_N_parseDigits 0 = .ok (.aload_n 0, 1) := by decide +kernel
theorem d_N_parseDigits_1 : decode nb_N_parseDigits 1 = .ok (.lconst 0, 1) := by decide +kernel
theorem d_N_parseDigits_2 : decode nb_N_parseDigits 2 = .ok (.putfield 51, 3) := by decide +kernel
theorem d_N_parseDigits_5 : decode nb_N_parseDigits 5 = .ok (.aload_n 0, 1) := by decide +kernel
theorem d_N_parseDigits_6 : decode nb_N_parseDigits 6 = .ok (.iconst 0, 1) := by decide +kernel
theorem d_N_parseDigits_7 : decode nb_N_parseDigits 7 = .ok (.putfield 55, 3) := by decide +kernel
theorem d_N_parseDigits_10 : decode nb_N_parseDigits 10 = .ok (.iconst 0, 1) := by decide +kernel
theorem d_N_parseDigits_11 : decode nb_N_parseDigits 11 = .ok (.istore_n 3, 1) := by decide +kernel
theorem d_N_parseDigits_12 : decode nb_N_parseDigits 12 = .ok (.iconst 0, 1) := by decide +kernel
theorem d_N_parseDigits_13 : decode nb_N_parseDigits 13 = .ok (.istore 4, 2) := by decide +kernel
theorem d_N_parseDigits_15 : decode nb_N_parseDigits 15 = .ok (.iconst (-1), 1) := by decide +kernel
theorem d_N_parseDigits_16 : decode nb_N_parseDigits 16 = .ok (.istore 5, 2) := by decide +kernel
theorem d_N_parseDigits_18 : decode nb_N_parseDigits 18 = .ok (.aload_n 0, 1) := by decide +kernel
theorem d_N_parseDigits_19 : decode nb_N_parseDigits 19 = .ok (.getfield 15, 3) := by decide +kernel
theorem d_N_parseDigits_22 : decode nb_N_parseDigits 22 = .ok (.aload_n 0, 1) := by decide +kernel
theorem d_N_parseDigits_23 : decode nb_N_parseDigits 23 = .ok (.getfield 19, 3) := by decide +kernel
theorem d_N_parseDigits_26 : decode nb_N_parseDigits 26 = .ok (.if_icmp .ge 117, 3) := by decide +kernel
theorem d_N_parseDigits_29 : decode nb_N_parseDigits 29 = .ok (.aload_n 1, 1) := by decide +kernel
theorem d_N_parseDigits_30 : decode nb_N_parseDigits 30 = .ok (.aload_n 0, 1) := by decide +kernel
theorem d_N_parseDigits_31 : decode nb_N_parseDigits 31 = .ok (.getfield 15, 3) := by decide +kernel
theorem d_N_parseDigits_34 : decode nb_N_parseDigits 34 = .ok (.invokevirtual 58, 3) := by decide +kernel
theorem d_N_parseDigits_37 : decode nb_N_parseDigits 37 = .ok (.ifCond .ne 25, 3) := by decide +kernel
theorem d_N_parseDigits_40 : decode nb_N_parseDigits 40 = .ok (.iload_n 2, 1) := by decide +kernel
theorem d_N_parseDigits_41 : decode nb_N_parseDigits 41 = .ok (.ifCond .eq 102, 3) := by decide +kernel
theorem d_N_parseDigits_44 : decode nb_N_parseDigits 44 = .ok (.iload 5, 2) := by decide +kernel
theorem d_N_parseDigits_46 : decode nb_N_parseDigits 46 = .ok (.ifCond .ge 97, 3) := by decide +kernel
theorem d_N_parseDigits_49 : decode nb_N_parseDigits 49 = .ok (.aload_n 1, 1) := by decide +kernel
theorem d_N_parseDigits_50 : decode nb_N_parseDigits 50 = .ok (.aload_n 0, 1) := by decide +kernel
theorem d_N_parseDigits_51 : decode nb_N_parseDigits 51 = .ok (.getfield 15, 3) := by decide +kernel
theorem d_N_parseDigits_54 : decode nb_N_parseDigits 54 = .ok (.invokevirtual 22, 3) := by decide +kernel
theorem d_N_parseDigits_57 : decode nb_N_parseDigits 57 = .ok (.bipush 46, 2) := by decide +kernel
theorem d_N_parseDigits_59 : decode nb_N_parseDigits 59 = .ok (.if_icmp .ne 84, 3) := by decide +kernel
theorem d_N_parseDigits_62 : decode nb_N_parseDigits 62 = .ok (.aload_n 1, 1) := by decide +kernel
theorem d_N_parseDigits_63 : decode nb_N_parseDigits 63 = .ok (.aload_n 0, 1) := by decide +kernel
theorem d_N_parseDigits_64 : decode nb_N_parseDigits 64 = .ok (.getfield 15, 3) := by decide +kernel
theorem d_N_parseDigits_67 : decode nb_N_parseDigits 67 = .ok (.invokevirtual 22, 3) := by decide +kernel
theorem d_N_parseDigits_70 : decode nb_N_parseDigits 70 = .ok (.bipush 46, 2) := by decide +kernel
theorem d_N_parseDigits_72 : decode nb_N_parseDigits 72 = .ok (.if_icmp .ne 9, 3) := by decide +kernel
theorem d_N_parseDigits_75 : decode nb_N_parseDigits 75 = .ok (.iload_n 3, 1) := by decide +kernel
theorem d_N_parseDigits_76 : decode nb_N_parseDigits 76 = .ok (.istore 5, 2) := by decide +kernel
theorem d_N_parseDigits_78 : decode nb_N_parseDigits 78 = .ok (.goto 52, 3) := by decide +kernel
theorem d_N_parseDigits_81 : decode nb_N_parseDigits 81 = .ok (.iinc 3 1, 3) := by decide +kernel
theorem d_N_parseDigits_84 : decode nb_N_parseDigits 84 = .ok (.aload_n 1, 1) := by decide +kernel
theorem d_N_parseDigits_85 : decode nb_N_parseDigits 85 = .ok (.aload_n 0, 1) := by decide +kernel
theorem d_N_parseDigits_86 : decode nb_N_parseDigits 86 = .ok (.getfield 15, 3) := by decide +kernel
theorem d_N_parseDigits_89 : decode nb_N_parseDigits 89 = .ok (.invokevirtual 22, 3) := by decide +kernel
theorem d_N_parseDigits_92 : decode nb_N_parseDigits 92 = .ok (.bipush 48, 2) := by decide +kernel
theorem d_N_parseDigits_94 : decode nb_N_parseDigits 94 = .ok (.if_icmp .eq 36, 3) := by decide +kernel
theorem d_N_parseDigits_97 : decode nb_N_parseDigits 97 = .ok (.aload_n 0, 1) := by decide +kernel
theorem d_N_parseDigits_98 : decode nb_N_parseDigits 98 = .ok (.aload_n 1, 1) := by decide +kernel
theorem d_N_parseDigits_99 : decode nb_N_parseDigits 99 = .ok (.aload_n 0, 1) := by decide +kernel
theorem d_N_parseDigits_100 : decode nb_N_parseDigits 100 = .ok (.getfield 15, 3) := by decide +kernel
theorem d_N_parseDigits_103 : decode nb_N_parseDigits 103 = .ok (.invokevirtual 22, 3) := by decide +kernel
theorem d_N_parseDigits_106 : decode nb_N_parseDigits 106 = .ok (.bipush 48, 2) := by decide +kernel
theorem d_N_parseDigits_108 : decode nb_N_parseDigits 108 = .ok (.isub, 1) := by decide +kernel
theorem d_N_parseDigits_109 : decode nb_N_parseDigits 109 = .ok (.aload_n 0, 1) := by decide +kernel
theorem d_N_parseDigits_110 : decode nb_N_parseDigits 110 = .ok (.getfield 55, 3) := by decide +kernel
theorem d_N_parseDigits_113 : decode nb_N_parseDigits 113 = .ok (.ifCond .ne 7, 3) := by decide +kernel
theorem d_N_parseDigits_116 : decode nb_N_parseDigits 116 = .ok (.iconst 1, 1) := by decide +kernel
theorem d_N_parseDigits_117 : decode nb_N_parseDigits 117 = .ok (.goto 7, 3) := by decide +kernel
theorem d_N_parseDigits_120 : decode nb_N_parseDigits 120 = .ok (.iload_n 3, 1) := by decide +kernel
theorem d_N_parseDigits_121 : decode nb_N_parseDigits 121 = .ok (.iload 4, 2) := by decide +kernel
theorem d_N_parseDigits_123 : decode nb_N_parseDigits 123 = .ok (.isub, 1) := by decide +kernel
theorem d_N_parseDigits_124 : decode nb_N_parseDigits 124 = .ok (.invokevirtual 62, 3) := by decide +kernel
theorem d_N_parseDigits_127 : decode nb_N_parseDigits 127 = .ok (.iload_n 3, 1) := by decide +kernel
theorem d_N_parseDigits_128 : decode nb_N_parseDigits 128 = .ok (.istore 4, 2) := by decide +kernel
theorem d_N_parseDigits_130 : decode nb_N_parseDigits 130 = .ok (.aload_n 0, 1) := by decide +kernel
theorem d_N_parseDigits_131 : decode nb_N_parseDigits 131 = .ok (.dup, 1) := by decide +kernel
theorem d_N_parseDigits_132 : decode nb_N_parseDigits 132 = .ok (.getfield 15, 3) := by decide +kernel
theorem d_N_parseDigits_135 : decode nb_N_parseDigits 135 = .ok (.iconst 1, 1) := by decide +kernel
theorem d_N_parseDigits_136 : decode nb_N_parseDigits 136 = .ok (.iadd, 1) := by decide +kernel
theorem d_N_parseDigits_137 : decode nb_N_parseDigits 137 = .ok (.putfield 15, 3) := by decide +kernel
theorem d_N_parseDigits_140 : decode nb_N_parseDigits 140 = .ok (.goto (-122), 3) := by decide +kernel
theorem d_N_parseDigits_143 : decode nb_N_parseDigits 143 = .ok (.aload_n 0, 1) := by decide +kernel
theorem d_N_parseDigits_144 : decode nb_N_parseDigits 144 = .ok (.iload 5, 2) := by decide +kernel
theorem d_N_parseDigits_146 : decode nb_N_parseDigits 146 = .ok (.ifCond .ge 7, 3) := by decide +kernel
theorem d_N_parseDigits_149 : decode nb_N_parseDigits 149 = .ok (.iload_n 3, 1) := by decide +kernel
theorem d_N_parseDigits_150 : decode nb_N_parseDigits 150 = .ok (.goto 5, 3) := by decide +kernel
theorem d_N_parseDigits_153 : decode nb_N_parseDigits 153 = .ok (.iload 5, 2) := by decide +kernel
theorem d_N_parseDigits_155 : decode nb_N_parseDigits 155 = .ok (.iload 4, 2) := by decide +kernel
theorem d_N_parseDigits_157 : decode nb_N_parseDigits 157 = .ok (.isub, 1) := by decide +kernel
theorem d_N_parseDigits_158 : decode nb_N_parseDigits 158 = .ok (.putfield 66, 3) := by decide +kernel
theorem d_N_parseDigits_161 : decode nb_N_parseDigits 161 = .ok (.iload_n 3, 1) := by decide +kernel
theorem d_N_parseDigits_162 : decode nb_N_parseDigits 162 = .ok (.ifCond .le 7, 3) := by decide +kernel
theorem d_N_parseDigits_165 : decode nb_N_parseDigits 165 = .ok (.iconst 1, 1) := by decide +kernel
theorem d_N_parseDigits_166 : decode nb_N_parseDigits 166 = .ok (.goto 4, 3) := by decide +kernel
theorem d_N_parseDigits_169 : decode nb_N_parseDigits 169 = .ok (.iconst 0, 1) := by decide +kernel
theorem d_N_parseDigits_170 : decode nb_N_parseDigits 170 = .ok (.ireturn, 1) := by decide +kernel
abbrev rm_N_parseDigits : Room := ({ frames := 2, cells := 0, slots := 0, locals := 42 })
theorem w_N_parseDigits_130 {post : Int32 → nf_M → Prop} (hfl : l.flags = flags0) (K : nf_K p s m args meth c "NumberForge$Numeral" nb_N_parseDigits 6 (some FieldType.boolean) D a sz) (k18 : Bool → Int32 → Int32 → Int32 → Int32 → nf_M → Prop) (hk18 : ∀ (b1 : Bool) (x2 : Int32) (x3 : Int32) (x4 : Int32) (x5 : Int32) (M : nf_M) (H : Heap) (locs : List Loc) (ls : Array Slot), k18 b1 x2 x3 x4 x5 M → lv_has ls 6 [(0, .ref (a 6)), (1, .ref (a (nf_ro b1))), (2, .int x2), (3, .int x3), (4, .int x4), (5, .int x5)] → nf_W D a s sz H locs M → W p l e rm_N_parseDigits s m args below meth c H locs 0 0 (nf_MQ below (nf_Q nf_jI D a post ex (nf_A a sz)) args s rm_N_parseDigits.cells rm_N_parseDigits.slots (nf_A a sz)) (F0 m 18 ls [])) : ∀ (b1 : Bool) (x2 : Int32) (x3 : Int32) (x4 : Int32) (x5 : Int32) (M : nf_M) (H : Heap) (locs : List Loc) (ls : Array Slot), B_N_parseDigits_130 k18 post b1 x2 x3 x4 x5 M → lv_has ls 6 [(0, .ref (a 6)), (1, .ref (a (nf_ro b1))), (2, .int x2), (3, .int x3), (4, .int x4), (5, .int x5)] → nf_W D a s sz H locs M → W p l e rm_N_parseDigits s m args below meth c H locs 0 0 (nf_MQ below (nf_Q nf_jI D a post ex (nf_A a sz)) args s rm_N_parseDigits.cells rm_N_parseDigits.slots (nf_A a sz)) (F0 m 130 ls []) := by
  have hx := K.1
  have hb := K.2.1
  intro b1 x2 x3 x4 x5 M H locs ls h hl hw
  refine lv_aload_n hx hb d_N_parseDigits_130 rfl (lv_at hl 0 rfl) ?_
  refine lv_dup hx hb d_N_parseDigits_131 rfl ?_
  refine nf_get (v := .int (mg_I M 6 0)) K hw 6 1 0 nw_83 rfl rfl ni_N (by decide) rfl rfl d_N_parseDigits_132 ?_
  refine lv_iconst (v := (1 : Int32)) hx hb d_N_parseDigits_135 (by decide) ?_
  refine lv_iadd hx hb d_N_parseDigits_136 ?_
  refine lv_topi (fun t1 et1 => ?_)
  have h := h t1 et1
  refine nf_put (M' := ms_I M 6 0 t1) K hw 6 1 0 nw_83 rfl rfl rfl ni_N ny_N nq_N nn_N (by decide) rfl rfl rfl rfl (Nat.le_of_ble_eq_true rfl) d_N_parseDigits_137 (fun H locs hw => ?_)
  obtain ⟨M2, eM2⟩ : ∃ z, z = ms_I M 6 0 t1 := ⟨_, rfl⟩
  rw [← eM2] at hw
  have h := h M2 eM2
  refine lv_goto hx hb d_N_parseDigits_140 (tgt := 18) (by decide) ?_
  exact hk18 b1 x2 x3 x4 x5 M2 _ _ _ h (lv_sub hl [0, 1, 2, 3, 4, 5] rfl) hw
theorem w_N_parseDigits_124 {post : Int32 → nf_M → Prop} (hfl : l.flags = flags0) (K : nf_K p s m args meth c "NumberForge$Numeral" nb_N_parseDigits 6 (some FieldType.boolean) D a sz) (k18 : Bool → Int32 → Int32 → Int32 → Int32 → nf_M → Prop) (hk18 : ∀ (b1 : Bool) (x2 : Int32) (x3 : Int32) (x4 : Int32) (x5 : Int32) (M : nf_M) (H : Heap) (locs : List Loc) (ls : Array Slot), k18 b1 x2 x3 x4 x5 M → lv_has ls 6 [(0, .ref (a 6)), (1, .ref (a (nf_ro b1))), (2, .int x2), (3, .int x3), (4, .int x4), (5, .int x5)] → nf_W D a s sz H locs M → W p l e rm_N_parseDigits s m args below meth c H locs 0 0 (nf_MQ below (nf_Q nf_jI D a post ex (nf_A a sz)) args s rm_N_parseDigits.cells rm_N_parseDigits.slots (nf_A a sz)) (F0 m 18 ls [])) : ∀ (b1 : Bool) (x2 : Int32) (x3 : Int32) (x5 : Int32) (xy0 : Int32) (xy1 : Int32) (M : nf_M) (H : Heap) (locs : List Loc) (ls : Array Slot), B_N_parseDigits_124 k18 post b1 x2 x3 x5 xy0 xy1 M → lv_has ls 6 [(0, .ref (a 6)), (1, .ref (a (nf_ro b1))), (2, .int x2), (3, .int x3), (5, .int x5)] → nf_W D a s sz H locs M → W p l e rm_N_parseDigits s m args below meth c H locs 0 0 (nf_MQ below (nf_Q nf_jI D a post ex (nf_A a sz)) args s rm_N_parseDigits.cells rm_N_parseDigits.slots (nf_A a sz)) (F0 m 124 ls [.int xy0, .int xy1, .ref (a 6)]) := by
  have hx := K.1
  have hb := K.2.1
  intro b1 x2 x3 x5 xy0 xy1 M H locs ls h hl hw
  refine nf_callW (ex := (fun _ _ => False)) (As := [.ref (a 6), .int xy1, .int xy0]) (st0 := [.int xy0, .int xy1, .ref (a 6)]) (rest := []) K hw (nf_invV hx hb K.2.2.2.1 (nf_Kg K nw_347) (nf_Kg K nw_349) (nf_Kg K nx_N_takeDigit) (nf_Kg K nw_350) ⟨by decide, by decide⟩ (nf_rcv K hw 6 1 rfl rfl) rfl nl_N_takeDigit rfl d_N_parseDigits_124) (c_N_takeDigit l hfl xy1 xy0) nw_350 nw_5 rfl ⟨by decide, by decide⟩ (Nat.le_of_ble_eq_true rfl) hl.1 ⟨Nat.le_of_ble_eq_true rfl, Nat.le_of_ble_eq_true rfl⟩ h (fun _ _ h => h.elim) (fun r1 M2 H locs h hw => ?_)
  refine W.eq (g2 := F0 m 127 ls []) rfl ?_
  refine lv_iload_n hx hb d_N_parseDigits_127 rfl (lv_at hl 3 rfl) ?_
  refine lv_istore (lv' := [(4, .int x3), (0, .ref (a 6)), (1, .ref (a (nf_ro b1))), (2, .int x2), (3, .int x3), (5, .int x5)]) hx hb d_N_parseDigits_128 hl (by decide) rfl (fun ls hl => ?_)
  exact w_N_parseDigits_130 hfl K k18 hk18 b1 x2 x3 x3 x5 M2 _ _ _ h (lv_sub hl [1, 2, 3, 4, 0, 5] rfl) hw
theorem w_N_parseDigits_62 {post : Int32 → nf_M → Prop} (hfl : l.flags = flags0) (K : nf_K p s m args meth c "NumberForge$Numeral" nb_N_parseDigits 6 (some FieldType.boolean) D a sz) (k18 : Bool → Int32 → Int32 → Int32 → Int32 → nf_M → Prop) (hk18 : ∀ (b1 : Bool) (x2 : Int32) (x3 : Int32) (x4 : Int32) (x5 : Int32) (M : nf_M) (H : Heap) (locs : List Loc) (ls : Array Slot), k18 b1 x2 x3 x4 x5 M → lv_has ls 6 [(0, .ref (a 6)), (1, .ref (a (nf_ro b1))), (2, .int x2), (3, .int x3), (4, .int x4), (5, .int x5)] → nf_W D a s sz H locs M → W p l e rm_N_parseDigits s m args below meth c H locs 0 0 (nf_MQ below (nf_Q nf_jI D a post ex (nf_A a sz)) args s rm_N_parseDigits.cells rm_N_parseDigits.slots (nf_A a sz)) (F0 m 18 ls [])) : ∀ (b1 : Bool) (x2 : Int32) (x3 : Int32) (x4 : Int32) (x5 : Int32) (M : nf_M) (H : Heap) (locs : List Loc) (ls : Array Slot), B_N_parseDigits_62 k18 post b1 x2 x3 x4 x5 M → lv_has ls 6 [(0, .ref (a 6)), (1, .ref (a (nf_ro b1))), (2, .int x2), (3, .int x3), (4, .int x4), (5, .int x5)] → nf_W D a s sz H locs M → W p l e rm_N_parseDigits s m args below meth c H locs 0 0 (nf_MQ below (nf_Q nf_jI D a post ex (nf_A a sz)) args s rm_N_parseDigits.cells rm_N_parseDigits.slots (nf_A a sz)) (F0 m 62 ls []) := by
  have hx := K.1
  have hb := K.2.1
  intro b1 x2 x3 x4 x5 M H locs ls h hl hw
  refine lv_aload_n hx hb d_N_parseDigits_62 rfl (lv_at hl 1 rfl) ?_
  refine lv_aload_n hx hb d_N_parseDigits_63 rfl (lv_at hl 0 rfl) ?_
  refine nf_get (v := .int (mg_I M 6 0)) K hw 6 1 0 nw_83 rfl rfl ni_N (by decide) rfl rfl d_N_parseDigits_64 ?_
  refine nf_callW (ex := (fun _ _ => False)) (As := [.ref (a (nf_ro b1)), .int (mg_I M 6 0)]) (st0 := [.int (mg_I M 6 0), .ref (a (nf_ro b1))]) (rest := []) K hw (nf_invVN hx hb K.2.2.2.1 ((nf_Kr K nv_329).use rfl) (nf_Kg K nw_231) (nf_Kg K nx_R_at) (nf_Kg K nw_232) ⟨by decide, by decide⟩ (nf_rcv K hw (nf_ro b1) 3 (nf_heR _ _ _) rfl) rfl nl_R_at rfl d_N_parseDigits_67) (c_R_at l hfl b1 (mg_I M 6 0)) nw_232 nw_3 rfl ⟨by decide, by decide⟩ (Nat.le_of_ble_eq_true rfl) hl.1 ⟨Nat.le_of_ble_eq_true rfl, Nat.le_of_ble_eq_true rfl⟩ h (fun _ _ h => h.elim) (fun r1 M2 H locs h hw => ?_)
  refine W.eq (g2 := F0 m 70 ls [.int r1]) rfl ?_
  refine lv_bipush (v := (46 : Int32)) hx hb d_N_parseDigits_70 (by decide) ?_
  refine nf_ic_ne hx hb d_N_parseDigits_72 (tgt := 81) (by decide) (fun hc => ?_) (fun hc => ?_)
  · have h := h.1 hc
    refine lv_iload_n hx hb d_N_parseDigits_75 rfl (lv_at hl 3 rfl) ?_
    refine lv_istore (lv' := [(5, .int x3), (0, .ref (a 6)), (1, .ref (a (nf_ro b1))), (2, .int x2), (3, .int x3), (4, .int x4)]) hx hb d_N_parseDigits_76 hl (by decide) rfl (fun ls hl => ?_)
    refine lv_goto hx hb d_N_parseDigits_78 (tgt := 130) (by decide) ?_
    exact w_N_parseDigits_130 hfl K k18 hk18 b1 x2 x3 x4 x3 M2 _ _ _ h (lv_sub hl [1, 2, 3, 4, 5, 0] rfl) hw
  · have h := h.2 hc
    refine lv_iinc (k := 3) (v := x3 + (1 : Int32)) (lv' := [(3, .int (x3 + (1 : Int32))), (0, .ref (a 6)), (1, .ref (a (nf_ro b1))), (2, .int x2), (4, .int x4), (5, .int x5)]) hx hb d_N_parseDigits_81 hl rfl (nf_inc (by decide)) (by decide) rfl (fun ls hl => ?_)
    refine lv_aload_n hx hb d_N_parseDigits_84 rfl (lv_at hl 2 rfl) ?_
    refine lv_aload_n hx hb d_N_parseDigits_85 rfl (lv_at hl 1 rfl) ?_
    refine nf_get (v := .int (mg_I M2 6 0)) K hw 6 1 0 nw_83 rfl rfl ni_N (by decide) rfl rfl d_N_parseDigits_86 ?_
    refine nf_callW (ex := (fun _ _ => False)) (As := [.ref (a (nf_ro b1)), .int (mg_I M2 6 0)]) (st0 := [.int (mg_I M2 6 0), .ref (a (nf_ro b1))]) (rest := []) K hw (nf_invVN hx hb K.2.2.2.1 ((nf_Kr K nv_329).use rfl) (nf_Kg K nw_231) (nf_Kg K nx_R_at) (nf_Kg K nw_232) ⟨by decide, by decide⟩ (nf_rcv K hw (nf_ro b1) 3 (nf_heR _ _ _) rfl) rfl nl_R_at rfl d_N_parseDigits_89) (c_R_at l hfl b1 (mg_I M2 6 0)) nw_232 nw_3 rfl ⟨by decide, by decide⟩ (Nat.le_of_ble_eq_true rfl) hl.1 ⟨Nat.le_of_ble_eq_true rfl, Nat.le_of_ble_eq_true rfl⟩ h (fun _ _ h => h.elim) (fun r3 M4 H locs h hw => ?_)
    refine W.eq (g2 := F0 m 92 ls [.int r3]) rfl ?_
    refine lv_bipush (v := (48 : Int32)) hx hb d_N_parseDigits_92 (by decide) ?_
    refine nf_ic_eq hx hb d_N_parseDigits_94 (tgt := 130) (by decide) (fun hc => ?_) (fun hc => ?_)
    · have h := h.1 hc
      exact w_N_parseDigits_130 hfl K k18 hk18 b1 x2 (x3 + (1 : Int32)) x4 x5 M4 _ _ _ h (lv_sub hl [1, 2, 3, 0, 4, 5] rfl) hw
    · have h := h.2 hc
      refine lv_aload_n hx hb d_N_parseDigits_97 rfl (lv_at hl 1 rfl) ?_
      refine lv_aload_n hx hb d_N_parseDigits_98 rfl (lv_at hl 2 rfl) ?_
      refine lv_aload_n hx hb d_N_parseDigits_99 rfl (lv_at hl 1 rfl) ?_
      refine nf_get (v := .int (mg_I M4 6 0)) K hw 6 1 0 nw_83 rfl rfl ni_N (by decide) rfl rfl d_N_parseDigits_100 ?_
      refine nf_callW (ex := (fun _ _ => False)) (As := [.ref (a (nf_ro b1)), .int (mg_I M4 6 0)]) (st0 := [.int (mg_I M4 6 0), .ref (a (nf_ro b1)), .ref (a 6)]) (rest := [.ref (a 6)]) K hw (nf_invVN hx hb K.2.2.2.1 ((nf_Kr K nv_329).use rfl) (nf_Kg K nw_231) (nf_Kg K nx_R_at) (nf_Kg K nw_232) ⟨by decide, by decide⟩ (nf_rcv K hw (nf_ro b1) 3 (nf_heR _ _ _) rfl) rfl nl_R_at rfl d_N_parseDigits_103) (c_R_at l hfl b1 (mg_I M4 6 0)) nw_232 nw_3 rfl ⟨by decide, by decide⟩ (Nat.le_of_ble_eq_true rfl) hl.1 ⟨Nat.le_of_ble_eq_true rfl, Nat.le_of_ble_eq_true rfl⟩ h (fun _ _ h => h.elim) (fun r5 M6 H locs h hw => ?_)
      refine W.eq (g2 := F0 m 106 ls [.int r5, .ref (a 6)]) rfl ?_
      refine lv_bipush (v := (48 : Int32)) hx hb d_N_parseDigits_106 (by decide) ?_
      refine lv_isub hx hb d_N_parseDigits_108 ?_
      refine lv_aload_n hx hb d_N_parseDigits_109 rfl (lv_at hl 1 rfl) ?_
      refine nf_get (v := .int (mg_I M6 6 5)) K hw 6 1 5 nw_88 rfl rfl ni_N (by decide) rfl rfl d_N_parseDigits_110 ?_
      refine nf_if_ne hx hb d_N_parseDigits_113 (tgt := 120) (by decide) (fun hc => ?_) (fun hc => ?_)
      · have h := h.1 hc
        refine lv_iconst (v := (1 : Int32)) hx hb d_N_parseDigits_116 (by decide) ?_
        refine lv_goto hx hb d_N_parseDigits_117 (tgt := 124) (by decide) ?_
        exact w_N_parseDigits_124 hfl K k18 hk18 b1 x2 (x3 + (1 : Int32)) x5 (1 : Int32) (r5 - (48 : Int32)) M6 _ _ _ h (lv_sub hl [1, 2, 3, 0, 5] rfl) hw
      · have h := h.2 hc
        refine lv_iload_n hx hb d_N_parseDigits_120 rfl (lv_at hl 0 rfl) ?_
        refine lv_iload hx hb d_N_parseDigits_121 (lv_at hl 4 rfl) ?_
        refine lv_isub hx hb d_N_parseDigits_123 ?_
        exact w_N_parseDigits_124 hfl K k18 hk18 b1 x2 (x3 + (1 : Int32)) x5 ((x3 + (1 : Int32)) - x4) (r5 - (48 : Int32)) M6 _ _ _ h (lv_sub hl [1, 2, 3, 0, 5] rfl) hw
theorem w_N_parseDigits_170 {post : Int32 → nf_M → Prop} (hfl : l.flags = flags0) (K : nf_K p s m args meth c "NumberForge$Numeral" nb_N_parseDigits 6 (some FieldType.boolean) D a sz) : ∀ (xy0 : Int32) (M : nf_M) (H : Heap) (locs : List Loc) (ls : Array Slot), B_N_parseDigits_170 post xy0 M → lv_has ls 6 [] → nf_W D a s sz H locs M → W p l e rm_N_parseDigits s m args below meth c H locs 0 0 (nf_MQ below (nf_Q nf_jI D a post ex (nf_A a sz)) args s rm_N_parseDigits.cells rm_N_parseDigits.slots (nf_A a sz)) (F0 m 170 ls [.int xy0]) := by
  have hx := K.1
  have hb := K.2.1
  intro xy0 M H locs ls h hl hw
  obtain ⟨g1, h⟩ := h
  exact nf_iret K hw d_N_parseDigits_170 g1 (Nat.le_of_ble_eq_true rfl) (Nat.le_of_ble_eq_true rfl) (r := xy0) rfl h
theorem w_N_parseDigits_155 {post : Int32 → nf_M → Prop} (hfl : l.flags = flags0) (K : nf_K p s m args meth c "NumberForge$Numeral" nb_N_parseDigits 6 (some FieldType.boolean) D a sz) : ∀ (x3 : Int32) (x4 : Int32) (xy0 : Int32) (M : nf_M) (H : Heap) (locs : List Loc) (ls : Array Slot), B_N_parseDigits_155 post x3 x4 xy0 M → lv_has ls 6 [(3, .int x3), (4, .int x4)] → nf_W D a s sz H locs M → W p l e rm_N_parseDigits s m args below meth c H locs 0 0 (nf_MQ below (nf_Q nf_jI D a post ex (nf_A a sz)) args s rm_N_parseDigits.cells rm_N_parseDigits.slots (nf_A a sz)) (F0 m 155 ls [.int xy0, .ref (a 6)]) := by
  have hx := K.1
  have hb := K.2.1
  intro x3 x4 xy0 M H locs ls h hl hw
  refine lv_iload hx hb d_N_parseDigits_155 (lv_at hl 1 rfl) ?_
  refine lv_isub hx hb d_N_parseDigits_157 ?_
  refine lv_topi (fun t1 et1 => ?_)
  have h := h t1 et1
  refine nf_put (M' := ms_I M 6 6 t1) K hw 6 1 6 nw_89 rfl rfl rfl ni_N ny_N nq_N nn_N (by decide) rfl rfl rfl rfl (Nat.le_of_ble_eq_true rfl) d_N_parseDigits_158 (fun H locs hw => ?_)
  obtain ⟨M2, eM2⟩ : ∃ z, z = ms_I M 6 6 t1 := ⟨_, rfl⟩
  rw [← eM2] at hw
  have h := h M2 eM2
  refine lv_iload_n hx hb d_N_parseDigits_161 rfl (lv_at hl 0 rfl) ?_
  refine nf_if_le hx hb d_N_parseDigits_162 (tgt := 169) (by decide) (fun hc => ?_) (fun hc => ?_)
  · have h := h.1 hc
    refine lv_iconst (v := (1 : Int32)) hx hb d_N_parseDigits_165 (by decide) ?_
    refine lv_goto hx hb d_N_parseDigits_166 (tgt := 170) (by decide) ?_
    exact w_N_parseDigits_170 hfl K (1 : Int32) M2 _ _ _ h (lv_sub hl [] rfl) hw
  · have h := h.2 hc
    refine lv_iconst (v := (0 : Int32)) hx hb d_N_parseDigits_169 (by decide) ?_
    exact w_N_parseDigits_170 hfl K (0 : Int32) M2 _ _ _ h (lv_sub hl [] rfl) hw
theorem w_N_parseDigits_143 {post : Int32 → nf_M → Prop} (hfl : l.flags = flags0) (K : nf_K p s m args meth c "NumberForge$Numeral" nb_N_parseDigits 6 (some FieldType.boolean) D a sz) : ∀ (x3 : Int32) (x4 : Int32) (x5 : Int32) (M : nf_M) (H : Heap) (locs : List Loc) (ls : Array Slot), B_N_parseDigits_143 post x3 x4 x5 M → lv_has ls 6 [(0, .ref (a 6)), (3, .int x3), (4, .int x4), (5, .int x5)] → nf_W D a s sz H locs M → W p l e rm_N_parseDigits s m args below meth c H locs 0 0 (nf_MQ below (nf_Q nf_jI D a post ex (nf_A a sz)) args s rm_N_parseDigits.cells rm_N_parseDigits.slots (nf_A a sz)) (F0 m 143 ls []) := by
  have hx := K.1
  have hb := K.2.1
  intro x3 x4 x5 M H locs ls h hl hw
  refine lv_aload_n hx hb d_N_parseDigits_143 rfl (lv_at hl 0 rfl) ?_
  refine lv_iload hx hb d_N_parseDigits_144 (lv_at hl 3 rfl) ?_
  refine nf_if_ge hx hb d_N_parseDigits_146 (tgt := 153) (by decide) (fun hc => ?_) (fun hc => ?_)
  · have h := h.1 hc
    refine lv_iload_n hx hb d_N_parseDigits_149 rfl (lv_at hl 1 rfl) ?_
    refine lv_goto hx hb d_N_parseDigits_150 (tgt := 155) (by decide) ?_
    exact w_N_parseDigits_155 hfl K x3 x4 x3 M _ _ _ h (lv_sub hl [1, 2] rfl) hw
  · have h := h.2 hc
    refine lv_iload hx hb d_N_parseDigits_153 (lv_at hl 3 rfl) ?_
    exact w_N_parseDigits_155 hfl K x3 x4 x5 M _ _ _ h (lv_sub hl [1, 2] rfl) hw
theorem w_N_parseDigits_18 {post : Int32 → nf_M → Prop} (hfl : l.flags = flags0) (K : nf_K p s m args meth c "NumberForge$Numeral" nb_N_parseDigits 6 (some FieldType.boolean) D a sz) : ∀ (n : Nat) (b1 : Bool) (x2 : Int32) (x3 : Int32) (x4 : Int32) (x5 : Int32) (M : nf_M) (H : Heap) (locs : List Loc) (ls : Array Slot), B_N_parseDigits_18 post n b1 x2 x3 x4 x5 M → lv_has ls 6 [(0, .ref (a 6)), (1, .ref (a (nf_ro b1))), (2, .int x2), (3, .int x3), (4, .int x4), (5, .int x5)] → nf_W D a s sz H locs M → W p l e rm_N_parseDigits s m args below meth c H locs 0 0 (nf_MQ below (nf_Q nf_jI D a post ex (nf_A a sz)) args s rm_N_parseDigits.cells rm_N_parseDigits.slots (nf_A a sz)) (F0 m 18 ls []) := by
  have hx := K.1
  have hb := K.2.1
  intro n
  induction n with
  | zero => intro b1 x2 x3 x4 x5 M H locs ls h hl hw; exact h.elim
  | succ n ih =>
    intro b1 x2 x3 x4 x5 M H locs ls h hl hw
    refine lv_aload_n hx hb d_N_parseDigits_18 rfl (lv_at hl 0 rfl) ?_
    refine nf_get (v := .int (mg_I M 6 0)) K hw 6 1 0 nw_83 rfl rfl ni_N (by decide) rfl rfl d_N_parseDigits_19 ?_
    refine lv_aload_n hx hb d_N_parseDigits_22 rfl (lv_at hl 0 rfl) ?_
    refine nf_get (v := .int (mg_I M 6 1)) K hw 6 1 1 nw_84 rfl rfl ni_N (by decide) rfl rfl d_N_parseDigits_23 ?_
    refine nf_ic_ge hx hb d_N_parseDigits_26 (tgt := 143) (by decide) (fun hc => ?_) (fun hc => ?_)
    · have h := h.1 hc
      refine lv_aload_n hx hb d_N_parseDigits_29 rfl (lv_at hl 1 rfl) ?_
      refine lv_aload_n hx hb d_N_parseDigits_30 rfl (lv_at hl 0 rfl) ?_
      refine nf_get (v := .int (mg_I M 6 0)) K hw 6 1 0 nw_83 rfl rfl ni_N (by decide) rfl rfl d_N_parseDigits_31 ?_
      refine nf_callW (ex := (fun _ _ => False)) (As := [.ref (a (nf_ro b1)), .int (mg_I M 6 0)]) (st0 := [.int (mg_I M 6 0), .ref (a (nf_ro b1))]) (rest := []) K hw (nf_invVN hx hb K.2.2.2.1 ((nf_Kr K nv_342).use rfl) (nf_Kg K nw_344) (nf_Kg K nx_R_hasDigitAt) (nf_Kg K nw_345) ⟨by decide, by decide⟩ (nf_rcv K hw (nf_ro b1) 3 (nf_heR _ _ _) rfl) rfl nl_R_hasDigitAt rfl d_N_parseDigits_34) (c_R_hasDigitAt l hfl b1 (mg_I M 6 0)) nw_345 nw_3 rfl ⟨by decide, by decide⟩ (Nat.le_of_ble_eq_true rfl) hl.1 ⟨Nat.le_of_ble_eq_true rfl, Nat.le_of_ble_eq_true rfl⟩ h (fun _ _ h => h.elim) (fun r1 M2 H locs h hw => ?_)
      refine W.eq (g2 := F0 m 37 ls [.int r1]) rfl ?_
      refine nf_if_ne hx hb d_N_parseDigits_37 (tgt := 62) (by decide) (fun hc => ?_) (fun hc => ?_)
      · have h := h.1 hc
        refine lv_iload_n hx hb d_N_parseDigits_40 rfl (lv_at hl 2 rfl) ?_
        refine nf_if_eq hx hb d_N_parseDigits_41 (tgt := 143) (by decide) (fun hc => ?_) (fun hc => ?_)
        · have h := h.1 hc
          exact w_N_parseDigits_143 hfl K x3 x4 x5 M2 _ _ _ h (lv_sub hl [0, 3, 4, 5] rfl) hw
        · have h := h.2 hc
          refine lv_iload hx hb d_N_parseDigits_44 (lv_at hl 5 rfl) ?_
          refine nf_if_ge hx hb d_N_parseDigits_46 (tgt := 143) (by decide) (fun hc => ?_) (fun hc => ?_)
          · have h := h.1 hc
            refine lv_aload_n hx hb d_N_parseDigits_49 rfl (lv_at hl 1 rfl) ?_
            refine lv_aload_n hx hb d_N_parseDigits_50 rfl (lv_at hl 0 rfl) ?_
            refine nf_get (v := .int (mg_I M2 6 0)) K hw 6 1 0 nw_83 rfl rfl ni_N (by decide) rfl rfl d_N_parseDigits_51 ?_
            refine nf_callW (ex := (fun _ _ => False)) (As := [.ref (a (nf_ro b1)), .int (mg_I M2 6 0)]) (st0 := [.int (mg_I M2 6 0), .ref (a (nf_ro b1))]) (rest := []) K hw (nf_invVN hx hb K.2.2.2.1 ((nf_Kr K nv_329).use rfl) (nf_Kg K nw_231) (nf_Kg K nx_R_at) (nf_Kg K nw_232) ⟨by decide, by decide⟩ (nf_rcv K hw (nf_ro b1) 3 (nf_heR _ _ _) rfl) rfl nl_R_at rfl d_N_parseDigits_54) (c_R_at l hfl b1 (mg_I M2 6 0)) nw_232 nw_3 rfl ⟨by decide, by decide⟩ (Nat.le_of_ble_eq_true rfl) hl.1 ⟨Nat.le_of_ble_eq_true rfl, Nat.le_of_ble_eq_true rfl⟩ h (fun _ _ h => h.elim) (fun r3 M4 H locs h hw => ?_)
            refine W.eq (g2 := F0 m 57 ls [.int r3]) rfl ?_
            refine lv_bipush (v := (46 : Int32)) hx hb d_N_parseDigits_57 (by decide) ?_
            refine nf_ic_ne hx hb d_N_parseDigits_59 (tgt := 143) (by decide) (fun hc => ?_) (fun hc => ?_)
            · have h := h.1 hc
              exact w_N_parseDigits_62 hfl K (fun b1 x2 x3 x4 x5 z => B_N_parseDigits_18 post n b1 x2 x3 x4 x5 z) (fun b1 x2 x3 x4 x5 z H locs ls hh hll hww => ih b1 x2 x3 x4 x5 z H locs ls hh hll hww) b1 x2 x3 x4 x5 M4 _ _ _ h (lv_sub hl [0, 1, 2, 3, 4, 5] rfl) hw
            · have h := h.2 hc
              exact w_N_parseDigits_143 hfl K x3 x4 x5 M4 _ _ _ h (lv_sub hl [0, 3, 4, 5] rfl) hw
          · have h := h.2 hc
            exact w_N_parseDigits_143 hfl K x3 x4 x5 M2 _ _ _ h (lv_sub hl [0, 3, 4, 5] rfl) hw
      · have h := h.2 hc
        exact w_N_parseDigits_62 hfl K (fun b1 x2 x3 x4 x5 z => B_N_parseDigits_18 post n b1 x2 x3 x4 x5 z) (fun b1 x2 x3 x4 x5 z H locs ls hh hll hww => ih b1 x2 x3 x4 x5 z H locs ls hh hll hww) b1 x2 x3 x4 x5 M2 _ _ _ h (lv_sub hl [0, 1, 2, 3, 4, 5] rfl) hw
    · have h := h.2 hc
      exact w_N_parseDigits_143 hfl K x3 x4 x5 M _ _ _ h (lv_sub hl [0, 3, 4, 5] rfl) hw
theorem c_N_parseDigits (l : Launch) (hfl : l.flags = flags0) (b1 : Bool) (x2 : Int32) : nf_C nf_jI l nm_N_parseDigits nb_N_parseDigits 6 (some FieldType.boolean) rm_N_parseDigits (fun a => [.ref (a 6), .ref (a (nf_ro b1)), .int x2]) (fun M post ex => P_N_parseDigits b1 x2 M post) := by
  refine nf_start (plainFor_of_name (by decide +kernel)) (fun a => Nat.le_of_ble_eq_true rfl) ?_
  intro D a sz M post ex p e s m below meth c ls h K hl hw
  have hx := K.1
  have hb := K.2.1
  have hl : lv_has ls 6 [(0, .ref (a 6)), (1, .ref (a (nf_ro b1))), (2, .int x2)] := hl
  refine lv_aload_n hx hb d_N_parseDigits_0 rfl (lv_at hl 0 rfl) ?_
  refine lv_lconst (v := (0 : Int64)) hx hb d_N_parseDigits_1 (by decide) ?_
  refine nf_put (M' := ms_L M 6 4 (0 : Int64)) K hw 6 1 4 nw_87 rfl rfl rfl ni_N ny_N nq_N nn_N (by decide) rfl rfl rfl rfl (Nat.le_of_ble_eq_true rfl) d_N_parseDigits_2 (fun H locs hw => ?_)
  obtain ⟨M1, eM1⟩ : ∃ z, z = ms_L M 6 4 (0 : Int64) := ⟨_, rfl⟩
  rw [← eM1] at hw
  have h := h M1 eM1
  refine lv_aload_n hx hb d_N_parseDigits_5 rfl (lv_at hl 0 rfl) ?_
  refine lv_iconst (v := (0 : Int32)) hx hb d_N_parseDigits_6 (by decide) ?_
  refine nf_put (M' := ms_I M1 6 5 (0 : Int32)) K hw 6 1 5 nw_88 rfl rfl rfl ni_N ny_N nq_N nn_N (by decide) rfl rfl rfl rfl (Nat.le_of_ble_eq_true rfl) d_N_parseDigits_7 (fun H locs hw => ?_)
  obtain ⟨M2, eM2⟩ : ∃ z, z = ms_I M1 6 5 (0 : Int32) := ⟨_, rfl⟩
  rw [← eM2] at hw
  have h := h M2 eM2
  refine lv_iconst (v := (0 : Int32)) hx hb d_N_parseDigits_10 (by decide) ?_
  refine lv_istore_n (lv' := [(3, .int (0 : Int32)), (0, .ref (a 6)), (1, .ref (a (nf_ro b1))), (2, .int x2)]) hx hb d_N_parseDigits_11 rfl hl (by decide) rfl (fun ls hl => ?_)
  refine lv_iconst (v := (0 : Int32)) hx hb d_N_parseDigits_12 (by decide) ?_
  refine lv_istore (lv' := [(4, .int (0 : Int32)), (3, .int (0 : Int32)), (0, .ref (a 6)), (1, .ref (a (nf_ro b1))), (2, .int x2)]) hx hb d_N_parseDigits_13 hl (by decide) rfl (fun ls hl => ?_)
  refine lv_iconst (v := (-1 : Int32)) hx hb d_N_parseDigits_15 (by decide) ?_
  refine lv_istore (lv' := [(5, .int (-1 : Int32)), (4, .int (0 : Int32)), (3, .int (0 : Int32)), (0, .ref (a 6)), (1, .ref (a (nf_ro b1))), (2, .int x2)]) hx hb d_N_parseDigits_16 hl (by decide) rfl (fun ls hl => ?_)
  obtain ⟨n, h⟩ := h
  exact w_N_parseDigits_18 hfl K n b1 x2 (0 : Int32) (0 : Int32) (-1 : Int32) M2 _ _ _ h (lv_sub hl [3, 4, 5, 2, 1, 0] rfl) hw
theorem d_N_parseExponent_0 : decode nb_N_parseExponent 0 = .ok (.aload_n 1, 1) := by decide +kernel
theorem d_N_parseExponent_1 : decode nb_N_parseExponent 1 = .ok (.aload_n 0, 1) := by decide +kernel
theorem d_N_parseExponent_2 : decode nb_N_parseExponent 2 = .ok (.getfield 15, 3) := by decide +kernel
theorem d_N_parseExponent_5 : decode nb_N_parseExponent 5 = .ok (.invokevirtual 22, 3) := by decide +kernel
theorem d_N_parseExponent_8 : decode nb_N_parseExponent 8 = .ok (.bipush 101, 2) := by decide +kernel
theorem d_N_parseExponent_10 : decode nb_N_parseExponent 10 = .ok (.if_icmp .eq 18, 3) := by decide +kernel
theorem d_N_parseExponent_13 : decode nb_N_parseExponent 13 = .ok (.aload_n 1, 1) := by decide +kernel
theorem d_N_parseExponent_14 : decode nb_N_parseExponent 14 = .ok (.aload_n 0, 1) := by decide +kernel
theorem d_N_parseExponent_15 : decode nb_N_parseExponent 15 = .ok (.getfield 15, 3) := by decide +kernel
theorem d_N_parseExponent_18 : decode nb_N_parseExponent 18 = .ok (.invokevirtual 22, 3) := by decide +kernel
theorem d_N_parseExponent_21 : decode nb_N_parseExponent 21 = .ok (.bipush 69, 2) := by decide +kernel
theorem d_N_parseExponent_23 : decode nb_N_parseExponent 23 = .ok (.if_icmp .eq 5, 3) := by decide +kernel
theorem d_N_parseExponent_26 : decode nb_N_parseExponent 26 = .ok (.iconst 0, 1) := by decide +kernel
theorem d_N_parseExponent_27 : decode nb_N_parseExponent 27 = .ok (.ireturn, 1) := by decide +kernel
theorem d_N_parseExponent_28 : decode nb_N_parseExponent 28 = .ok (.aload_n 0, 1) := by decide +kernel
theorem d_N_parseExponent_29 : decode nb_N_parseExponent 29 = .ok (.dup, 1) := by decide +kernel
theorem d_N_parseExponent_30 : decode nb_N_parseExponent 30 = .ok (.getfield 15, 3) := by decide +kernel
theorem d_N_parseExponent_33 : decode nb_N_parseExponent 33 = .ok (.iconst 1, 1) := by decide +kernel
theorem d_N_parseExponent_34 : decode nb_N_parseExponent 34 = .ok (.iadd, 1) := by decide +kernel
theorem d_N_parseExponent_35 : decode nb_N_parseExponent 35 = .ok (.putfield 15, 3) := by decide +kernel
theorem d_N_parseExponent_38 : decode nb_N_parseExponent 38 = .ok (.aload_n 0, 1) := by decide +kernel
theorem d_N_parseExponent_39 : decode nb_N_parseExponent 39 = .ok (.getfield 15, 3) := by decide +kernel
theorem d_N_parseExponent_42 : decode nb_N_parseExponent 42 = .ok (.aload_n 0, 1) := by decide +kernel
theorem d_N_parseExponent_43 : decode nb_N_parseExponent 43 = .ok (.getfield 19, 3) := by decide +kernel
theorem d_N_parseExponent_46 : decode nb_N_parseExponent 46 = .ok (.if_icmp .ge 20, 3) := by decide +kernel
theorem d_N_parseExponent_49 : decode nb_N_parseExponent 49 = .ok (.aload_n 1, 1) := by decide +kernel
theorem d_N_parseExponent_50 : decode nb_N_parseExponent 50 = .ok (.aload_n 0, 1) := by decide +kernel
theorem d_N_parseExponent_51 : decode nb_N_parseExponent 51 = .ok (.getfield 15, 3) := by decide +kernel
theorem d_N_parseExponent_54 : decode nb_N_parseExponent 54 = .ok (.invokevirtual 22, 3) := by decide +kernel
theorem d_N_parseExponent_57 : decode nb_N_parseExponent 57 = .ok (.bipush 45, 2) := by decide +kernel
theorem d_N_parseExponent_59 : decode nb_N_parseExponent 59 = .ok (.if_icmp .ne 7, 3) := by decide +kernel
theorem d_N_parseExponent_62 : decode nb_N_parseExponent 62 = .ok (.iconst 1, 1) := by decide +kernel
theorem d_N_parseExponent_63 : decode nb_N_parseExponent 63 = .ok (.goto 4, 3) := by decide +kernel
theorem d_N_parseExponent_66 : decode nb_N_parseExponent 66 = .ok (.iconst 0, 1) := by decide +kernel
theorem d_N_parseExponent_67 : decode nb_N_parseExponent 67 = .ok (.istore_n 2, 1) := by decide +kernel
theorem d_N_parseExponent_68 : decode nb_N_parseExponent 68 = .ok (.aload_n 0, 1) := by decide +kernel
theorem d_N_parseExponent_69 : decode nb_N_parseExponent 69 = .ok (.aload_n 1, 1) := by decide +kernel
theorem d_N_parseExponent_70 : decode nb_N_parseExponent 70 = .ok (.invokevirtual 31, 3) := by decide +kernel
theorem d_N_parseExponent_73 : decode nb_N_parseExponent 73 = .ok (.iconst 0, 1) := by decide +kernel
theorem d_N_parseExponent_74 : decode nb_N_parseExponent 74 = .ok (.istore_n 3, 1) := by decide +kernel
theorem d_N_parseExponent_75 : decode nb_N_parseExponent 75 = .ok (.iconst 0, 1) := by decide +kernel
theorem d_N_parseExponent_76 : decode nb_N_parseExponent 76 = .ok (.istore 4, 2) := by decide +kernel
theorem d_N_parseExponent_78 : decode nb_N_parseExponent 78 = .ok (.aload_n 0, 1) := by decide +kernel
theorem d_N_parseExponent_79 : decode nb_N_parseExponent 79 = .ok (.getfield 15, 3) := by decide +kernel
theorem d_N_parseExponent_82 : decode nb_N_parseExponent 82 = .ok (.aload_n 0, 1) := by decide +kernel
theorem d_N_parseExponent_83 : decode nb_N_parseExponent 83 = .ok (.getfield 19, 3) := by decide +kernel
theorem d_N_parseExponent_86 : decode nb_N_parseExponent 86 = .ok (.if_icmp .ge 53, 3) := by decide +kernel
theorem d_N_parseExponent_89 : decode nb_N_parseExponent 89 = .ok (.iload 4, 2) := by decide +kernel
theorem d_N_parseExponent_91 : decode nb_N_parseExponent 91 = .ok (.iconst 3, 1) := by decide +kernel
theorem d_N_parseExponent_92 : decode nb_N_parseExponent 92 = .ok (.if_icmp .ge 47, 3) := by decide +kernel
theorem d_N_parseExponent_95 : decode nb_N_parseExponent 95 = .ok (.aload_n 1, 1) := by decide +kernel
theorem d_N_parseExponent_96 : decode nb_N_parseExponent 96 = .ok (.aload_n 0, 1) := by decide +kernel
theorem d_N_parseExponent_97 : decode nb_N_parseExponent 97 = .ok (.getfield 15, 3) := by decide +kernel
theorem d_N_parseExponent_100 : decode nb_N_parseExponent 100 = .ok (.invokevirtual 58, 3) := by decide +kernel
theorem d_N_parseExponent_103 : decode nb_N_parseExponent 103 = .ok (.ifCond .eq 36, 3) := by decide +kernel
theorem d_N_parseExponent_106 : decode nb_N_parseExponent 106 = .ok (.iload_n 3, 1) := by decide +kernel
theorem d_N_parseExponent_107 : decode nb_N_parseExponent 107 = .ok (.bipush 10, 2) := by decide +kernel
theorem d_N_parseExponent_109 : decode nb_N_parseExponent 109 = .ok (.imul, 1) := by decide +kernel
theorem d_N_parseExponent_110 : decode nb_N_parseExponent 110 = .ok (.aload_n 1, 1) := by decide +kernel
theorem d_N_parseExponent_111 : decode nb_N_parseExponent 111 = .ok (.aload_n 0, 1) := by decide +kernel
theorem d_N_parseExponent_112 : decode nb_N_parseExponent 112 = .ok (.getfield 15, 3) := by decide +kernel
theorem d_N_parseExponent_115 : decode nb_N_parseExponent 115 = .ok (.invokevirtual 22, 3) := by decide +kernel
theorem d_N_parseExponent_118 : decode nb_N_parseExponent 118 = .ok (.bipush 48, 2) := by decide +kernel
theorem d_N_parseExponent_120 : decode nb_N_parseExponent 120 = .ok (.isub, 1) := by decide +kernel
theorem d_N_parseExponent_121 : decode nb_N_parseExponent 121 = .ok (.iadd, 1) := by decide +kernel
theorem d_N_parseExponent_122 : decode nb_N_parseExponent 122 = .ok (.istore_n 3, 1) := by decide +kernel
theorem d_N_parseExponent_123 : decode nb_N_parseExponent 123 = .ok (.iinc 4 1, 3) := by decide +kernel
theorem d_N_parseExponent_126 : decode nb_N_parseExponent 126 = .ok (.aload_n 0, 1) := by decide +kernel
theorem d_N_parseExponent_127 : decode nb_N_parseExponent 127 = .ok (.dup, 1) := by decide +kernel
theorem d_N_parseExponent_128 : decode nb_N_parseExponent 128 = .ok (.getfield 15, 3) := by decide +kernel
theorem d_N_parseExponent_131 : decode nb_N_parseExponent 131 = .ok (.iconst 1, 1) := by decide +kernel
theorem d_N_parseExponent_132 : decode nb_N_parseExponent 132 = .ok (.iadd, 1) := by decide +kernel
theorem d_N_parseExponent_133 : decode nb_N_parseExponent 133 = .ok (.putfield 15, 3) := by decide +kernel
theorem d_N_parseExponent_136 : decode nb_N_parseExponent 136 = .ok (.goto (-58), 3) := by decide +kernel
theorem d_N_parseExponent_139 : decode nb_N_parseExponent 139 = .ok (.aload_n 0, 1) := by decide +kernel
theorem d_N_parseExponent_140 : decode nb_N_parseExponent 140 = .ok (.dup, 1) := by decide +kernel
theorem d_N_parseExponent_141 : decode nb_N_parseExponent 141 = .ok (.getfield 66, 3) := by decide +kernel
theorem d_N_parseExponent_144 : decode nb_N_parseExponent 144 = .ok (.iload_n 2, 1) := by decide +kernel
theorem d_N_parseExponent_145 : decode nb_N_parseExponent 145 = .ok (.ifCond .eq 8, 3) := by decide +kernel
theorem d_N_parseExponent_148 : decode nb_N_parseExponent 148 = .ok (.iload_n 3, 1) := by decide +kernel
theorem d_N_parseExponent_149 : decode nb_N_parseExponent 149 = .ok (.ineg, 1) := by decide +kernel
theorem d_N_parseExponent_150 : decode nb_N_parseExponent 150 = .ok (.goto 4, 3) := by decide +kernel
theorem d_N_parseExponent_153 : decode nb_N_parseExponent 153 = .ok (.iload_n 3, 1) := by decide +kernel
theorem d_N_parseExponent_154 : decode nb_N_parseExponent 154 = .ok (.iadd, 1) := by decide +kernel
theorem d_N_parseExponent_155 : decode nb_N_parseExponent 155 = .ok (.putfield 66, 3) := by decide +kernel
theorem d_N_parseExponent_158 : decode nb_N_parseExponent 158 = .ok (.iload 4, 2) := by decide +kernel
theorem d_N_parseExponent_160 : decode nb_N_parseExponent 160 = .ok (.ifCond .le 7, 3) := by decide +kernel
theorem d_N_parseExponent_163 : decode nb_N_parseExponent 163 = .ok (.iconst 1, 1) := by decide +kernel
theorem d_N_parseExponent_164 : decode nb_N_parseExponent 164 = .ok (.goto 4, 3) := by decide +kernel
theorem d_N_parseExponent_167 : decode nb_N_parseExponent 167 = .ok (.iconst 0, 1) := by decide +kernel
theorem d_N_parseExponent_168 : decode nb_N_parseExponent 168 = .ok (.ireturn, 1) := by decide +kernel
abbrev rm_N_parseExponent : Room := ({ frames := 2, cells := 0, slots := 0, locals := 42 })
theorem w_N_parseExponent_168 {post : Int32 → nf_M → Prop} (hfl : l.flags = flags0) (K : nf_K p s m args meth c "NumberForge$Numeral" nb_N_parseExponent 5 (some FieldType.boolean) D a sz) : ∀ (xy0 : Int32) (M : nf_M) (H : Heap) (locs : List Loc) (ls : Array Slot), B_N_parseExponent_168 post xy0 M → lv_has ls 5 [] → nf_W D a s sz H locs M → W p l e rm_N_parseExponent s m args below meth c H locs 0 0 (nf_MQ below (nf_Q nf_jI D a post ex (nf_A a sz)) args s rm_N_parseExponent.cells rm_N_parseExponent.slots (nf_A a sz)) (F0 m 168 ls [.int xy0]) := by
  have hx := K.1
  have hb := K.2.1
  intro xy0 M H locs ls h hl hw
  obtain ⟨g1, h⟩ := h
  exact nf_iret K hw d_N_parseExponent_168 g1 (Nat.le_of_ble_eq_true rfl) (Nat.le_of_ble_eq_true rfl) (r := xy0) rfl h
theorem w_N_parseExponent_154 {post : Int32 → nf_M → Prop} (hfl : l.flags = flags0) (K : nf_K p s m args meth c "NumberForge$Numeral" nb_N_parseExponent 5 (some FieldType.boolean) D a sz) : ∀ (x4 : Int32) (xy0 : Int32) (xy1 : Int32) (M : nf_M) (H : Heap) (locs : List Loc) (ls : Array Slot), B_N_parseExponent_154 post x4 xy0 xy1 M → lv_has ls 5 [(4, .int x4)] → nf_W D a s sz H locs M → W p l e rm_N_parseExponent s m args below meth c H locs 0 0 (nf_MQ below (nf_Q nf_jI D a post ex (nf_A a sz)) args s rm_N_parseExponent.cells rm_N_parseExponent.slots (nf_A a sz)) (F0 m 154 ls [.int xy0, .int xy1, .ref (a 6)]) := by
  have hx := K.1
  have hb := K.2.1
  intro x4 xy0 xy1 M H locs ls h hl hw
  refine lv_iadd hx hb d_N_parseExponent_154 ?_
  refine lv_topi (fun t1 et1 => ?_)
  have h := h t1 et1
  refine nf_put (M' := ms_I M 6 6 t1) K hw 6 1 6 nw_89 rfl rfl rfl ni_N ny_N nq_N nn_N (by decide) rfl rfl rfl rfl (Nat.le_of_ble_eq_true rfl) d_N_parseExponent_155 (fun H locs hw => ?_)
  obtain ⟨M2, eM2⟩ : ∃ z, z = ms_I M 6 6 t1 := ⟨_, rfl⟩
  rw [← eM2] at hw
  have h := h M2 eM2
  refine lv_iload hx hb d_N_parseExponent_158 (lv_at hl 0 rfl) ?_
  refine nf_if_le hx hb d_N_parseExponent_160 (tgt := 167) (by decide) (fun hc => ?_) (fun hc => ?_)
  · have h := h.1 hc
    refine lv_iconst (v := (1 : Int32)) hx hb d_N_parseExponent_163 (by decide) ?_
    refine lv_goto hx hb d_N_parseExponent_164 (tgt := 168) (by decide) ?_
    exact w_N_parseExponent_168 hfl K (1 : Int32) M2 _ _ _ h (lv_sub hl [] rfl) hw
  · have h := h.2 hc
    refine lv_iconst (v := (0 : Int32)) hx hb d_N_parseExponent_167 (by decide) ?_
    exact w_N_parseExponent_168 hfl K (0 : Int32) M2 _ _ _ h (lv_sub hl [] rfl) hw
theorem w_N_parseExponent_139 {post : Int32 → nf_M → Prop} (hfl : l.flags = flags0) (K : nf_K p s m args meth c "NumberForge$Numeral" nb_N_parseExponent 5 (some FieldType.boolean) D a sz) : ∀ (x2 : Int32) (x3 : Int32) (x4 : Int32) (M : nf_M) (H : Heap) (locs : List Loc) (ls : Array Slot), B_N_parseExponent_139 post x2 x3 x4 M → lv_has ls 5 [(0, .ref (a 6)), (2, .int x2), (3, .int x3), (4, .int x4)] → nf_W D a s sz H locs M → W p l e rm_N_parseExponent s m args below meth c H locs 0 0 (nf_MQ below (nf_Q nf_jI D a post ex (nf_A a sz)) args s rm_N_parseExponent.cells rm_N_parseExponent.slots (nf_A a sz)) (F0 m 139 ls []) := by
  have hx := K.1
  have hb := K.2.1
  intro x2 x3 x4 M H locs ls h hl hw
  refine lv_aload_n hx hb d_N_parseExponent_139 rfl (lv_at hl 0 rfl) ?_
  refine lv_dup hx hb d_N_parseExponent_140 rfl ?_
  refine nf_get (v := .int (mg_I M 6 6)) K hw 6 1 6 nw_89 rfl rfl ni_N (by decide) rfl rfl d_N_parseExponent_141 ?_
  refine lv_iload_n hx hb d_N_parseExponent_144 rfl (lv_at hl 1 rfl) ?_
  refine nf_if_eq hx hb d_N_parseExponent_145 (tgt := 153) (by decide) (fun hc => ?_) (fun hc => ?_)
  · have h := h.1 hc
    refine lv_iload_n hx hb d_N_parseExponent_153 rfl (lv_at hl 2 rfl) ?_
    exact w_N_parseExponent_154 hfl K x4 x3 (mg_I M 6 6) M _ _ _ h (lv_sub hl [3] rfl) hw
  · have h := h.2 hc
    refine lv_iload_n hx hb d_N_parseExponent_148 rfl (lv_at hl 2 rfl) ?_
    refine lv_ineg hx hb d_N_parseExponent_149 ?_
    refine lv_goto hx hb d_N_parseExponent_150 (tgt := 154) (by decide) ?_
    exact w_N_parseExponent_154 hfl K x4 (-x3) (mg_I M 6 6) M _ _ _ h (lv_sub hl [3] rfl) hw
theorem w_N_parseExponent_78 {post : Int32 → nf_M → Prop} (hfl : l.flags = flags0) (K : nf_K p s m args meth c "NumberForge$Numeral" nb_N_parseExponent 5 (some FieldType.boolean) D a sz) : ∀ (n : Nat) (b1 : Bool) (x2 : Int32) (x3 : Int32) (x4 : Int32) (M : nf_M) (H : Heap) (locs : List Loc) (ls : Array Slot), B_N_parseExponent_78 post n b1 x2 x3 x4 M → lv_has ls 5 [(0, .ref (a 6)), (1, .ref (a (nf_ro b1))), (2, .int x2), (3, .int x3), (4, .int x4)] → nf_W D a s sz H locs M → W p l e rm_N_parseExponent s m args below meth c H locs 0 0 (nf_MQ below (nf_Q nf_jI D a post ex (nf_A a sz)) args s rm_N_parseExponent.cells rm_N_parseExponent.slots (nf_A a sz)) (F0 m 78 ls []) := by
  have hx := K.1
  have hb := K.2.1
  intro n
  induction n with
  | zero => intro b1 x2 x3 x4 M H locs ls h hl hw; exact h.elim
  | succ n ih =>
    intro b1 x2 x3 x4 M H locs ls h hl hw
    refine lv_aload_n hx hb d_N_parseExponent_78 rfl (lv_at hl 0 rfl) ?_
    refine nf_get (v := .int (mg_I M 6 0)) K hw 6 1 0 nw_83 rfl rfl ni_N (by decide) rfl rfl d_N_parseExponent_79 ?_
    refine lv_aload_n hx hb d_N_parseExponent_82 rfl (lv_at hl 0 rfl) ?_
    refine nf_get (v := .int (mg_I M 6 1)) K hw 6 1 1 nw_84 rfl rfl ni_N (by decide) rfl rfl d_N_parseExponent_83 ?_
    refine nf_ic_ge hx hb d_N_parseExponent_86 (tgt := 139) (by decide) (fun hc => ?_) (fun hc => ?_)
    · have h := h.1 hc
      refine lv_iload hx hb d_N_parseExponent_89 (lv_at hl 4 rfl) ?_
      refine lv_iconst (v := (3 : Int32)) hx hb d_N_parseExponent_91 (by decide) ?_
      refine nf_ic_ge hx hb d_N_parseExponent_92 (tgt := 139) (by decide) (fun hc => ?_) (fun hc => ?_)
      · have h := h.1 hc
        refine lv_aload_n hx hb d_N_parseExponent_95 rfl (lv_at hl 1 rfl) ?_
        refine lv_aload_n hx hb d_N_parseExponent_96 rfl (lv_at hl 0 rfl) ?_
        refine nf_get (v := .int (mg_I M 6 0)) K hw 6 1 0 nw_83 rfl rfl ni_N (by decide) rfl rfl d_N_parseExponent_97 ?_
        refine nf_callW (ex := (fun _ _ => False)) (As := [.ref (a (nf_ro b1)), .int (mg_I M 6 0)]) (st0 := [.int (mg_I M 6 0), .ref (a (nf_ro b1))]) (rest := []) K hw (nf_invVN hx hb K.2.2.2.1 ((nf_Kr K nv_342).use rfl) (nf_Kg K nw_344) (nf_Kg K nx_R_hasDigitAt) (nf_Kg K nw_345) ⟨by decide, by decide⟩ (nf_rcv K hw (nf_ro b1) 3 (nf_heR _ _ _) rfl) rfl nl_R_hasDigitAt rfl d_N_parseExponent_100) (c_R_hasDigitAt l hfl b1 (mg_I M 6 0)) nw_345 nw_3 rfl ⟨by decide, by decide⟩ (Nat.le_of_ble_eq_true rfl) hl.1 ⟨Nat.le_of_ble_eq_true rfl, Nat.le_of_ble_eq_true rfl⟩ h (fun _ _ h => h.elim) (fun r1 M2 H locs h hw => ?_)
        refine W.eq (g2 := F0 m 103 ls [.int r1]) rfl ?_
        refine nf_if_eq hx hb d_N_parseExponent_103 (tgt := 139) (by decide) (fun hc => ?_) (fun hc => ?_)
        · have h := h.1 hc
          exact w_N_parseExponent_139 hfl K x2 x3 x4 M2 _ _ _ h (lv_sub hl [0, 2, 3, 4] rfl) hw
        · have h := h.2 hc
          refine lv_iload_n hx hb d_N_parseExponent_106 rfl (lv_at hl 3 rfl) ?_
          refine lv_bipush (v := (10 : Int32)) hx hb d_N_parseExponent_107 (by decide) ?_
          refine lv_imul hx hb d_N_parseExponent_109 ?_
          refine lv_aload_n hx hb d_N_parseExponent_110 rfl (lv_at hl 1 rfl) ?_
          refine lv_aload_n hx hb d_N_parseExponent_111 rfl (lv_at hl 0 rfl) ?_
          refine nf_get (v := .int (mg_I M2 6 0)) K hw 6 1 0 nw_83 rfl rfl ni_N (by decide) rfl rfl d_N_parseExponent_112 ?_
          refine nf_callW (ex := (fun _ _ => False)) (As := [.ref (a (nf_ro b1)), .int (mg_I M2 6 0)]) (st0 := [.int (mg_I M2 6 0), .ref (a (nf_ro b1)), .int (x3 * (10 : Int32))]) (rest := [.int (x3 * (10 : Int32))]) K hw (nf_invVN hx hb K.2.2.2.1 ((nf_Kr K nv_329).use rfl) (nf_Kg K nw_231) (nf_Kg K nx_R_at) (nf_Kg K nw_232) ⟨by decide, by decide⟩ (nf_rcv K hw (nf_ro b1) 3 (nf_heR _ _ _) rfl) rfl nl_R_at rfl d_N_parseExponent_115) (c_R_at l hfl b1 (mg_I M2 6 0)) nw_232 nw_3 rfl ⟨by decide, by decide⟩ (Nat.le_of_ble_eq_true rfl) hl.1 ⟨Nat.le_of_ble_eq_true rfl, Nat.le_of_ble_eq_true rfl⟩ h (fun _ _ h => h.elim) (fun r3 M4 H locs h hw => ?_)
          refine W.eq (g2 := F0 m 118 ls [.int r3, .int (x3 * (10 : Int32))]) rfl ?_
          refine lv_bipush (v := (48 : Int32)) hx hb d_N_parseExponent_118 (by decide) ?_
          refine lv_isub hx hb d_N_parseExponent_120 ?_
          refine lv_iadd hx hb d_N_parseExponent_121 ?_
          refine lv_topi (fun t5 et5 => ?_)
          have h := h t5 et5
          refine lv_istore_n (lv' := [(3, .int t5), (0, .ref (a 6)), (1, .ref (a (nf_ro b1))), (2, .int x2), (4, .int x4)]) hx hb d_N_parseExponent_122 rfl hl (by decide) rfl (fun ls hl => ?_)
          refine lv_iinc (k := 4) (v := x4 + (1 : Int32)) (lv' := [(4, .int (x4 + (1 : Int32))), (3, .int t5), (0, .ref (a 6)), (1, .ref (a (nf_ro b1))), (2, .int x2)]) hx hb d_N_parseExponent_123 hl rfl (nf_inc (by decide)) (by decide) rfl (fun ls hl => ?_)
          refine lv_aload_n hx hb d_N_parseExponent_126 rfl (lv_at hl 2 rfl) ?_
          refine lv_dup hx hb d_N_parseExponent_127 rfl ?_
          refine nf_get (v := .int (mg_I M4 6 0)) K hw 6 1 0 nw_83 rfl rfl ni_N (by decide) rfl rfl d_N_parseExponent_128 ?_
          refine lv_iconst (v := (1 : Int32)) hx hb d_N_parseExponent_131 (by decide) ?_
          refine lv_iadd hx hb d_N_parseExponent_132 ?_
          refine lv_topi (fun t6 et6 => ?_)
          have h := h t6 et6
          refine nf_put (M' := ms_I M4 6 0 t6) K hw 6 1 0 nw_83 rfl rfl rfl ni_N ny_N nq_N nn_N (by decide) rfl rfl rfl rfl (Nat.le_of_ble_eq_true rfl) d_N_parseExponent_133 (fun H locs hw => ?_)
          obtain ⟨M7, eM7⟩ : ∃ z, z = ms_I M4 6 0 t6 := ⟨_, rfl⟩
          rw [← eM7] at hw
          have h := h M7 eM7
          refine lv_goto hx hb d_N_parseExponent_136 (tgt := 78) (by decide) ?_
          exact ih b1 x2 t5 (x4 + (1 : Int32)) M7 _ _ _ h (lv_sub hl [2, 3, 4, 1, 0] rfl) hw
      · have h := h.2 hc
        exact w_N_parseExponent_139 hfl K x2 x3 x4 M _ _ _ h (lv_sub hl [0, 2, 3, 4] rfl) hw
    · have h := h.2 hc
      exact w_N_parseExponent_139 hfl K x2 x3 x4 M _ _ _ h (lv_sub hl [0, 2, 3, 4] rfl) hw
theorem w_N_parseExponent_67 {post : Int32 → nf_M → Prop} (hfl : l.flags = flags0) (K : nf_K p s m args meth c "NumberForge$Numeral" nb_N_parseExponent 5 (some FieldType.boolean) D a sz) : ∀ (b1 : Bool) (xy0 : Int32) (M : nf_M) (H : Heap) (locs : List Loc) (ls : Array Slot), B_N_parseExponent_67 post b1 xy0 M → lv_has ls 5 [(0, .ref (a 6)), (1, .ref (a (nf_ro b1)))] → nf_W D a s sz H locs M → W p l e rm_N_parseExponent s m args below meth c H locs 0 0 (nf_MQ below (nf_Q nf_jI D a post ex (nf_A a sz)) args s rm_N_parseExponent.cells rm_N_parseExponent.slots (nf_A a sz)) (F0 m 67 ls [.int xy0]) := by
  have hx := K.1
  have hb := K.2.1
  intro b1 xy0 M H locs ls h hl hw
  refine lv_istore_n (lv' := [(2, .int xy0), (0, .ref (a 6)), (1, .ref (a (nf_ro b1)))]) hx hb d_N_parseExponent_67 rfl hl (by decide) rfl (fun ls hl => ?_)
  refine lv_aload_n hx hb d_N_parseExponent_68 rfl (lv_at hl 1 rfl) ?_
  refine lv_aload_n hx hb d_N_parseExponent_69 rfl (lv_at hl 2 rfl) ?_
  refine nf_callW (ex := (fun _ _ => False)) (As := [.ref (a 6), .ref (a (nf_ro b1))]) (st0 := [.ref (a (nf_ro b1)), .ref (a 6)]) (rest := []) K hw (nf_invV hx hb K.2.2.2.1 (nf_Kg K nw_330) (nf_Kg K nw_332) (nf_Kg K nx_N_passSign) (nf_Kg K nw_333) ⟨by decide, by decide⟩ (nf_rcv K hw 6 1 rfl rfl) rfl nl_N_passSign rfl d_N_parseExponent_70) (c_N_passSign l hfl b1) nw_333 nw_5 rfl ⟨by decide, by decide⟩ (Nat.le_of_ble_eq_true rfl) hl.1 ⟨Nat.le_of_ble_eq_true rfl, Nat.le_of_ble_eq_true rfl⟩ h (fun _ _ h => h.elim) (fun r1 M2 H locs h hw => ?_)
  refine W.eq (g2 := F0 m 73 ls []) rfl ?_
  refine lv_iconst (v := (0 : Int32)) hx hb d_N_parseExponent_73 (by decide) ?_
  refine lv_istore_n (lv' := [(3, .int (0 : Int32)), (2, .int xy0), (0, .ref (a 6)), (1, .ref (a (nf_ro b1)))]) hx hb d_N_parseExponent_74 rfl hl (by decide) rfl (fun ls hl => ?_)
  refine lv_iconst (v := (0 : Int32)) hx hb d_N_parseExponent_75 (by decide) ?_
  refine lv_istore (lv' := [(4, .int (0 : Int32)), (3, .int (0 : Int32)), (2, .int xy0), (0, .ref (a 6)), (1, .ref (a (nf_ro b1)))]) hx hb d_N_parseExponent_76 hl (by decide) rfl (fun ls hl => ?_)
  obtain ⟨n, h⟩ := h
  exact w_N_parseExponent_78 hfl K n b1 xy0 (0 : Int32) (0 : Int32) M2 _ _ _ h (lv_sub hl [3, 4, 2, 1, 0] rfl) hw
theorem w_N_parseExponent_66 {post : Int32 → nf_M → Prop} (hfl : l.flags = flags0) (K : nf_K p s m args meth c "NumberForge$Numeral" nb_N_parseExponent 5 (some FieldType.boolean) D a sz) : ∀ (b1 : Bool) (M : nf_M) (H : Heap) (locs : List Loc) (ls : Array Slot), B_N_parseExponent_66 post b1 M → lv_has ls 5 [(0, .ref (a 6)), (1, .ref (a (nf_ro b1)))] → nf_W D a s sz H locs M → W p l e rm_N_parseExponent s m args below meth c H locs 0 0 (nf_MQ below (nf_Q nf_jI D a post ex (nf_A a sz)) args s rm_N_parseExponent.cells rm_N_parseExponent.slots (nf_A a sz)) (F0 m 66 ls []) := by
  have hx := K.1
  have hb := K.2.1
  intro b1 M H locs ls h hl hw
  refine lv_iconst (v := (0 : Int32)) hx hb d_N_parseExponent_66 (by decide) ?_
  exact w_N_parseExponent_67 hfl K b1 (0 : Int32) M _ _ _ h (lv_sub hl [0, 1] rfl) hw
theorem w_N_parseExponent_28 {post : Int32 → nf_M → Prop} (hfl : l.flags = flags0) (K : nf_K p s m args meth c "NumberForge$Numeral" nb_N_parseExponent 5 (some FieldType.boolean) D a sz) : ∀ (b1 : Bool) (M : nf_M) (H : Heap) (locs : List Loc) (ls : Array Slot), B_N_parseExponent_28 post b1 M → lv_has ls 5 [(0, .ref (a 6)), (1, .ref (a (nf_ro b1)))] → nf_W D a s sz H locs M → W p l e rm_N_parseExponent s m args below meth c H locs 0 0 (nf_MQ below (nf_Q nf_jI D a post ex (nf_A a sz)) args s rm_N_parseExponent.cells rm_N_parseExponent.slots (nf_A a sz)) (F0 m 28 ls []) := by
  have hx := K.1
  have hb := K.2.1
  intro b1 M H locs ls h hl hw
  refine lv_aload_n hx hb d_N_parseExponent_28 rfl (lv_at hl 0 rfl) ?_
  refine lv_dup hx hb d_N_parseExponent_29 rfl ?_
  refine nf_get (v := .int (mg_I M 6 0)) K hw 6 1 0 nw_83 rfl rfl ni_N (by decide) rfl rfl d_N_parseExponent_30 ?_
  refine lv_iconst (v := (1 : Int32)) hx hb d_N_parseExponent_33 (by decide) ?_
  refine lv_iadd hx hb d_N_parseExponent_34 ?_
  refine lv_topi (fun t1 et1 => ?_)
  have h := h t1 et1
  refine nf_put (M' := ms_I M 6 0 t1) K hw 6 1 0 nw_83 rfl rfl rfl ni_N ny_N nq_N nn_N (by decide) rfl rfl rfl rfl (Nat.le_of_ble_eq_true rfl) d_N_parseExponent_35 (fun H locs hw => ?_)
  obtain ⟨M2, eM2⟩ : ∃ z, z = ms_I M 6 0 t1 := ⟨_, rfl⟩
  rw [← eM2] at hw
  have h := h M2 eM2
  refine lv_aload_n hx hb d_N_parseExponent_38 rfl (lv_at hl 0 rfl) ?_
  refine nf_get (v := .int (mg_I M2 6 0)) K hw 6 1 0 nw_83 rfl rfl ni_N (by decide) rfl rfl d_N_parseExponent_39 ?_
  refine lv_aload_n hx hb d_N_parseExponent_42 rfl (lv_at hl 0 rfl) ?_
  refine nf_get (v := .int (mg_I M2 6 1)) K hw 6 1 1 nw_84 rfl rfl ni_N (by decide) rfl rfl d_N_parseExponent_43 ?_
  refine nf_ic_ge hx hb d_N_parseExponent_46 (tgt := 66) (by decide) (fun hc => ?_) (fun hc => ?_)
  · have h := h.1 hc
    refine lv_aload_n hx hb d_N_parseExponent_49 rfl (lv_at hl 1 rfl) ?_
    refine lv_aload_n hx hb d_N_parseExponent_50 rfl (lv_at hl 0 rfl) ?_
    refine nf_get (v := .int (mg_I M2 6 0)) K hw 6 1 0 nw_83 rfl rfl ni_N (by decide) rfl rfl d_N_parseExponent_51 ?_
    refine nf_callW (ex := (fun _ _ => False)) (As := [.ref (a (nf_ro b1)), .int (mg_I M2 6 0)]) (st0 := [.int (mg_I M2 6 0), .ref (a (nf_ro b1))]) (rest := []) K hw (nf_invVN hx hb K.2.2.2.1 ((nf_Kr K nv_329).use rfl) (nf_Kg K nw_231) (nf_Kg K nx_R_at) (nf_Kg K nw_232) ⟨by decide, by decide⟩ (nf_rcv K hw (nf_ro b1) 3 (nf_heR _ _ _) rfl) rfl nl_R_at rfl d_N_parseExponent_54) (c_R_at l hfl b1 (mg_I M2 6 0)) nw_232 nw_3 rfl ⟨by decide, by decide⟩ (Nat.le_of_ble_eq_true rfl) hl.1 ⟨Nat.le_of_ble_eq_true rfl, Nat.le_of_ble_eq_true rfl⟩ h (fun _ _ h => h.elim) (fun r3 M4 H locs h hw => ?_)
    refine W.eq (g2 := F0 m 57 ls [.int r3]) rfl ?_
    refine lv_bipush (v := (45 : Int32)) hx hb d_N_parseExponent_57 (by decide) ?_
    refine nf_ic_ne hx hb d_N_parseExponent_59 (tgt := 66) (by decide) (fun hc => ?_) (fun hc => ?_)
    · have h := h.1 hc
      refine lv_iconst (v := (1 : Int32)) hx hb d_N_parseExponent_62 (by decide) ?_
      refine lv_goto hx hb d_N_parseExponent_63 (tgt := 67) (by decide) ?_
      exact w_N_parseExponent_67 hfl K b1 (1 : Int32) M4 _ _ _ h (lv_sub hl [0, 1] rfl) hw
    · have h := h.2 hc
      exact w_N_parseExponent_66 hfl K b1 M4 _ _ _ h (lv_sub hl [0, 1] rfl) hw
  · have h := h.2 hc
    exact w_N_parseExponent_66 hfl K b1 M2 _ _ _ h (lv_sub hl [0, 1] rfl) hw
theorem c_N_parseExponent (l : Launch) (hfl : l.flags = flags0) (b1 : Bool) : nf_C nf_jI l nm_N_parseExponent nb_N_parseExponent 5 (some FieldType.boolean) rm_N_parseExponent (fun a => [.ref (a 6), .ref (a (nf_ro b1))]) (fun M post ex => P_N_parseExponent b1 M post) := by
  refine nf_start (plainFor_of_name (by decide +kernel)) (fun a => Nat.le_of_ble_eq_true rfl) ?_
  intro D a sz M post ex p e s m below meth c ls h K hl hw
  have hx := K.1
  have hb := K.2.1
  have hl : lv_has ls 5 [(0, .ref (a 6)), (1, .ref (a (nf_ro b1)))] := hl
  refine lv_aload_n hx hb d_N_parseExponent_0 rfl (lv_at hl 1 rfl) ?_
  refine lv_aload_n hx hb d_N_parseExponent_1 rfl (lv_at hl 0 rfl) ?_
  refine nf_get (v := .int (mg_I M 6 0)) K hw 6 1 0 nw_83 rfl rfl ni_N (by decide) rfl rfl d_N_parseExponent_2 ?_
  refine nf_callW (ex := (fun _ _ => False)) (As := [.ref (a (nf_ro b1)), .int (mg_I M 6 0)]) (st0 := [.int (mg_I M 6 0), .ref (a (nf_ro b1))]) (rest := []) K hw (nf_invVN hx hb K.2.2.2.1 ((nf_Kr K nv_329).use rfl) (nf_Kg K nw_231) (nf_Kg K nx_R_at) (nf_Kg K nw_232) ⟨by decide, by decide⟩ (nf_rcv K hw (nf_ro b1) 3 (nf_heR _ _ _) rfl) rfl nl_R_at rfl d_N_parseExponent_5) (c_R_at l hfl b1 (mg_I M 6 0)) nw_232 nw_3 rfl ⟨by decide, by decide⟩ (Nat.le_of_ble_eq_true rfl) hl.1 ⟨Nat.le_of_ble_eq_true rfl, Nat.le_of_ble_eq_true rfl⟩ h (fun _ _ h => h.elim) (fun r1 M2 H locs h hw => ?_)
  refine W.eq (g2 := F0 m 8 ls [.int r1]) rfl ?_
  refine lv_bipush (v := (101 : Int32)) hx hb d_N_parseExponent_8 (by decide) ?_
  refine nf_ic_eq hx hb d_N_parseExponent_10 (tgt := 28) (by decide) (fun hc => ?_) (fun hc => ?_)
  · have h := h.1 hc
    exact w_N_parseExponent_28 hfl K b1 M2 _ _ _ h (lv_sub hl [0, 1] rfl) hw
  · have h := h.2 hc
    refine lv_aload_n hx hb d_N_parseExponent_13 rfl (lv_at hl 1 rfl) ?_
    refine lv_aload_n hx hb d_N_parseExponent_14 rfl (lv_at hl 0 rfl) ?_
    refine nf_get (v := .int (mg_I M2 6 0)) K hw 6 1 0 nw_83 rfl rfl ni_N (by decide) rfl rfl d_N_parseExponent_15 ?_
    refine nf_callW (ex := (fun _ _ => False)) (As := [.ref (a (nf_ro b1)), .int (mg_I M2 6 0)]) (st0 := [.int (mg_I M2 6 0), .ref (a (nf_ro b1))]) (rest := []) K hw (nf_invVN hx hb K.2.2.2.1 ((nf_Kr K nv_329).use rfl) (nf_Kg K nw_231) (nf_Kg K nx_R_at) (nf_Kg K nw_232) ⟨by decide, by decide⟩ (nf_rcv K hw (nf_ro b1) 3 (nf_heR _ _ _) rfl) rfl nl_R_at rfl d_N_parseExponent_18) (c_R_at l hfl b1 (mg_I M2 6 0)) nw_232 nw_3 rfl ⟨by decide, by decide⟩ (Nat.le_of_ble_eq_true rfl) hl.1 ⟨Nat.le_of_ble_eq_true rfl, Nat.le_of_ble_eq_true rfl⟩ h (fun _ _ h => h.elim) (fun r3 M4 H locs h hw => ?_)
    refine W.eq (g2 := F0 m 21 ls [.int r3]) rfl ?_
    refine lv_bipush (v := (69 : Int32)) hx hb d_N_parseExponent_21 (by decide) ?_
    refine nf_ic_eq hx hb d_N_parseExponent_23 (tgt := 28) (by decide) (fun hc => ?_) (fun hc => ?_)
    · have h := h.1 hc
      exact w_N_parseExponent_28 hfl K b1 M4 _ _ _ h (lv_sub hl [0, 1] rfl) hw
    · have h := h.2 hc
      refine lv_iconst (v := (0 : Int32)) hx hb d_N_parseExponent_26 (by decide) ?_
      exact nf_iret K hw d_N_parseExponent_27 rfl (Nat.le_of_ble_eq_true rfl) (Nat.le_of_ble_eq_true rfl) (r := (0 : Int32)) rfl h
theorem d_N_parse_0 : decode nb_N_parse 0 = .ok (.aload_n 0, 1) := by decide +kernel
theorem d_N_parse_1 : decode nb_N_parse 1 = .ok (.aload_n 1, 1) := by decide +kernel
theorem d_N_parse_2 : decode nb_N_parse 2 = .ok (.invokevirtual 9, 3) := by decide +kernel
theorem d_N_parse_5 : decode nb_N_parse 5 = .ok (.aload_n 0, 1) := by decide +kernel
theorem d_N_parse_6 : decode nb_N_parse 6 = .ok (.aload_n 0, 1) := by decide +kernel
theorem d_N_parse_7 : decode nb_N_parse 7 = .ok (.getfield 15, 3) := by decide +kernel
theorem d_N_parse_10 : decode nb_N_parse 10 = .ok (.aload_n 0, 1) := by decide +kernel
theorem d_N_parse_11 : decode nb_N_parse 11 = .ok (.getfield 19, 3) := by decide +kernel
theorem d_N_parse_14 : decode nb_N_parse 14 = .ok (.if_icmp .ge 20, 3) := by decide +kernel
theorem d_N_parse_17 : decode nb_N_parse 17 = .ok (.aload_n 1, 1) := by decide +kernel
theorem d_N_parse_18 : decode nb_N_parse 18 = .ok (.aload_n 0, 1) := by decide +kernel
theorem d_N_parse_19 : decode nb_N_parse 19 = .ok (.getfield 15, 3) := by decide +kernel
theorem d_N_parse_22 : decode nb_N_parse 22 = .ok (.invokevirtual 22, 3) := by decide +kernel
theorem d_N_parse_25 : decode nb_N_parse 25 = .ok (.bipush 45, 2) := by decide +kernel
theorem d_N_parse_27 : decode nb_N_parse 27 = .ok (.if_icmp .ne 7, 3) := by decide +kernel
theorem d_N_parse_30 : decode nb_N_parse 30 = .ok (.iconst 1, 1) := by decide +kernel
theorem d_N_parse_31 : decode nb_N_parse 31 = .ok (.goto 4, 3) := by decide +kernel
theorem d_N_parse_34 : decode nb_N_parse 34 = .ok (.iconst 0, 1) := by decide +kernel
theorem d_N_parse_35 : decode nb_N_parse 35 = .ok (.putfield 27, 3) := by decide +kernel
theorem d_N_parse_38 : decode nb_N_parse 38 = .ok (.aload_n 0, 1) := by decide +kernel
theorem d_N_parse_39 : decode nb_N_parse 39 = .ok (.aload_n 1, 1) := by decide +kernel
theorem d_N_parse_40 : decode nb_N_parse 40 = .ok (.invokevirtual 31, 3) := by decide +kernel
theorem d_N_parse_43 : decode nb_N_parse 43 = .ok (.aload_n 0, 1) := by decide +kernel
theorem d_N_parse_44 : decode nb_N_parse 44 = .ok (.iload_n 2, 1) := by decide +kernel
theorem d_N_parse_45 : decode nb_N_parse 45 = .ok (.bipush 8, 2) := by decide +kernel
theorem d_N_parse_47 : decode nb_N_parse 47 = .ok (.if_icmp .lt 15, 3) := by decide +kernel
theorem d_N_parse_50 : decode nb_N_parse 50 = .ok (.aload_n 0, 1) := by decide +kernel
theorem d_N_parse_51 : decode nb_N_parse 51 = .ok (.aload_n 1, 1) := by decide +kernel
theorem d_N_parse_52 : decode nb_N_parse 52 = .ok (.invokevirtual 34, 3) := by decide +kernel
theorem d_N_parse_55 : decode nb_N_parse 55 = .ok (.ifCond .eq 7, 3) := by decide +kernel
theorem d_N_parse_58 : decode nb_N_parse 58 = .ok (.iconst 1, 1) := by decide +kernel
theorem d_N_parse_59 : decode nb_N_parse 59 = .ok (.goto 4, 3) := by decide +kernel
theorem d_N_parse_62 : decode nb_N_parse 62 = .ok (.iconst 0, 1) := by decide +kernel
theorem d_N_parse_63 : decode nb_N_parse 63 = .ok (.putfield 38, 3) := by decide +kernel
theorem d_N_parse_66 : decode nb_N_parse 66 = .ok (.aload_n 0, 1) := by decide +kernel
theorem d_N_parse_67 : decode nb_N_parse 67 = .ok (.getfield 38, 3) := by decide +kernel
theorem d_N_parse_70 : decode nb_N_parse 70 = .ok (.ifCond .eq 5, 3) := by decide +kernel
theorem d_N_parse_73 : decode nb_N_parse 73 = .ok (.iconst 1, 1) := by decide +kernel
theorem d_N_parse_74 : decode nb_N_parse 74 = .ok (.ireturn, 1) := by decide +kernel
theorem d_N_parse_75 : decode nb_N_parse 75 = .ok (.aload_n 0, 1) := by decide +kernel
theorem d_N_parse_76 : decode nb_N_parse 76 = .ok (.aload_n 1, 1) := by decide +kernel
theorem d_N_parse_77 : decode nb_N_parse 77 = .ok (.iload_n 2, 1) := by decide +kernel
theorem d_N_parse_78 : decode nb_N_parse 78 = .ok (.iconst 1, 1) := by decide +kernel
theorem d_N_parse_79 : decode nb_N_parse 79 = .ok (.if_icmp .lt 9, 3) := by decide +kernel
theorem d_N_parse_82 : decode nb_N_parse 82 = .ok (.iload_n 2, 1) := by decide +kernel
theorem d_N_parse_83 : decode nb_N_parse 83 = .ok (.bipush 8, 2) := by decide +kernel
theorem d_N_parse_85 : decode nb_N_parse 85 = .ok (.if_icmp .lt 7, 3) := by decide +kernel
theorem d_N_parse_88 : decode nb_N_parse 88 = .ok (.iconst 1, 1) := by decide +kernel
theorem d_N_parse_89 : decode nb_N_parse 89 = .ok (.goto 4, 3) := by decide +kernel
theorem d_N_parse_92 : decode nb_N_parse 92 = .ok (.iconst 0, 1) := by decide +kernel
theorem d_N_parse_93 : decode nb_N_parse 93 = .ok (.invokevirtual 41, 3) := by decide +kernel
theorem d_N_parse_96 : decode nb_N_parse 96 = .ok (.istore_n 3, 1) := by decide +kernel
theorem d_N_parse_97 : decode nb_N_parse 97 = .ok (.iload_n 3, 1) := by decide +kernel
theorem d_N_parse_98 : decode nb_N_parse 98 = .ok (.ifCond .eq 26, 3) := by decide +kernel
theorem d_N_parse_101 : decode nb_N_parse 101 = .ok (.iload_n 2, 1) := by decide +kernel
theorem d_N_parse_102 : decode nb_N_parse 102 = .ok (.bipush 8, 2) := by decide +kernel
theorem d_N_parse_104 : decode nb_N_parse 104 = .ok (.if_icmp .lt 20, 3) := by decide +kernel
theorem d_N_parse_107 : decode nb_N_parse 107 = .ok (.aload_n 0, 1) := by decide +kernel
theorem d_N_parse_108 : decode nb_N_parse 108 = .ok (.getfield 15, 3) := by decide +kernel
theorem d_N_parse_111 : decode nb_N_parse 111 = .ok (.aload_n 0, 1) := by decide +kernel
theorem d_N_parse_112 : decode nb_N_parse 112 = .ok (.getfield 19, 3) := by decide +kernel
theorem d_N_parse_115 : decode nb_N_parse 115 = .ok (.if_icmp .ge 9, 3) := by decide +kernel
theorem d_N_parse_118 : decode nb_N_parse 118 = .ok (.aload_n 0, 1) := by decide +kernel
theorem d_N_parse_119 : decode nb_N_parse 119 = .ok (.aload_n 1, 1) := by decide +kernel
theorem d_N_parse_120 : decode nb_N_parse 120 = .ok (.invokevirtual 45, 3) := by decide +kernel
theorem d_N_parse_123 : decode nb_N_parse 123 = .ok (.istore_n 3, 1) := by decide +kernel
theorem d_N_parse_124 : decode nb_N_parse 124 = .ok (.iload_n 3, 1) := by decide +kernel
theorem d_N_parse_125 : decode nb_N_parse 125 = .ok (.ifCond .eq 18, 3) := by decide +kernel
theorem d_N_parse_128 : decode nb_N_parse 128 = .ok (.aload_n 0, 1) := by decide +kernel
theorem d_N_parse_129 : decode nb_N_parse 129 = .ok (.getfield 15, 3) := by decide +kernel
theorem d_N_parse_132 : decode nb_N_parse 132 = .ok (.aload_n 0, 1) := by decide +kernel
theorem d_N_parse_133 : decode nb_N_parse 133 = .ok (.getfield 19, 3) := by decide +kernel
theorem d_N_parse_136 : decode nb_N_parse 136 = .ok (.if_icmp .ne 7, 3) := by decide +kernel
theorem d_N_parse_139 : decode nb_N_parse 139 = .ok (.iconst 1, 1) := by decide +kernel
theorem d_N_parse_140 : decode nb_N_parse 140 = .ok (.goto 4, 3) := by decide +kernel
theorem d_N_parse_143 : decode nb_N_parse 143 = .ok (.iconst 0, 1) := by decide +kernel
theorem d_N_parse_144 : decode nb_N_parse 144 = .ok (.ireturn, 1) := by decide +kernel
abbrev rm_N_parse : Room := ({ frames := 3, cells := 0, slots := 0, locals := 67 })
theorem w_N_parse_144 {post : Int32 → nf_M → Prop} (hfl : l.flags = flags0) (K : nf_K p s m args meth c "NumberForge$Numeral" nb_N_parse 4 (some FieldType.boolean) D a sz) : ∀ (xy0 : Int32) (M : nf_M) (H : Heap) (locs : List Loc) (ls : Array Slot), B_N_parse_144 post xy0 M → lv_has ls 4 [] → nf_W D a s sz H locs M → W p l e rm_N_parse s m args below meth c H locs 0 0 (nf_MQ below (nf_Q nf_jI D a post ex (nf_A a sz)) args s rm_N_parse.cells rm_N_parse.slots (nf_A a sz)) (F0 m 144 ls [.int xy0]) := by
  have hx := K.1
  have hb := K.2.1
  intro xy0 M H locs ls h hl hw
  obtain ⟨g1, h⟩ := h
  exact nf_iret K hw d_N_parse_144 g1 (Nat.le_of_ble_eq_true rfl) (Nat.le_of_ble_eq_true rfl) (r := xy0) rfl h
theorem w_N_parse_143 {post : Int32 → nf_M → Prop} (hfl : l.flags = flags0) (K : nf_K p s m args meth c "NumberForge$Numeral" nb_N_parse 4 (some FieldType.boolean) D a sz) : ∀ (M : nf_M) (H : Heap) (locs : List Loc) (ls : Array Slot), B_N_parse_143 post  M → lv_has ls 4 [] → nf_W D a s sz H locs M → W p l e rm_N_parse s m args below meth c H locs 0 0 (nf_MQ below (nf_Q nf_jI D a post ex (nf_A a sz)) args s rm_N_parse.cells rm_N_parse.slots (nf_A a sz)) (F0 m 143 ls []) := by
  have hx := K.1
  have hb := K.2.1
  intro  M H locs ls h hl hw
  refine lv_iconst (v := (0 : Int32)) hx hb d_N_parse_143 (by decide) ?_
  exact w_N_parse_144 hfl K (0 : Int32) M _ _ _ h (lv_sub hl [] rfl) hw
theorem w_N_parse_124 {post : Int32 → nf_M → Prop} (hfl : l.flags = flags0) (K : nf_K p s m args meth c "NumberForge$Numeral" nb_N_parse 4 (some FieldType.boolean) D a sz) : ∀ (x3 : Int32) (M : nf_M) (H : Heap) (locs : List Loc) (ls : Array Slot), B_N_parse_124 post x3 M → lv_has ls 4 [(0, .ref (a 6)), (3, .int x3)] → nf_W D a s sz H locs M → W p l e rm_N_parse s m args below meth c H locs 0 0 (nf_MQ below (nf_Q nf_jI D a post ex (nf_A a sz)) args s rm_N_parse.cells rm_N_parse.slots (nf_A a sz)) (F0 m 124 ls []) := by
  have hx := K.1
  have hb := K.2.1
  intro x3 M H locs ls h hl hw
  refine lv_iload_n hx hb d_N_parse_124 rfl (lv_at hl 1 rfl) ?_
  refine nf_if_eq hx hb d_N_parse_125 (tgt := 143) (by decide) (fun hc => ?_) (fun hc => ?_)
  · have h := h.1 hc
    exact w_N_parse_143 hfl K  M _ _ _ h (lv_sub hl [] rfl) hw
  · have h := h.2 hc
    refine lv_aload_n hx hb d_N_parse_128 rfl (lv_at hl 0 rfl) ?_
    refine nf_get (v := .int (mg_I M 6 0)) K hw 6 1 0 nw_83 rfl rfl ni_N (by decide) rfl rfl d_N_parse_129 ?_
    refine lv_aload_n hx hb d_N_parse_132 rfl (lv_at hl 0 rfl) ?_
    refine nf_get (v := .int (mg_I M 6 1)) K hw 6 1 1 nw_84 rfl rfl ni_N (by decide) rfl rfl d_N_parse_133 ?_
    refine nf_ic_ne hx hb d_N_parse_136 (tgt := 143) (by decide) (fun hc => ?_) (fun hc => ?_)
    · have h := h.1 hc
      refine lv_iconst (v := (1 : Int32)) hx hb d_N_parse_139 (by decide) ?_
      refine lv_goto hx hb d_N_parse_140 (tgt := 144) (by decide) ?_
      exact w_N_parse_144 hfl K (1 : Int32) M _ _ _ h (lv_sub hl [] rfl) hw
    · have h := h.2 hc
      exact w_N_parse_143 hfl K  M _ _ _ h (lv_sub hl [] rfl) hw
theorem w_N_parse_93 {post : Int32 → nf_M → Prop} (hfl : l.flags = flags0) (K : nf_K p s m args meth c "NumberForge$Numeral" nb_N_parse 4 (some FieldType.boolean) D a sz) : ∀ (b1 : Bool) (x2 : Int32) (xy0 : Int32) (by1 : Bool) (M : nf_M) (H : Heap) (locs : List Loc) (ls : Array Slot), B_N_parse_93 post b1 x2 xy0 by1 M → lv_has ls 4 [(0, .ref (a 6)), (1, .ref (a (nf_ro b1))), (2, .int x2)] → nf_W D a s sz H locs M → W p l e rm_N_parse s m args below meth c H locs 0 0 (nf_MQ below (nf_Q nf_jI D a post ex (nf_A a sz)) args s rm_N_parse.cells rm_N_parse.slots (nf_A a sz)) (F0 m 93 ls [.int xy0, .ref (a (nf_ro by1)), .ref (a 6)]) := by
  have hx := K.1
  have hb := K.2.1
  intro b1 x2 xy0 by1 M H locs ls h hl hw
  refine nf_callW (ex := (fun _ _ => False)) (As := [.ref (a 6), .ref (a (nf_ro by1)), .int xy0]) (st0 := [.int xy0, .ref (a (nf_ro by1)), .ref (a 6)]) (rest := []) K hw (nf_invV hx hb K.2.2.2.1 (nf_Kg K nw_338) (nf_Kg K nw_340) (nf_Kg K nx_N_parseDigits) (nf_Kg K nw_341) ⟨by decide, by decide⟩ (nf_rcv K hw 6 1 rfl rfl) rfl nl_N_parseDigits rfl d_N_parse_93) (c_N_parseDigits l hfl by1 xy0) nw_341 nw_5 rfl ⟨by decide, by decide⟩ (Nat.le_of_ble_eq_true rfl) hl.1 ⟨Nat.le_of_ble_eq_true rfl, Nat.le_of_ble_eq_true rfl⟩ h (fun _ _ h => h.elim) (fun r1 M2 H locs h hw => ?_)
  refine W.eq (g2 := F0 m 96 ls [.int r1]) rfl ?_
  refine lv_istore_n (lv' := [(3, .int r1), (0, .ref (a 6)), (1, .ref (a (nf_ro b1))), (2, .int x2)]) hx hb d_N_parse_96 rfl hl (by decide) rfl (fun ls hl => ?_)
  refine lv_iload_n hx hb d_N_parse_97 rfl (lv_at hl 0 rfl) ?_
  refine nf_if_eq hx hb d_N_parse_98 (tgt := 124) (by decide) (fun hc => ?_) (fun hc => ?_)
  · have h := h.1 hc
    exact w_N_parse_124 hfl K r1 M2 _ _ _ h (lv_sub hl [1, 0] rfl) hw
  · have h := h.2 hc
    refine lv_iload_n hx hb d_N_parse_101 rfl (lv_at hl 3 rfl) ?_
    refine lv_bipush (v := (8 : Int32)) hx hb d_N_parse_102 (by decide) ?_
    refine nf_ic_lt hx hb d_N_parse_104 (tgt := 124) (by decide) (fun hc => ?_) (fun hc => ?_)
    · have h := h.1 hc
      exact w_N_parse_124 hfl K r1 M2 _ _ _ h (lv_sub hl [1, 0] rfl) hw
    · have h := h.2 hc
      refine lv_aload_n hx hb d_N_parse_107 rfl (lv_at hl 1 rfl) ?_
      refine nf_get (v := .int (mg_I M2 6 0)) K hw 6 1 0 nw_83 rfl rfl ni_N (by decide) rfl rfl d_N_parse_108 ?_
      refine lv_aload_n hx hb d_N_parse_111 rfl (lv_at hl 1 rfl) ?_
      refine nf_get (v := .int (mg_I M2 6 1)) K hw 6 1 1 nw_84 rfl rfl ni_N (by decide) rfl rfl d_N_parse_112 ?_
      refine nf_ic_ge hx hb d_N_parse_115 (tgt := 124) (by decide) (fun hc => ?_) (fun hc => ?_)
      · have h := h.1 hc
        refine lv_aload_n hx hb d_N_parse_118 rfl (lv_at hl 1 rfl) ?_
        refine lv_aload_n hx hb d_N_parse_119 rfl (lv_at hl 2 rfl) ?_
        refine nf_callW (ex := (fun _ _ => False)) (As := [.ref (a 6), .ref (a (nf_ro b1))]) (st0 := [.ref (a (nf_ro b1)), .ref (a 6)]) (rest := []) K hw (nf_invV hx hb K.2.2.2.1 (nf_Kg K nw_356) (nf_Kg K nw_358) (nf_Kg K nx_N_parseExponent) (nf_Kg K nw_359) ⟨by decide, by decide⟩ (nf_rcv K hw 6 1 rfl rfl) rfl nl_N_parseExponent rfl d_N_parse_120) (c_N_parseExponent l hfl b1) nw_359 nw_5 rfl ⟨by decide, by decide⟩ (Nat.le_of_ble_eq_true rfl) hl.1 ⟨Nat.le_of_ble_eq_true rfl, Nat.le_of_ble_eq_true rfl⟩ h (fun _ _ h => h.elim) (fun r3 M4 H locs h hw => ?_)
        refine W.eq (g2 := F0 m 123 ls [.int r3]) rfl ?_
        refine lv_istore_n (lv' := [(3, .int r3), (0, .ref (a 6)), (1, .ref (a (nf_ro b1))), (2, .int x2)]) hx hb d_N_parse_123 rfl hl (by decide) rfl (fun ls hl => ?_)
        exact w_N_parse_124 hfl K r3 M4 _ _ _ h (lv_sub hl [1, 0] rfl) hw
      · have h := h.2 hc
        exact w_N_parse_124 hfl K r1 M2 _ _ _ h (lv_sub hl [1, 0] rfl) hw
theorem w_N_parse_88 {post : Int32 → nf_M → Prop} (hfl : l.flags = flags0) (K : nf_K p s m args meth c "NumberForge$Numeral" nb_N_parse 4 (some FieldType.boolean) D a sz) : ∀ (b1 : Bool) (x2 : Int32) (by0 : Bool) (M : nf_M) (H : Heap) (locs : List Loc) (ls : Array Slot), B_N_parse_88 post b1 x2 by0 M → lv_has ls 4 [(0, .ref (a 6)), (1, .ref (a (nf_ro b1))), (2, .int x2)] → nf_W D a s sz H locs M → W p l e rm_N_parse s m args below meth c H locs 0 0 (nf_MQ below (nf_Q nf_jI D a post ex (nf_A a sz)) args s rm_N_parse.cells rm_N_parse.slots (nf_A a sz)) (F0 m 88 ls [.ref (a (nf_ro by0)), .ref (a 6)]) := by
  have hx := K.1
  have hb := K.2.1
  intro b1 x2 by0 M H locs ls h hl hw
  refine lv_iconst (v := (1 : Int32)) hx hb d_N_parse_88 (by decide) ?_
  refine lv_goto hx hb d_N_parse_89 (tgt := 93) (by decide) ?_
  exact w_N_parse_93 hfl K b1 x2 (1 : Int32) by0 M _ _ _ h (lv_sub hl [0, 1, 2] rfl) hw
theorem w_N_parse_63 {post : Int32 → nf_M → Prop} (hfl : l.flags = flags0) (K : nf_K p s m args meth c "NumberForge$Numeral" nb_N_parse 4 (some FieldType.boolean) D a sz) : ∀ (b1 : Bool) (x2 : Int32) (xy0 : Int32) (M : nf_M) (H : Heap) (locs : List Loc) (ls : Array Slot), B_N_parse_63 post b1 x2 xy0 M → lv_has ls 4 [(0, .ref (a 6)), (1, .ref (a (nf_ro b1))), (2, .int x2)] → nf_W D a s sz H locs M → W p l e rm_N_parse s m args below meth c H locs 0 0 (nf_MQ below (nf_Q nf_jI D a post ex (nf_A a sz)) args s rm_N_parse.cells rm_N_parse.slots (nf_A a sz)) (F0 m 63 ls [.int xy0, .ref (a 6)]) := by
  have hx := K.1
  have hb := K.2.1
  intro b1 x2 xy0 M H locs ls h hl hw
  obtain ⟨g1, h⟩ := h
  refine nf_put (M' := ms_I M 6 3 xy0) K hw 6 1 3 nw_86 rfl rfl rfl ni_N ny_N nq_N nn_N (by decide) rfl rfl g1.1 g1.2 (Nat.le_of_ble_eq_true rfl) d_N_parse_63 (fun H locs hw => ?_)
  obtain ⟨M2, eM2⟩ : ∃ z, z = ms_I M 6 3 xy0 := ⟨_, rfl⟩
  rw [← eM2] at hw
  have h := h M2 eM2
  refine lv_aload_n hx hb d_N_parse_66 rfl (lv_at hl 0 rfl) ?_
  refine nf_get (v := .int (mg_I M2 6 3)) K hw 6 1 3 nw_86 rfl rfl ni_N (by decide) rfl rfl d_N_parse_67 ?_
  refine nf_if_eq hx hb d_N_parse_70 (tgt := 75) (by decide) (fun hc => ?_) (fun hc => ?_)
  · have h := h.1 hc
    refine lv_aload_n hx hb d_N_parse_75 rfl (lv_at hl 0 rfl) ?_
    refine lv_aload_n hx hb d_N_parse_76 rfl (lv_at hl 1 rfl) ?_
    refine lv_iload_n hx hb d_N_parse_77 rfl (lv_at hl 2 rfl) ?_
    refine lv_iconst (v := (1 : Int32)) hx hb d_N_parse_78 (by decide) ?_
    refine nf_ic_lt hx hb d_N_parse_79 (tgt := 88) (by decide) (fun hc => ?_) (fun hc => ?_)
    · have h := h.1 hc
      exact w_N_parse_88 hfl K b1 x2 b1 M2 _ _ _ h (lv_sub hl [0, 1, 2] rfl) hw
    · have h := h.2 hc
      refine lv_iload_n hx hb d_N_parse_82 rfl (lv_at hl 2 rfl) ?_
      refine lv_bipush (v := (8 : Int32)) hx hb d_N_parse_83 (by decide) ?_
      refine nf_ic_lt hx hb d_N_parse_85 (tgt := 92) (by decide) (fun hc => ?_) (fun hc => ?_)
      · have h := h.1 hc
        refine lv_iconst (v := (0 : Int32)) hx hb d_N_parse_92 (by decide) ?_
        exact w_N_parse_93 hfl K b1 x2 (0 : Int32) b1 M2 _ _ _ h (lv_sub hl [0, 1, 2] rfl) hw
      · have h := h.2 hc
        exact w_N_parse_88 hfl K b1 x2 b1 M2 _ _ _ h (lv_sub hl [0, 1, 2] rfl) hw
  · have h := h.2 hc
    refine lv_iconst (v := (1 : Int32)) hx hb d_N_parse_73 (by decide) ?_
    exact nf_iret K hw d_N_parse_74 rfl (Nat.le_of_ble_eq_true rfl) (Nat.le_of_ble_eq_true rfl) (r := (1 : Int32)) rfl h
theorem w_N_parse_62 {post : Int32 → nf_M → Prop} (hfl : l.flags = flags0) (K : nf_K p s m args meth c "NumberForge$Numeral" nb_N_parse 4 (some FieldType.boolean) D a sz) : ∀ (b1 : Bool) (x2 : Int32) (M : nf_M) (H : Heap) (locs : List Loc) (ls : Array Slot), B_N_parse_62 post b1 x2 M → lv_has ls 4 [(0, .ref (a 6)), (1, .ref (a (nf_ro b1))), (2, .int x2)] → nf_W D a s sz H locs M → W p l e rm_N_parse s m args below meth c H locs 0 0 (nf_MQ below (nf_Q nf_jI D a post ex (nf_A a sz)) args s rm_N_parse.cells rm_N_parse.slots (nf_A a sz)) (F0 m 62 ls [.ref (a 6)]) := by
  have hx := K.1
  have hb := K.2.1
  intro b1 x2 M H locs ls h hl hw
  refine lv_iconst (v := (0 : Int32)) hx hb d_N_parse_62 (by decide) ?_
  exact w_N_parse_63 hfl K b1 x2 (0 : Int32) M _ _ _ h (lv_sub hl [0, 1, 2] rfl) hw
theorem w_N_parse_35 {post : Int32 → nf_M → Prop} (hfl : l.flags = flags0) (K : nf_K p s m args meth c "NumberForge$Numeral" nb_N_parse 4 (some FieldType.boolean) D a sz) : ∀ (b1 : Bool) (x2 : Int32) (xy0 : Int32) (M : nf_M) (H : Heap) (locs : List Loc) (ls : Array Slot), B_N_parse_35 post b1 x2 xy0 M → lv_has ls 4 [(0, .ref (a 6)), (1, .ref (a (nf_ro b1))), (2, .int x2)] → nf_W D a s sz H locs M → W p l e rm_N_parse s m args below meth c H locs 0 0 (nf_MQ below (nf_Q nf_jI D a post ex (nf_A a sz)) args s rm_N_parse.cells rm_N_parse.slots (nf_A a sz)) (F0 m 35 ls [.int xy0, .ref (a 6)]) := by
  have hx := K.1
  have hb := K.2.1
  intro b1 x2 xy0 M H locs ls h hl hw
  obtain ⟨g1, h⟩ := h
  refine nf_put (M' := ms_I M 6 2 xy0) K hw 6 1 2 nw_85 rfl rfl rfl ni_N ny_N nq_N nn_N (by decide) rfl rfl g1.1 g1.2 (Nat.le_of_ble_eq_true rfl) d_N_parse_35 (fun H locs hw => ?_)
  obtain ⟨M2, eM2⟩ : ∃ z, z = ms_I M 6 2 xy0 := ⟨_, rfl⟩
  rw [← eM2] at hw
  have h := h M2 eM2
  refine lv_aload_n hx hb d_N_parse_38 rfl (lv_at hl 0 rfl) ?_
  refine lv_aload_n hx hb d_N_parse_39 rfl (lv_at hl 1 rfl) ?_
  refine nf_callW (ex := (fun _ _ => False)) (As := [.ref (a 6), .ref (a (nf_ro b1))]) (st0 := [.ref (a (nf_ro b1)), .ref (a 6)]) (rest := []) K hw (nf_invV hx hb K.2.2.2.1 (nf_Kg K nw_330) (nf_Kg K nw_332) (nf_Kg K nx_N_passSign) (nf_Kg K nw_333) ⟨by decide, by decide⟩ (nf_rcv K hw 6 1 rfl rfl) rfl nl_N_passSign rfl d_N_parse_40) (c_N_passSign l hfl b1) nw_333 nw_5 rfl ⟨by decide, by decide⟩ (Nat.le_of_ble_eq_true rfl) hl.1 ⟨Nat.le_of_ble_eq_true rfl, Nat.le_of_ble_eq_true rfl⟩ h (fun _ _ h => h.elim) (fun r3 M4 H locs h hw => ?_)
  refine W.eq (g2 := F0 m 43 ls []) rfl ?_
  refine lv_aload_n hx hb d_N_parse_43 rfl (lv_at hl 0 rfl) ?_
  refine lv_iload_n hx hb d_N_parse_44 rfl (lv_at hl 2 rfl) ?_
  refine lv_bipush (v := (8 : Int32)) hx hb d_N_parse_45 (by decide) ?_
  refine nf_ic_lt hx hb d_N_parse_47 (tgt := 62) (by decide) (fun hc => ?_) (fun hc => ?_)
  · have h := h.1 hc
    exact w_N_parse_62 hfl K b1 x2 M4 _ _ _ h (lv_sub hl [0, 1, 2] rfl) hw
  · have h := h.2 hc
    refine lv_aload_n hx hb d_N_parse_50 rfl (lv_at hl 0 rfl) ?_
    refine lv_aload_n hx hb d_N_parse_51 rfl (lv_at hl 1 rfl) ?_
    refine nf_callW (ex := (fun _ _ => False)) (As := [.ref (a 6), .ref (a (nf_ro b1))]) (st0 := [.ref (a (nf_ro b1)), .ref (a 6), .ref (a 6)]) (rest := [.ref (a 6)]) K hw (nf_invV hx hb K.2.2.2.1 (nf_Kg K nw_334) (nf_Kg K nw_336) (nf_Kg K nx_N_isInfinityWord) (nf_Kg K nw_337) ⟨by decide, by decide⟩ (nf_rcv K hw 6 1 rfl rfl) rfl nl_N_isInfinityWord rfl d_N_parse_52) (c_N_isInfinityWord l hfl b1) nw_337 nw_5 rfl ⟨by decide, by decide⟩ (Nat.le_of_ble_eq_true rfl) hl.1 ⟨Nat.le_of_ble_eq_true rfl, Nat.le_of_ble_eq_true rfl⟩ h (fun _ _ h => h.elim) (fun r5 M6 H locs h hw => ?_)
    refine W.eq (g2 := F0 m 55 ls [.int r5, .ref (a 6)]) rfl ?_
    refine nf_if_eq hx hb d_N_parse_55 (tgt := 62) (by decide) (fun hc => ?_) (fun hc => ?_)
    · have h := h.1 hc
      exact w_N_parse_62 hfl K b1 x2 M6 _ _ _ h (lv_sub hl [0, 1, 2] rfl) hw
    · have h := h.2 hc
      refine lv_iconst (v := (1 : Int32)) hx hb d_N_parse_58 (by decide) ?_
      refine lv_goto hx hb d_N_parse_59 (tgt := 63) (by decide) ?_
      exact w_N_parse_63 hfl K b1 x2 (1 : Int32) M6 _ _ _ h (lv_sub hl [0, 1, 2] rfl) hw
theorem w_N_parse_34 {post : Int32 → nf_M → Prop} (hfl : l.flags = flags0) (K : nf_K p s m args meth c "NumberForge$Numeral" nb_N_parse 4 (some FieldType.boolean) D a sz) : ∀ (b1 : Bool) (x2 : Int32) (M : nf_M) (H : Heap) (locs : List Loc) (ls : Array Slot), B_N_parse_34 post b1 x2 M → lv_has ls 4 [(0, .ref (a 6)), (1, .ref (a (nf_ro b1))), (2, .int x2)] → nf_W D a s sz H locs M → W p l e rm_N_parse s m args below meth c H locs 0 0 (nf_MQ below (nf_Q nf_jI D a post ex (nf_A a sz)) args s rm_N_parse.cells rm_N_parse.slots (nf_A a sz)) (F0 m 34 ls [.ref (a 6)]) := by
  have hx := K.1
  have hb := K.2.1
  intro b1 x2 M H locs ls h hl hw
  refine lv_iconst (v := (0 : Int32)) hx hb d_N_parse_34 (by decide) ?_
  exact w_N_parse_35 hfl K b1 x2 (0 : Int32) M _ _ _ h (lv_sub hl [0, 1, 2] rfl) hw
theorem c_N_parse (l : Launch) (hfl : l.flags = flags0) (b1 : Bool) (x2 : Int32) : nf_C nf_jI l nm_N_parse nb_N_parse 4 (some FieldType.boolean) rm_N_parse (fun a => [.ref (a 6), .ref (a (nf_ro b1)), .int x2]) (fun M post ex => P_N_parse b1 x2 M post) := by
  refine nf_start (plainFor_of_name (by decide +kernel)) (fun a => Nat.le_of_ble_eq_true rfl) ?_
  intro D a sz M post ex p e s m below meth c ls h K hl hw
  have hx := K.1
  have hb := K.2.1
  have hl : lv_has ls 4 [(0, .ref (a 6)), (1, .ref (a (nf_ro b1))), (2, .int x2)] := hl
  refine lv_aload_n hx hb d_N_parse_0 rfl (lv_at hl 0 rfl) ?_
  refine lv_aload_n hx hb d_N_parse_1 rfl (lv_at hl 1 rfl) ?_
  refine nf_callW (ex := (fun _ _ => False)) (As := [.ref (a 6), .ref (a (nf_ro b1))]) (st0 := [.ref (a (nf_ro b1)), .ref (a 6)]) (rest := []) K hw (nf_invV hx hb K.2.2.2.1 (nf_Kg K nw_325) (nf_Kg K nw_327) (nf_Kg K nx_N_passBlanks) (nf_Kg K nw_328) ⟨by decide, by decide⟩ (nf_rcv K hw 6 1 rfl rfl) rfl nl_N_passBlanks rfl d_N_parse_2) (c_N_passBlanks l hfl b1) nw_328 nw_5 rfl ⟨by decide, by decide⟩ (Nat.le_of_ble_eq_true rfl) hl.1 ⟨Nat.le_of_ble_eq_true rfl, Nat.le_of_ble_eq_true rfl⟩ h (fun _ _ h => h.elim) (fun r1 M2 H locs h hw => ?_)
  refine W.eq (g2 := F0 m 5 ls []) rfl ?_
  refine lv_aload_n hx hb d_N_parse_5 rfl (lv_at hl 0 rfl) ?_
  refine lv_aload_n hx hb d_N_parse_6 rfl (lv_at hl 0 rfl) ?_
  refine nf_get (v := .int (mg_I M2 6 0)) K hw 6 1 0 nw_83 rfl rfl ni_N (by decide) rfl rfl d_N_parse_7 ?_
  refine lv_aload_n hx hb d_N_parse_10 rfl (lv_at hl 0 rfl) ?_
  refine nf_get (v := .int (mg_I M2 6 1)) K hw 6 1 1 nw_84 rfl rfl ni_N (by decide) rfl rfl d_N_parse_11 ?_
  refine nf_ic_ge hx hb d_N_parse_14 (tgt := 34) (by decide) (fun hc => ?_) (fun hc => ?_)
  · have h := h.1 hc
    refine lv_aload_n hx hb d_N_parse_17 rfl (lv_at hl 1 rfl) ?_
    refine lv_aload_n hx hb d_N_parse_18 rfl (lv_at hl 0 rfl) ?_
    refine nf_get (v := .int (mg_I M2 6 0)) K hw 6 1 0 nw_83 rfl rfl ni_N (by decide) rfl rfl d_N_parse_19 ?_
    refine nf_callW (ex := (fun _ _ => False)) (As := [.ref (a (nf_ro b1)), .int (mg_I M2 6 0)]) (st0 := [.int (mg_I M2 6 0), .ref (a (nf_ro b1)), .ref (a 6)]) (rest := [.ref (a 6)]) K hw (nf_invVN hx hb K.2.2.2.1 ((nf_Kr K nv_329).use rfl) (nf_Kg K nw_231) (nf_Kg K nx_R_at) (nf_Kg K nw_232) ⟨by decide, by decide⟩ (nf_rcv K hw (nf_ro b1) 3 (nf_heR _ _ _) rfl) rfl nl_R_at rfl d_N_parse_22) (c_R_at l hfl b1 (mg_I M2 6 0)) nw_232 nw_3 rfl ⟨by decide, by decide⟩ (Nat.le_of_ble_eq_true rfl) hl.1 ⟨Nat.le_of_ble_eq_true rfl, Nat.le_of_ble_eq_true rfl⟩ h (fun _ _ h => h.elim) (fun r3 M4 H locs h hw => ?_)
    refine W.eq (g2 := F0 m 25 ls [.int r3, .ref (a 6)]) rfl ?_
    refine lv_bipush (v := (45 : Int32)) hx hb d_N_parse_25 (by decide) ?_
    refine nf_ic_ne hx hb d_N_parse_27 (tgt := 34) (by decide) (fun hc => ?_) (fun hc => ?_)
    · have h := h.1 hc
      refine lv_iconst (v := (1 : Int32)) hx hb d_N_parse_30 (by decide) ?_
      refine lv_goto hx hb d_N_parse_31 (tgt := 35) (by decide) ?_
      exact w_N_parse_35 hfl K b1 x2 (1 : Int32) M4 _ _ _ h (lv_sub hl [0, 1, 2] rfl) hw
    · have h := h.2 hc
      exact w_N_parse_34 hfl K b1 x2 M4 _ _ _ h (lv_sub hl [0, 1, 2] rfl) hw
  · have h := h.2 hc
    exact w_N_parse_34 hfl K b1 x2 M2 _ _ _ h (lv_sub hl [0, 1, 2] rfl) hw
theorem d_F_ten_0 : decode nb_F_ten 0 = .ok (.dconst 1, 1) := by decide +kernel
theorem d_F_ten_1 : decode nb_F_ten 1 = .ok (.dstore_n 1, 1) := by decide +kernel
theorem d_F_ten_2 : decode nb_F_ten 2 = .ok (.iconst 0, 1) := by decide +kernel
theorem d_F_ten_3 : decode nb_F_ten 3 = .ok (.istore_n 3, 1) := by decide +kernel
theorem d_F_ten_4 : decode nb_F_ten 4 = .ok (.iload_n 3, 1) := by decide +kernel
theorem d_F_ten_5 : decode nb_F_ten 5 = .ok (.iload_n 0, 1) := by decide +kernel
theorem d_F_ten_6 : decode nb_F_ten 6 = .ok (.if_icmp .ge 21, 3) := by decide +kernel
theorem d_F_ten_9 : decode nb_F_ten 9 = .ok (.iload_n 3, 1) := by decide +kernel
theorem d_F_ten_10 : decode nb_F_ten 10 = .ok (.bipush 22, 2) := by decide +kernel
theorem d_F_ten_12 : decode nb_F_ten 12 = .ok (.if_icmp .ge 15, 3) := by decide +kernel
theorem d_F_ten_15 : decode nb_F_ten 15 = .ok (.dload_n 1, 1) := by decide +kernel
theorem d_F_ten_16 : decode nb_F_ten 16 = .ok (.ldc2_w 281, 3) := by decide +kernel
theorem d_F_ten_19 : decode nb_F_ten 19 = .ok (.dmul, 1) := by decide +kernel
theorem d_F_ten_20 : decode nb_F_ten 20 = .ok (.dstore_n 1, 1) := by decide +kernel
theorem d_F_ten_21 : decode nb_F_ten 21 = .ok (.iinc 3 1, 3) := by decide +kernel
theorem d_F_ten_24 : decode nb_F_ten 24 = .ok (.goto (-20), 3) := by decide +kernel
theorem d_F_ten_27 : decode nb_F_ten 27 = .ok (.dload_n 1, 1) := by decide +kernel
theorem d_F_ten_28 : decode nb_F_ten 28 = .ok (.dreturn, 1) := by decide +kernel
abbrev rm_F_ten : Room := ({ frames := 0, cells := 0, slots := 0, locals := 0 })
theorem w_F_ten_27 {post : UInt64 → nf_M → Prop} (hfl : l.flags = flags0) (K : nf_K p s m args meth c "NumberForge" nb_F_ten 4 (some FieldType.double) D a sz) : ∀ (x1 : UInt64) (M : nf_M) (H : Heap) (locs : List Loc) (ls : Array Slot), B_F_ten_27 post x1 M → lv_has ls 4 [(1, .double x1)] → nf_W D a s sz H locs M → W p l e rm_F_ten s m args below meth c H locs 0 0 (nf_MQ below (nf_Q nf_jD D a post ex (nf_A a sz)) args s rm_F_ten.cells rm_F_ten.slots (nf_A a sz)) (F0 m 27 ls []) := by
  have hx := K.1
  have hb := K.2.1
  intro x1 M H locs ls h hl hw
  refine lv_dload_n hx hb d_F_ten_27 rfl (lv_at hl 0 rfl) ?_
  exact nf_dret K hw d_F_ten_28 (Nat.le_of_ble_eq_true rfl) (Nat.le_of_ble_eq_true rfl) (r := x1) rfl h
theorem w_F_ten_4 {post : UInt64 → nf_M → Prop} (hfl : l.flags = flags0) (K : nf_K p s m args meth c "NumberForge" nb_F_ten 4 (some FieldType.double) D a sz) : ∀ (n : Nat) (x0 : Int32) (x1 : UInt64) (x3 : Int32) (M : nf_M) (H : Heap) (locs : List Loc) (ls : Array Slot), B_F_ten_4 post n x0 x1 x3 M → lv_has ls 4 [(0, .int x0), (1, .double x1), (3, .int x3)] → nf_W D a s sz H locs M → W p l e rm_F_ten s m args below meth c H locs 0 0 (nf_MQ below (nf_Q nf_jD D a post ex (nf_A a sz)) args s rm_F_ten.cells rm_F_ten.slots (nf_A a sz)) (F0 m 4 ls []) := by
  have hx := K.1
  have hb := K.2.1
  intro n
  induction n with
  | zero => intro x0 x1 x3 M H locs ls h hl hw; exact h.elim
  | succ n ih =>
    intro x0 x1 x3 M H locs ls h hl hw
    refine lv_iload_n hx hb d_F_ten_4 rfl (lv_at hl 2 rfl) ?_
    refine lv_iload_n hx hb d_F_ten_5 rfl (lv_at hl 0 rfl) ?_
    refine nf_ic_ge hx hb d_F_ten_6 (tgt := 27) (by decide) (fun hc => ?_) (fun hc => ?_)
    · have h := h.1 hc
      refine lv_iload_n hx hb d_F_ten_9 rfl (lv_at hl 2 rfl) ?_
      refine lv_bipush (v := (22 : Int32)) hx hb d_F_ten_10 (by decide) ?_
      refine nf_ic_ge hx hb d_F_ten_12 (tgt := 27) (by decide) (fun hc => ?_) (fun hc => ?_)
      · have h := h.1 hc
        refine lv_dload_n hx hb d_F_ten_15 rfl (lv_at hl 1 rfl) ?_
        refine lv_ldc2d (v := (4621819117588971520 : UInt64)) hx hb K.2.2.2.1 (nf_Kg K nw_403) d_F_ten_16 ?_
        obtain ⟨g1, h⟩ := h
        refine lv_dmul hx hb d_F_ten_19 g1 ?_
        refine lv_topd (fun t2 et2 => ?_)
        have h := h t2 et2
        refine lv_dstore_n (lv' := [(1, .double t2), (0, .int x0), (3, .int x3)]) hx hb d_F_ten_20 rfl hl (by decide) rfl (fun ls hl => ?_)
        refine lv_iinc (k := 2) (v := x3 + (1 : Int32)) (lv' := [(3, .int (x3 + (1 : Int32))), (1, .double t2), (0, .int x0)]) hx hb d_F_ten_21 hl rfl (nf_inc (by decide)) (by decide) rfl (fun ls hl => ?_)
        refine lv_goto hx hb d_F_ten_24 (tgt := 4) (by decide) ?_
        exact ih x0 t2 (x3 + (1 : Int32)) M _ _ _ h (lv_sub hl [2, 1, 0] rfl) hw
      · have h := h.2 hc
        exact w_F_ten_27 hfl K x1 M _ _ _ h (lv_sub hl [1] rfl) hw
    · have h := h.2 hc
      exact w_F_ten_27 hfl K x1 M _ _ _ h (lv_sub hl [1] rfl) hw
theorem c_F_ten (l : Launch) (hfl : l.flags = flags0) (x0 : Int32) : nf_C nf_jD l nm_F_ten nb_F_ten 4 (some FieldType.double) rm_F_ten (fun a => [.int x0]) (fun M post ex => P_F_ten x0 M post) := by
  refine nf_start (plainFor_of_name (by decide +kernel)) (fun a => Nat.le_of_ble_eq_true rfl) ?_
  intro D a sz M post ex p e s m below meth c ls h K hl hw
  have hx := K.1
  have hb := K.2.1
  have hl : lv_has ls 4 [(0, .int x0)] := hl
  refine lv_dconst1 hx hb d_F_ten_0 ?_
  refine lv_dstore_n (lv' := [(1, .double (FP.dconst1)), (0, .int x0)]) hx hb d_F_ten_1 rfl hl (by decide) rfl (fun ls hl => ?_)
  refine lv_iconst (v := (0 : Int32)) hx hb d_F_ten_2 (by decide) ?_
  refine lv_istore_n (lv' := [(3, .int (0 : Int32)), (1, .double (FP.dconst1)), (0, .int x0)]) hx hb d_F_ten_3 rfl hl (by decide) rfl (fun ls hl => ?_)
  obtain ⟨n, h⟩ := h
  exact w_F_ten_4 hfl K n x0 (FP.dconst1) (0 : Int32) M _ _ _ h (lv_sub hl [2, 1, 0] rfl) hw
theorem d_F_timesTen_0 : decode nb_F_timesTen 0 = .ok (.iload_n 2, 1) := by decide +kernel
theorem d_F_timesTen_1 : decode nb_F_timesTen 1 = .ok (.ifCond .ge 13, 3) := by decide +kernel
theorem d_F_timesTen_4 : decode nb_F_timesTen 4 = .ok (.dload_n 0, 1) := by decide +kernel
theorem d_F_timesTen_5 : decode nb_F_timesTen 5 = .ok (.iload_n 2, 1) := by decide +kernel
theorem d_F_timesTen_6 : decode nb_F_timesTen 6 = .ok (.ineg, 1) := by decide +kernel
theorem d_F_timesTen_7 : decode nb_F_timesTen 7 = .ok (.invokestatic 283, 3) := by decide +kernel
theorem d_F_timesTen_10 : decode nb_F_timesTen 10 = .ok (.ddiv, 1) := by decide +kernel
theorem d_F_timesTen_11 : decode nb_F_timesTen 11 = .ok (.goto 9, 3) := by decide +kernel
theorem d_F_timesTen_14 : decode nb_F_timesTen 14 = .ok (.dload_n 0, 1) := by decide +kernel
theorem d_F_timesTen_15 : decode nb_F_timesTen 15 = .ok (.iload_n 2, 1) := by decide +kernel
theorem d_F_timesTen_16 : decode nb_F_timesTen 16 = .ok (.invokestatic 283, 3) := by decide +kernel
theorem d_F_timesTen_19 : decode nb_F_timesTen 19 = .ok (.dmul, 1) := by decide +kernel
theorem d_F_timesTen_20 : decode nb_F_timesTen 20 = .ok (.dreturn, 1) := by decide +kernel
abbrev rm_F_timesTen : Room := ({ frames := 1, cells := 0, slots := 0, locals := 23 })
theorem w_F_timesTen_20 {post : UInt64 → nf_M → Prop} (hfl : l.flags = flags0) (K : nf_K p s m args meth c "NumberForge" nb_F_timesTen 3 (some FieldType.double) D a sz) : ∀ (xy0 : UInt64) (M : nf_M) (H : Heap) (locs : List Loc) (ls : Array Slot), B_F_timesTen_20 post xy0 M → lv_has ls 3 [] → nf_W D a s sz H locs M → W p l e rm_F_timesTen s m args below meth c H locs 0 0 (nf_MQ below (nf_Q nf_jD D a post ex (nf_A a sz)) args s rm_F_timesTen.cells rm_F_timesTen.slots (nf_A a sz)) (F0 m 20 ls [.double xy0]) := by
  have hx := K.1
  have hb := K.2.1
  intro xy0 M H locs ls h hl hw
  exact nf_dret K hw d_F_timesTen_20 (Nat.le_of_ble_eq_true rfl) (Nat.le_of_ble_eq_true rfl) (r := xy0) rfl h
theorem c_F_timesTen (l : Launch) (hfl : l.flags = flags0) (x0 : UInt64) (x2 : Int32) : nf_C nf_jD l nm_F_timesTen nb_F_timesTen 3 (some FieldType.double) rm_F_timesTen (fun a => [.double x0, .int x2]) (fun M post ex => P_F_timesTen x0 x2 M post) := by
  refine nf_start (plainFor_of_name (by decide +kernel)) (fun a => Nat.le_of_ble_eq_true rfl) ?_
  intro D a sz M post ex p e s m below meth c ls h K hl hw
  have hx := K.1
  have hb := K.2.1
  have hl : lv_has ls 3 [(0, .double x0), (2, .int x2)] := hl
  refine lv_iload_n hx hb d_F_timesTen_0 rfl (lv_at hl 1 rfl) ?_
  refine nf_if_ge hx hb d_F_timesTen_1 (tgt := 14) (by decide) (fun hc => ?_) (fun hc => ?_)
  · have h := h.1 hc
    refine lv_dload_n hx hb d_F_timesTen_4 rfl (lv_at hl 0 rfl) ?_
    refine lv_iload_n hx hb d_F_timesTen_5 rfl (lv_at hl 1 rfl) ?_
    refine lv_ineg hx hb d_F_timesTen_6 ?_
    refine nf_callW (ex := (fun _ _ => False)) (As := [.int (-x2)]) (st0 := [.int (-x2), .double x0]) (rest := [.double x0]) K hw (nf_invS hx hb K.2.2.2.1 (nf_Kg K nw_400) (nf_Kg K nw_401) (nf_Kg K nw_1) (nf_Kg K nw_402) ⟨by decide, by decide⟩ rfl nl_F_ten rfl d_F_timesTen_7) (c_F_ten l hfl (-x2)) nw_402 nw_1 rfl ⟨by decide, by decide⟩ (Nat.le_of_ble_eq_true rfl) hl.1 ⟨Nat.le_of_ble_eq_true rfl, Nat.le_of_ble_eq_true rfl⟩ h (fun _ _ h => h.elim) (fun r1 M2 H locs h hw => ?_)
    refine W.eq (g2 := F0 m 10 ls [.double r1, .double x0]) rfl ?_
    obtain ⟨g3, h⟩ := h
    refine lv_ddiv hx hb d_F_timesTen_10 g3 ?_
    refine lv_goto hx hb d_F_timesTen_11 (tgt := 20) (by decide) ?_
    exact w_F_timesTen_20 hfl K (FP.ddiv x0 r1) M2 _ _ _ h (lv_sub hl [] rfl) hw
  · have h := h.2 hc
    refine lv_dload_n hx hb d_F_timesTen_14 rfl (lv_at hl 0 rfl) ?_
    refine lv_iload_n hx hb d_F_timesTen_15 rfl (lv_at hl 1 rfl) ?_
    refine nf_callW (ex := (fun _ _ => False)) (As := [.int x2]) (st0 := [.int x2, .double x0]) (rest := [.double x0]) K hw (nf_invS hx hb K.2.2.2.1 (nf_Kg K nw_400) (nf_Kg K nw_401) (nf_Kg K nw_1) (nf_Kg K nw_402) ⟨by decide, by decide⟩ rfl nl_F_ten rfl d_F_timesTen_16) (c_F_ten l hfl x2) nw_402 nw_1 rfl ⟨by decide, by decide⟩ (Nat.le_of_ble_eq_true rfl) hl.1 ⟨Nat.le_of_ble_eq_true rfl, Nat.le_of_ble_eq_true rfl⟩ h (fun _ _ h => h.elim) (fun r4 M5 H locs h hw => ?_)
    refine W.eq (g2 := F0 m 19 ls [.double r4, .double x0]) rfl ?_
    obtain ⟨g6, h⟩ := h
    refine lv_dmul hx hb d_F_timesTen_19 g6 ?_
    exact w_F_timesTen_20 hfl K (FP.dmul x0 r4) M5 _ _ _ h (lv_sub hl [] rfl) hw
theorem d_N_asFloating_0 : decode nb_N_asFloating 0 = .ok (.dconst 0, 1) := by decide +kernel
theorem d_N_asFloating_1 : decode nb_N_asFloating 1 = .ok (.dstore_n 1, 1) := by decide +kernel
theorem d_N_asFloating_2 : decode nb_N_asFloating 2 = .ok (.aload_n 0, 1) := by decide +kernel
theorem d_N_asFloating_3 : decode nb_N_asFloating 3 = .ok (.getfield 38, 3) := by decide +kernel
theorem d_N_asFloating_6 : decode nb_N_asFloating 6 = .ok (.ifCond .eq 10, 3) := by decide +kernel
theorem d_N_asFloating_9 : decode nb_N_asFloating 9 = .ok (.ldc2_w 72, 3) := by decide +kernel
theorem d_N_asFloating_12 : decode nb_N_asFloating 12 = .ok (.dstore_n 1, 1) := by decide +kernel
theorem d_N_asFloating_13 : decode nb_N_asFloating 13 = .ok (.goto 60, 3) := by decide +kernel
theorem d_N_asFloating_16 : decode nb_N_asFloating 16 = .ok (.aload_n 0, 1) := by decide +kernel
theorem d_N_asFloating_17 : decode nb_N_asFloating 17 = .ok (.getfield 55, 3) := by decide +kernel
theorem d_N_asFloating_20 : decode nb_N_asFloating 20 = .ok (.ifCond .le 53, 3) := by decide +kernel
theorem d_N_asFloating_23 : decode nb_N_asFloating 23 = .ok (.aload_n 0, 1) := by decide +kernel
theorem d_N_asFloating_24 : decode nb_N_asFloating 24 = .ok (.getfield 55, 3) := by decide +kernel
theorem d_N_asFloating_27 : decode nb_N_asFloating 27 = .ok (.bipush 15, 2) := by decide +kernel
theorem d_N_asFloating_29 : decode nb_N_asFloating 29 = .ok (.if_icmp .gt 21, 3) := by decide +kernel
theorem d_N_asFloating_32 : decode nb_N_asFloating 32 = .ok (.aload_n 0, 1) := by decide +kernel
theorem d_N_asFloating_33 : decode nb_N_asFloating 33 = .ok (.getfield 66, 3) := by decide +kernel
theorem d_N_asFloating_36 : decode nb_N_asFloating 36 = .ok (.bipush (-22), 2) := by decide +kernel
theorem d_N_asFloating_38 : decode nb_N_asFloating 38 = .ok (.if_icmp .lt 12, 3) := by decide +kernel
theorem d_N_asFloating_41 : decode nb_N_asFloating 41 = .ok (.aload_n 0, 1) := by decide +kernel
theorem d_N_asFloating_42 : decode nb_N_asFloating 42 = .ok (.getfield 66, 3) := by decide +kernel
theorem d_N_asFloating_45 : decode nb_N_asFloating 45 = .ok (.bipush 22, 2) := by decide +kernel
theorem d_N_asFloating_47 : decode nb_N_asFloating 47 = .ok (.if_icmp .le 13, 3) := by decide +kernel
theorem d_N_asFloating_50 : decode nb_N_asFloating 50 = .ok (.new 74, 3) := by decide +kernel
theorem d_N_asFloating_53 : decode nb_N_asFloating 53 = .ok (.dup, 1) := by decide +kernel
theorem d_N_asFloating_54 : decode nb_N_asFloating 54 = .ok (.ldc 76, 2) := by decide +kernel
theorem d_N_asFloating_56 : decode nb_N_asFloating 56 = .ok (.invokespecial 78, 3) := by decide +kernel
theorem d_N_asFloating_59 : decode nb_N_asFloating 59 = .ok (.athrow, 1) := by decide +kernel
theorem d_N_asFloating_60 : decode nb_N_asFloating 60 = .ok (.aload_n 0, 1) := by decide +kernel
theorem d_N_asFloating_61 : decode nb_N_asFloating 61 = .ok (.getfield 51, 3) := by decide +kernel
theorem d_N_asFloating_64 : decode nb_N_asFloating 64 = .ok (.l2d, 1) := by decide +kernel
theorem d_N_asFloating_65 : decode nb_N_asFloating 65 = .ok (.aload_n 0, 1) := by decide +kernel
theorem d_N_asFloating_66 : decode nb_N_asFloating 66 = .ok (.getfield 66, 3) := by decide +kernel
theorem d_N_asFloating_69 : decode nb_N_asFloating 69 = .ok (.invokestatic 81, 3) := by decide +kernel
theorem d_N_asFloating_72 : decode nb_N_asFloating 72 = .ok (.dstore_n 1, 1) := by decide +kernel
theorem d_N_asFloating_73 : decode nb_N_asFloating 73 = .ok (.aload_n 0, 1) := by decide +kernel
theorem d_N_asFloating_74 : decode nb_N_asFloating 74 = .ok (.getfield 27, 3) := by decide +kernel
theorem d_N_asFloating_77 : decode nb_N_asFloating 77 = .ok (.ifCond .eq 8, 3) := by decide +kernel
theorem d_N_asFloating_80 : decode nb_N_asFloating 80 = .ok (.dload_n 1, 1) := by decide +kernel
theorem d_N_asFloating_81 : decode nb_N_asFloating 81 = .ok (.dneg, 1) := by decide +kernel
theorem d_N_asFloating_82 : decode nb_N_asFloating 82 = .ok (.goto 4, 3) := by decide +kernel
theorem d_N_asFloating_85 : decode nb_N_asFloating 85 = .ok (.dload_n 1, 1) := by decide +kernel
theorem d_N_asFloating_86 : decode nb_N_asFloating 86 = .ok (.dreturn, 1) := by decide +kernel
abbrev rm_N_asFloating : Room := ({ frames := 6, cells := 1, slots := 6, locals := 100 })
theorem w_N_asFloating_50 {post : UInt64 → nf_M → Prop} (hfl : l.flags = flags0) (K : nf_K p s m args meth c "NumberForge$Numeral" nb_N_asFloating 3 (some FieldType.double) D a sz) : ∀ (M : nf_M) (H : Heap) (locs : List Loc) (ls : Array Slot), B_N_asFloating_50 post ex  M → lv_has ls 3 [] → nf_W D a s sz H locs M → W p l e rm_N_asFloating s m args below meth c H locs 0 0 (nf_MQ below (nf_Q nf_jD D a post ex (nf_A a sz)) args s rm_N_asFloating.cells rm_N_asFloating.slots (nf_A a sz)) (F0 m 50 ls []) := by
  have hx := K.1
  have hb := K.2.1
  intro  M H locs ls h hl hw
  exact nf_throw (i := 8) 4 hfl K hw rfl (by decide) na_N_78 nw_381 nw_382 nw_15 rfl d_N_asFloating_50 d_N_asFloating_53 d_N_asFloating_54 d_N_asFloating_56 d_N_asFloating_59 hl.1 ⟨by decide, by decide⟩ ⟨Nat.le_of_ble_eq_true rfl, Nat.le_of_ble_eq_true rfl⟩ h
theorem w_N_asFloating_86 {post : UInt64 → nf_M → Prop} (hfl : l.flags = flags0) (K : nf_K p s m args meth c "NumberForge$Numeral" nb_N_asFloating 3 (some FieldType.double) D a sz) : ∀ (xy0 : UInt64) (M : nf_M) (H : Heap) (locs : List Loc) (ls : Array Slot), B_N_asFloating_86 post ex xy0 M → lv_has ls 3 [] → nf_W D a s sz H locs M → W p l e rm_N_asFloating s m args below meth c H locs 0 0 (nf_MQ below (nf_Q nf_jD D a post ex (nf_A a sz)) args s rm_N_asFloating.cells rm_N_asFloating.slots (nf_A a sz)) (F0 m 86 ls [.double xy0]) := by
  have hx := K.1
  have hb := K.2.1
  intro xy0 M H locs ls h hl hw
  exact nf_dret K hw d_N_asFloating_86 (Nat.le_of_ble_eq_true rfl) (Nat.le_of_ble_eq_true rfl) (r := xy0) rfl h
theorem w_N_asFloating_73 {post : UInt64 → nf_M → Prop} (hfl : l.flags = flags0) (K : nf_K p s m args meth c "NumberForge$Numeral" nb_N_asFloating 3 (some FieldType.double) D a sz) : ∀ (x1 : UInt64) (M : nf_M) (H : Heap) (locs : List Loc) (ls : Array Slot), B_N_asFloating_73 post ex x1 M → lv_has ls 3 [(0, .ref (a 6)), (1, .double x1)] → nf_W D a s sz H locs M → W p l e rm_N_asFloating s m args below meth c H locs 0 0 (nf_MQ below (nf_Q nf_jD D a post ex (nf_A a sz)) args s rm_N_asFloating.cells rm_N_asFloating.slots (nf_A a sz)) (F0 m 73 ls []) := by
  have hx := K.1
  have hb := K.2.1
  intro x1 M H locs ls h hl hw
  refine lv_aload_n hx hb d_N_asFloating_73 rfl (lv_at hl 0 rfl) ?_
  refine nf_get (v := .int (mg_I M 6 2)) K hw 6 1 2 nw_85 rfl rfl ni_N (by decide) rfl rfl d_N_asFloating_74 ?_
  refine nf_if_eq hx hb d_N_asFloating_77 (tgt := 85) (by decide) (fun hc => ?_) (fun hc => ?_)
  · have h := h.1 hc
    refine lv_dload_n hx hb d_N_asFloating_85 rfl (lv_at hl 1 rfl) ?_
    exact w_N_asFloating_86 hfl K x1 M _ _ _ h (lv_sub hl [] rfl) hw
  · have h := h.2 hc
    refine lv_dload_n hx hb d_N_asFloating_80 rfl (lv_at hl 1 rfl) ?_
    refine lv_dneg hx hb d_N_asFloating_81 ?_
    refine lv_goto hx hb d_N_asFloating_82 (tgt := 86) (by decide) ?_
    exact w_N_asFloating_86 hfl K (FP.dneg x1) M _ _ _ h (lv_sub hl [] rfl) hw
theorem c_N_asFloating (l : Launch) (hfl : l.flags = flags0) : nf_C nf_jD l nm_N_asFloating nb_N_asFloating 3 (some FieldType.double) rm_N_asFloating (fun a => [.ref (a 6)]) (fun M post ex => P_N_asFloating  M post ex) := by
  refine nf_start (plainFor_of_name (by decide +kernel)) (fun a => Nat.le_of_ble_eq_true rfl) ?_
  intro D a sz M post ex p e s m below meth c ls h K hl hw
  have hx := K.1
  have hb := K.2.1
  have hl : lv_has ls 3 [(0, .ref (a 6))] := hl
  refine lv_dconst0 hx hb d_N_asFloating_0 ?_
  refine lv_dstore_n (lv' := [(1, .double (FP.dconst0)), (0, .ref (a 6))]) hx hb d_N_asFloating_1 rfl hl (by decide) rfl (fun ls hl => ?_)
  refine lv_aload_n hx hb d_N_asFloating_2 rfl (lv_at hl 1 rfl) ?_
  refine nf_get (v := .int (mg_I M 6 3)) K hw 6 1 3 nw_86 rfl rfl ni_N (by decide) rfl rfl d_N_asFloating_3 ?_
  refine nf_if_eq hx hb d_N_asFloating_6 (tgt := 16) (by decide) (fun hc => ?_) (fun hc => ?_)
  · have h := h.1 hc
    refine lv_aload_n hx hb d_N_asFloating_16 rfl (lv_at hl 1 rfl) ?_
    refine nf_get (v := .int (mg_I M 6 5)) K hw 6 1 5 nw_88 rfl rfl ni_N (by decide) rfl rfl d_N_asFloating_17 ?_
    refine nf_if_le hx hb d_N_asFloating_20 (tgt := 73) (by decide) (fun hc => ?_) (fun hc => ?_)
    · have h := h.1 hc
      refine lv_aload_n hx hb d_N_asFloating_23 rfl (lv_at hl 1 rfl) ?_
      refine nf_get (v := .int (mg_I M 6 5)) K hw 6 1 5 nw_88 rfl rfl ni_N (by decide) rfl rfl d_N_asFloating_24 ?_
      refine lv_bipush (v := (15 : Int32)) hx hb d_N_asFloating_27 (by decide) ?_
      refine nf_ic_gt hx hb d_N_asFloating_29 (tgt := 50) (by decide) (fun hc => ?_) (fun hc => ?_)
      · have h := h.1 hc
        exact w_N_asFloating_50 hfl K  M _ _ _ h (lv_sub hl [] rfl) hw
      · have h := h.2 hc
        refine lv_aload_n hx hb d_N_asFloating_32 rfl (lv_at hl 1 rfl) ?_
        refine nf_get (v := .int (mg_I M 6 6)) K hw 6 1 6 nw_89 rfl rfl ni_N (by decide) rfl rfl d_N_asFloating_33 ?_
        refine lv_bipush (v := (-22 : Int32)) hx hb d_N_asFloating_36 (by decide) ?_
        refine nf_ic_lt hx hb d_N_asFloating_38 (tgt := 50) (by decide) (fun hc => ?_) (fun hc => ?_)
        · have h := h.1 hc
          exact w_N_asFloating_50 hfl K  M _ _ _ h (lv_sub hl [] rfl) hw
        · have h := h.2 hc
          refine lv_aload_n hx hb d_N_asFloating_41 rfl (lv_at hl 1 rfl) ?_
          refine nf_get (v := .int (mg_I M 6 6)) K hw 6 1 6 nw_89 rfl rfl ni_N (by decide) rfl rfl d_N_asFloating_42 ?_
          refine lv_bipush (v := (22 : Int32)) hx hb d_N_asFloating_45 (by decide) ?_
          refine nf_ic_le hx hb d_N_asFloating_47 (tgt := 60) (by decide) (fun hc => ?_) (fun hc => ?_)
          · have h := h.1 hc
            exact w_N_asFloating_50 hfl K  M _ _ _ h (lv_sub hl [] rfl) hw
          · have h := h.2 hc
            refine lv_aload_n hx hb d_N_asFloating_60 rfl (lv_at hl 1 rfl) ?_
            refine nf_get (v := .long (mg_L M 6 4)) K hw 6 1 4 nw_87 rfl rfl ni_N (by decide) rfl rfl d_N_asFloating_61 ?_
            refine lv_l2d hx hb d_N_asFloating_64 ?_
            refine lv_aload_n hx hb d_N_asFloating_65 rfl (lv_at hl 1 rfl) ?_
            refine nf_get (v := .int (mg_I M 6 6)) K hw 6 1 6 nw_89 rfl rfl ni_N (by decide) rfl rfl d_N_asFloating_66 ?_
            refine nf_callW (ex := (fun _ _ => False)) (As := [.double (FP.l2d (mg_L M 6 4)), .int (mg_I M 6 6)]) (st0 := [.int (mg_I M 6 6), .double (FP.l2d (mg_L M 6 4))]) (rest := []) K hw (nf_invSN hx hb K.2.2.2.1 ((nf_Kr K nv_397).use rfl) (nf_Kg K nw_398) (nf_Kg K nw_1) (nf_Kg K nw_399) ⟨by decide, by decide⟩ rfl nl_F_timesTen rfl d_N_asFloating_69) (c_F_timesTen l hfl (FP.l2d (mg_L M 6 4)) (mg_I M 6 6)) nw_399 nw_1 rfl ⟨by decide, by decide⟩ (Nat.le_of_ble_eq_true rfl) hl.1 ⟨Nat.le_of_ble_eq_true rfl, Nat.le_of_ble_eq_true rfl⟩ h (fun _ _ h => h.elim) (fun r1 M2 H locs h hw => ?_)
            refine W.eq (g2 := F0 m 72 ls [.double r1]) rfl ?_
            refine lv_dstore_n (lv' := [(1, .double r1), (0, .ref (a 6))]) hx hb d_N_asFloating_72 rfl hl (by decide) rfl (fun ls hl => ?_)
            exact w_N_asFloating_73 hfl K r1 M2 _ _ _ h (lv_sub hl [1, 0] rfl) hw
    · have h := h.2 hc
      exact w_N_asFloating_73 hfl K (FP.dconst0) M _ _ _ h (lv_sub hl [1, 0] rfl) hw
  · have h := h.2 hc
    refine lv_ldc2d (v := (9218868437227405312 : UInt64)) hx hb K.2.2.2.1 (nf_Kg K nw_380) d_N_asFloating_9 ?_
    refine lv_dstore_n (lv' := [(1, .double (9218868437227405312 : UInt64)), (0, .ref (a 6))]) hx hb d_N_asFloating_12 rfl hl (by decide) rfl (fun ls hl => ?_)
    refine lv_goto hx hb d_N_asFloating_13 (tgt := 73) (by decide) ?_
    exact w_N_asFloating_73 hfl K (9218868437227405312 : UInt64) M _ _ _ h (lv_sub hl [1, 0] rfl) hw
end NW0
