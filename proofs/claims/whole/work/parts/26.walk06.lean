/-! walks (printed by wip/whole/gen/drive.py) -/
section NW6
variable {p : Program} {l : Launch} {e : Env} {s : State} {m : MethodId} {args : Array Value} {below : List Frame} {meth : Method} {c : Code} {D : va_G} {a : Nat → Nat} {sz : Nat} {ex : Nat → nf_M → Prop}
theorem d_M_isWord_0 : decode nb_M_isWord 0 = .ok (.aload_n 0, 1) := by decide +kernel
theorem d_M_isWord_1 : decode nb_M_isWord 1 = .ok (.getfield 107, 3) := by decide +kernel
theorem d_M_isWord_4 : decode nb_M_isWord 4 = .ok (.iload_n 1, 1) := by decide +kernel
theorem d_M_isWord_5 : decode nb_M_isWord 5 = .ok (.isub, 1) := by decide +kernel
theorem d_M_isWord_6 : decode nb_M_isWord 6 = .ok (.iconst 3, 1) := by decide +kernel
theorem d_M_isWord_7 : decode nb_M_isWord 7 = .ok (.if_icmp .ne 42, 3) := by decide +kernel
theorem d_M_isWord_10 : decode nb_M_isWord 10 = .ok (.aload_n 0, 1) := by decide +kernel
theorem d_M_isWord_11 : decode nb_M_isWord 11 = .ok (.getfield 7, 3) := by decide +kernel
theorem d_M_isWord_14 : decode nb_M_isWord 14 = .ok (.iload_n 1, 1) := by decide +kernel
theorem d_M_isWord_15 : decode nb_M_isWord 15 = .ok (.iaload, 1) := by decide +kernel
theorem d_M_isWord_16 : decode nb_M_isWord 16 = .ok (.iload_n 2, 1) := by decide +kernel
theorem d_M_isWord_17 : decode nb_M_isWord 17 = .ok (.if_icmp .ne 32, 3) := by decide +kernel
theorem d_M_isWord_20 : decode nb_M_isWord 20 = .ok (.aload_n 0, 1) := by decide +kernel
theorem d_M_isWord_21 : decode nb_M_isWord 21 = .ok (.getfield 7, 3) := by decide +kernel
theorem d_M_isWord_24 : decode nb_M_isWord 24 = .ok (.iload_n 1, 1) := by decide +kernel
theorem d_M_isWord_25 : decode nb_M_isWord 25 = .ok (.iconst 1, 1) := by decide +kernel
theorem d_M_isWord_26 : decode nb_M_isWord 26 = .ok (.iadd, 1) := by decide +kernel
theorem d_M_isWord_27 : decode nb_M_isWord 27 = .ok (.iaload, 1) := by decide +kernel
theorem d_M_isWord_28 : decode nb_M_isWord 28 = .ok (.iload_n 3, 1) := by decide +kernel
theorem d_M_isWord_29 : decode nb_M_isWord 29 = .ok (.if_icmp .ne 20, 3) := by decide +kernel
theorem d_M_isWord_32 : decode nb_M_isWord 32 = .ok (.aload_n 0, 1) := by decide +kernel
theorem d_M_isWord_33 : decode nb_M_isWord 33 = .ok (.getfield 7, 3) := by decide +kernel
theorem d_M_isWord_36 : decode nb_M_isWord 36 = .ok (.iload_n 1, 1) := by decide +kernel
theorem d_M_isWord_37 : decode nb_M_isWord 37 = .ok (.iconst 2, 1) := by decide +kernel
theorem d_M_isWord_38 : decode nb_M_isWord 38 = .ok (.iadd, 1) := by decide +kernel
theorem d_M_isWord_39 : decode nb_M_isWord 39 = .ok (.iaload, 1) := by decide +kernel
theorem d_M_isWord_40 : decode nb_M_isWord 40 = .ok (.iload 4, 2) := by decide +kernel
theorem d_M_isWord_42 : decode nb_M_isWord 42 = .ok (.if_icmp .ne 7, 3) := by decide +kernel
theorem d_M_isWord_45 : decode nb_M_isWord 45 = .ok (.iconst 1, 1) := by decide +kernel
theorem d_M_isWord_46 : decode nb_M_isWord 46 = .ok (.goto 4, 3) := by decide +kernel
theorem d_M_isWord_49 : decode nb_M_isWord 49 = .ok (.iconst 0, 1) := by decide +kernel
theorem d_M_isWord_50 : decode nb_M_isWord 50 = .ok (.ireturn, 1) := by decide +kernel
abbrev rm_M_isWord : Room := ({ frames := 0, cells := 0, slots := 0, locals := 0 })
theorem w_M_isWord_50 {post : Int32 → nf_M → Prop} (hfl : l.flags = flags0) (K : nf_K p s m args meth c "NumberForgeModel" nb_M_isWord 5 (some FieldType.boolean) D a sz) : ∀ (xy0 : Int32) (M : nf_M) (H : Heap) (locs : List Loc) (ls : Array Slot), B_M_isWord_50 post xy0 M → lv_has ls 5 [] → nf_W D a s sz H locs M → W p l e rm_M_isWord s m args below meth c H locs 0 0 (nf_MQ below (nf_Q nf_jI D a post ex (nf_A a sz)) args s rm_M_isWord.cells rm_M_isWord.slots (nf_A a sz)) (F0 m 50 ls [.int xy0]) := by
  have hx := K.1
  have hb := K.2.1
  intro xy0 M H locs ls h hl hw
  obtain ⟨g1, h⟩ := h
  exact nf_iret K hw d_M_isWord_50 g1 (Nat.le_of_ble_eq_true rfl) (Nat.le_of_ble_eq_true rfl) (r := xy0) rfl h
theorem w_M_isWord_49 {post : Int32 → nf_M → Prop} (hfl : l.flags = flags0) (K : nf_K p s m args meth c "NumberForgeModel" nb_M_isWord 5 (some FieldType.boolean) D a sz) : ∀ (M : nf_M) (H : Heap) (locs : List Loc) (ls : Array Slot), B_M_isWord_49 post  M → lv_has ls 5 [] → nf_W D a s sz H locs M → W p l e rm_M_isWord s m args below meth c H locs 0 0 (nf_MQ below (nf_Q nf_jI D a post ex (nf_A a sz)) args s rm_M_isWord.cells rm_M_isWord.slots (nf_A a sz)) (F0 m 49 ls []) := by
  have hx := K.1
  have hb := K.2.1
  intro  M H locs ls h hl hw
  refine lv_iconst (v := (0 : Int32)) hx hb d_M_isWord_49 (by decide) ?_
  exact w_M_isWord_50 hfl K (0 : Int32) M _ _ _ h (lv_sub hl [] rfl) hw
theorem c_M_isWord (l : Launch) (hfl : l.flags = flags0) (x1 : Int32) (x2 : Int32) (x3 : Int32) (x4 : Int32) : nf_C nf_jI l nm_M_isWord nb_M_isWord 5 (some FieldType.boolean) rm_M_isWord (fun a => [.ref (a 19), .int x1, .int x2, .int x3, .int x4]) (fun M post ex => P_M_isWord x1 x2 x3 x4 M post) := by
  refine nf_start (plainFor_of_name (by decide +kernel)) (fun a => Nat.le_of_ble_eq_true rfl) ?_
  intro D a sz M post ex p e s m below meth c ls h K hl hw
  have hx := K.1
  have hb := K.2.1
  have hl : lv_has ls 5 [(0, .ref (a 19)), (1, .int x1), (2, .int x2), (3, .int x3), (4, .int x4)] := hl
  refine lv_aload_n hx hb d_M_isWord_0 rfl (lv_at hl 0 rfl) ?_
  refine nf_get (v := .int (mg_I M 19 16)) K hw 19 7 16 nw_947 rfl rfl ni_M (by decide) rfl rfl d_M_isWord_1 ?_
  refine lv_iload_n hx hb d_M_isWord_4 rfl (lv_at hl 1 rfl) ?_
  refine lv_isub hx hb d_M_isWord_5 ?_
  refine lv_iconst (v := (3 : Int32)) hx hb d_M_isWord_6 (by decide) ?_
  refine nf_ic_ne hx hb d_M_isWord_7 (tgt := 49) (by decide) (fun hc => ?_) (fun hc => ?_)
  · have h := h.1 hc
    refine lv_aload_n hx hb d_M_isWord_10 rfl (lv_at hl 0 rfl) ?_
    refine nf_get (v := .ref (a 20)) K hw 19 7 2 nw_933 rfl rfl ni_M (by decide) rfl rfl d_M_isWord_11 ?_
    refine lv_iload_n hx hb d_M_isWord_14 rfl (lv_at hl 1 rfl) ?_
    obtain ⟨g1, h⟩ := h
    refine nf_iald K hw 20 3 rfl rfl g1 d_M_isWord_15 ?_
    refine lv_iload_n hx hb d_M_isWord_16 rfl (lv_at hl 2 rfl) ?_
    refine nf_ic_ne hx hb d_M_isWord_17 (tgt := 49) (by decide) (fun hc => ?_) (fun hc => ?_)
    · have h := h.1 hc
      refine lv_aload_n hx hb d_M_isWord_20 rfl (lv_at hl 0 rfl) ?_
      refine nf_get (v := .ref (a 20)) K hw 19 7 2 nw_933 rfl rfl ni_M (by decide) rfl rfl d_M_isWord_21 ?_
      refine lv_iload_n hx hb d_M_isWord_24 rfl (lv_at hl 1 rfl) ?_
      refine lv_iconst (v := (1 : Int32)) hx hb d_M_isWord_25 (by decide) ?_
      refine lv_iadd hx hb d_M_isWord_26 ?_
      obtain ⟨g2, h⟩ := h
      refine nf_iald K hw 20 3 rfl rfl g2 d_M_isWord_27 ?_
      refine lv_iload_n hx hb d_M_isWord_28 rfl (lv_at hl 3 rfl) ?_
      refine nf_ic_ne hx hb d_M_isWord_29 (tgt := 49) (by decide) (fun hc => ?_) (fun hc => ?_)
      · have h := h.1 hc
        refine lv_aload_n hx hb d_M_isWord_32 rfl (lv_at hl 0 rfl) ?_
        refine nf_get (v := .ref (a 20)) K hw 19 7 2 nw_933 rfl rfl ni_M (by decide) rfl rfl d_M_isWord_33 ?_
        refine lv_iload_n hx hb d_M_isWord_36 rfl (lv_at hl 1 rfl) ?_
        refine lv_iconst (v := (2 : Int32)) hx hb d_M_isWord_37 (by decide) ?_
        refine lv_iadd hx hb d_M_isWord_38 ?_
        obtain ⟨g3, h⟩ := h
        refine nf_iald K hw 20 3 rfl rfl g3 d_M_isWord_39 ?_
        refine lv_iload hx hb d_M_isWord_40 (lv_at hl 4 rfl) ?_
        refine nf_ic_ne hx hb d_M_isWord_42 (tgt := 49) (by decide) (fun hc => ?_) (fun hc => ?_)
        · have h := h.1 hc
          refine lv_iconst (v := (1 : Int32)) hx hb d_M_isWord_45 (by decide) ?_
          refine lv_goto hx hb d_M_isWord_46 (tgt := 50) (by decide) ?_
          exact w_M_isWord_50 hfl K (1 : Int32) M _ _ _ h (lv_sub hl [] rfl) hw
        · have h := h.2 hc
          exact w_M_isWord_49 hfl K  M _ _ _ h (lv_sub hl [] rfl) hw
      · have h := h.2 hc
        exact w_M_isWord_49 hfl K  M _ _ _ h (lv_sub hl [] rfl) hw
    · have h := h.2 hc
      exact w_M_isWord_49 hfl K  M _ _ _ h (lv_sub hl [] rfl) hw
  · have h := h.2 hc
    exact w_M_isWord_49 hfl K  M _ _ _ h (lv_sub hl [] rfl) hw
theorem d_M_exponent_0 : decode nb_M_exponent 0 = .ok (.aload_n 0, 1) := by decide +kernel
theorem d_M_exponent_1 : decode nb_M_exponent 1 = .ok (.invokevirtual 110, 3) := by decide +kernel
theorem d_M_exponent_4 : decode nb_M_exponent 4 = .ok (.bipush 101, 2) := by decide +kernel
theorem d_M_exponent_6 : decode nb_M_exponent 6 = .ok (.if_icmp .eq 31, 3) := by decide +kernel
theorem d_M_exponent_9 : decode nb_M_exponent 9 = .ok (.aload_n 0, 1) := by decide +kernel
theorem d_M_exponent_10 : decode nb_M_exponent 10 = .ok (.invokevirtual 110, 3) := by decide +kernel
theorem d_M_exponent_13 : decode nb_M_exponent 13 = .ok (.bipush 69, 2) := by decide +kernel
theorem d_M_exponent_15 : decode nb_M_exponent 15 = .ok (.if_icmp .eq 22, 3) := by decide +kernel
theorem d_M_exponent_18 : decode nb_M_exponent 18 = .ok (.aload_n 0, 1) := by decide +kernel
theorem d_M_exponent_19 : decode nb_M_exponent 19 = .ok (.getfield 104, 3) := by decide +kernel
theorem d_M_exponent_22 : decode nb_M_exponent 22 = .ok (.aload_n 0, 1) := by decide +kernel
theorem d_M_exponent_23 : decode nb_M_exponent 23 = .ok (.getfield 107, 3) := by decide +kernel
theorem d_M_exponent_26 : decode nb_M_exponent 26 = .ok (.if_icmp .ne 7, 3) := by decide +kernel
theorem d_M_exponent_29 : decode nb_M_exponent 29 = .ok (.iconst 0, 1) := by decide +kernel
theorem d_M_exponent_30 : decode nb_M_exponent 30 = .ok (.goto 6, 3) := by decide +kernel
theorem d_M_exponent_33 : decode nb_M_exponent 33 = .ok (.sipush 9999, 3) := by decide +kernel
theorem d_M_exponent_36 : decode nb_M_exponent 36 = .ok (.ireturn, 1) := by decide +kernel
theorem d_M_exponent_37 : decode nb_M_exponent 37 = .ok (.aload_n 0, 1) := by decide +kernel
theorem d_M_exponent_38 : decode nb_M_exponent 38 = .ok (.dup, 1) := by decide +kernel
theorem d_M_exponent_39 : decode nb_M_exponent 39 = .ok (.getfield 104, 3) := by decide +kernel
theorem d_M_exponent_42 : decode nb_M_exponent 42 = .ok (.iconst 1, 1) := by decide +kernel
theorem d_M_exponent_43 : decode nb_M_exponent 43 = .ok (.iadd, 1) := by decide +kernel
theorem d_M_exponent_44 : decode nb_M_exponent 44 = .ok (.putfield 104, 3) := by decide +kernel
theorem d_M_exponent_47 : decode nb_M_exponent 47 = .ok (.aload_n 0, 1) := by decide +kernel
theorem d_M_exponent_48 : decode nb_M_exponent 48 = .ok (.invokevirtual 110, 3) := by decide +kernel
theorem d_M_exponent_51 : decode nb_M_exponent 51 = .ok (.istore_n 1, 1) := by decide +kernel
theorem d_M_exponent_52 : decode nb_M_exponent 52 = .ok (.iload_n 1, 1) := by decide +kernel
theorem d_M_exponent_53 : decode nb_M_exponent 53 = .ok (.bipush 45, 2) := by decide +kernel
theorem d_M_exponent_55 : decode nb_M_exponent 55 = .ok (.if_icmp .ne 7, 3) := by decide +kernel
theorem d_M_exponent_58 : decode nb_M_exponent 58 = .ok (.iconst 1, 1) := by decide +kernel
theorem d_M_exponent_59 : decode nb_M_exponent 59 = .ok (.goto 4, 3) := by decide +kernel
theorem d_M_exponent_62 : decode nb_M_exponent 62 = .ok (.iconst 0, 1) := by decide +kernel
theorem d_M_exponent_63 : decode nb_M_exponent 63 = .ok (.istore_n 2, 1) := by decide +kernel
theorem d_M_exponent_64 : decode nb_M_exponent 64 = .ok (.aload_n 0, 1) := by decide +kernel
theorem d_M_exponent_65 : decode nb_M_exponent 65 = .ok (.iload_n 1, 1) := by decide +kernel
theorem d_M_exponent_66 : decode nb_M_exponent 66 = .ok (.bipush 45, 2) := by decide +kernel
theorem d_M_exponent_68 : decode nb_M_exponent 68 = .ok (.if_icmp .eq 9, 3) := by decide +kernel
theorem d_M_exponent_71 : decode nb_M_exponent 71 = .ok (.iload_n 1, 1) := by decide +kernel
theorem d_M_exponent_72 : decode nb_M_exponent 72 = .ok (.bipush 43, 2) := by decide +kernel
theorem d_M_exponent_74 : decode nb_M_exponent 74 = .ok (.if_icmp .ne 12, 3) := by decide +kernel
theorem d_M_exponent_77 : decode nb_M_exponent 77 = .ok (.aload_n 0, 1) := by decide +kernel
theorem d_M_exponent_78 : decode nb_M_exponent 78 = .ok (.getfield 104, 3) := by decide +kernel
theorem d_M_exponent_81 : decode nb_M_exponent 81 = .ok (.iconst 1, 1) := by decide +kernel
theorem d_M_exponent_82 : decode nb_M_exponent 82 = .ok (.iadd, 1) := by decide +kernel
theorem d_M_exponent_83 : decode nb_M_exponent 83 = .ok (.goto 7, 3) := by decide +kernel
theorem d_M_exponent_86 : decode nb_M_exponent 86 = .ok (.aload_n 0, 1) := by decide +kernel
theorem d_M_exponent_87 : decode nb_M_exponent 87 = .ok (.getfield 104, 3) := by decide +kernel
theorem d_M_exponent_90 : decode nb_M_exponent 90 = .ok (.putfield 104, 3) := by decide +kernel
theorem d_M_exponent_93 : decode nb_M_exponent 93 = .ok (.iconst 0, 1) := by decide +kernel
theorem d_M_exponent_94 : decode nb_M_exponent 94 = .ok (.istore_n 3, 1) := by decide +kernel
theorem d_M_exponent_95 : decode nb_M_exponent 95 = .ok (.iconst 0, 1) := by decide +kernel
theorem d_M_exponent_96 : decode nb_M_exponent 96 = .ok (.istore 4, 2) := by decide +kernel
theorem d_M_exponent_98 : decode nb_M_exponent 98 = .ok (.aload_n 0, 1) := by decide +kernel
theorem d_M_exponent_99 : decode nb_M_exponent 99 = .ok (.invokevirtual 110, 3) := by decide +kernel
theorem d_M_exponent_102 : decode nb_M_exponent 102 = .ok (.invokestatic 114, 3) := by decide +kernel
theorem d_M_exponent_105 : decode nb_M_exponent 105 = .ok (.ifCond .eq 38, 3) := by decide +kernel
theorem d_M_exponent_108 : decode nb_M_exponent 108 = .ok (.iload 4, 2) := by decide +kernel
theorem d_M_exponent_110 : decode nb_M_exponent 110 = .ok (.iconst 3, 1) := by decide +kernel
theorem d_M_exponent_111 : decode nb_M_exponent 111 = .ok (.if_icmp .ge 32, 3) := by decide +kernel
theorem d_M_exponent_114 : decode nb_M_exponent 114 = .ok (.bipush 10, 2) := by decide +kernel
theorem d_M_exponent_116 : decode nb_M_exponent 116 = .ok (.iload_n 3, 1) := by decide +kernel
theorem d_M_exponent_117 : decode nb_M_exponent 117 = .ok (.imul, 1) := by decide +kernel
theorem d_M_exponent_118 : decode nb_M_exponent 118 = .ok (.aload_n 0, 1) := by decide +kernel
theorem d_M_exponent_119 : decode nb_M_exponent 119 = .ok (.invokevirtual 110, 3) := by decide +kernel
theorem d_M_exponent_122 : decode nb_M_exponent 122 = .ok (.iadd, 1) := by decide +kernel
theorem d_M_exponent_123 : decode nb_M_exponent 123 = .ok (.bipush 48, 2) := by decide +kernel
theorem d_M_exponent_125 : decode nb_M_exponent 125 = .ok (.isub, 1) := by decide +kernel
theorem d_M_exponent_126 : decode nb_M_exponent 126 = .ok (.istore_n 3, 1) := by decide +kernel
theorem d_M_exponent_127 : decode nb_M_exponent 127 = .ok (.aload_n 0, 1) := by decide +kernel
theorem d_M_exponent_128 : decode nb_M_exponent 128 = .ok (.dup, 1) := by decide +kernel
theorem d_M_exponent_129 : decode nb_M_exponent 129 = .ok (.getfield 104, 3) := by decide +kernel
theorem d_M_exponent_132 : decode nb_M_exponent 132 = .ok (.iconst 1, 1) := by decide +kernel
theorem d_M_exponent_133 : decode nb_M_exponent 133 = .ok (.iadd, 1) := by decide +kernel
theorem d_M_exponent_134 : decode nb_M_exponent 134 = .ok (.putfield 104, 3) := by decide +kernel
theorem d_M_exponent_137 : decode nb_M_exponent 137 = .ok (.iinc 4 1, 3) := by decide +kernel
theorem d_M_exponent_140 : decode nb_M_exponent 140 = .ok (.goto (-42), 3) := by decide +kernel
theorem d_M_exponent_143 : decode nb_M_exponent 143 = .ok (.iload 4, 2) := by decide +kernel
theorem d_M_exponent_145 : decode nb_M_exponent 145 = .ok (.ifCond .eq 14, 3) := by decide +kernel
theorem d_M_exponent_148 : decode nb_M_exponent 148 = .ok (.aload_n 0, 1) := by decide +kernel
theorem d_M_exponent_149 : decode nb_M_exponent 149 = .ok (.getfield 104, 3) := by decide +kernel
theorem d_M_exponent_152 : decode nb_M_exponent 152 = .ok (.aload_n 0, 1) := by decide +kernel
theorem d_M_exponent_153 : decode nb_M_exponent 153 = .ok (.getfield 107, 3) := by decide +kernel
theorem d_M_exponent_156 : decode nb_M_exponent 156 = .ok (.if_icmp .ge 9, 3) := by decide +kernel
theorem d_M_exponent_159 : decode nb_M_exponent 159 = .ok (.sipush 9999, 3) := by decide +kernel
theorem d_M_exponent_162 : decode nb_M_exponent 162 = .ok (.goto 13, 3) := by decide +kernel
theorem d_M_exponent_165 : decode nb_M_exponent 165 = .ok (.iload_n 2, 1) := by decide +kernel
theorem d_M_exponent_166 : decode nb_M_exponent 166 = .ok (.ifCond .eq 8, 3) := by decide +kernel
theorem d_M_exponent_169 : decode nb_M_exponent 169 = .ok (.iload_n 3, 1) := by decide +kernel
theorem d_M_exponent_170 : decode nb_M_exponent 170 = .ok (.ineg, 1) := by decide +kernel
theorem d_M_exponent_171 : decode nb_M_exponent 171 = .ok (.goto 4, 3) := by decide +kernel
theorem d_M_exponent_174 : decode nb_M_exponent 174 = .ok (.iload_n 3, 1) := by decide +kernel
theorem d_M_exponent_175 : decode nb_M_exponent 175 = .ok (.ireturn, 1) := by decide +kernel
abbrev rm_M_exponent : Room := ({ frames := 1, cells := 0, slots := 0, locals := 20 })
theorem w_M_exponent_36 {post : Int32 → nf_M → Prop} (hfl : l.flags = flags0) (K : nf_K p s m args meth c "NumberForgeModel" nb_M_exponent 5 (some FieldType.int) D a sz) : ∀ (xy0 : Int32) (M : nf_M) (H : Heap) (locs : List Loc) (ls : Array Slot), B_M_exponent_36 post xy0 M → lv_has ls 5 [] → nf_W D a s sz H locs M → W p l e rm_M_exponent s m args below meth c H locs 0 0 (nf_MQ below (nf_Q nf_jI D a post ex (nf_A a sz)) args s rm_M_exponent.cells rm_M_exponent.slots (nf_A a sz)) (F0 m 36 ls [.int xy0]) := by
  have hx := K.1
  have hb := K.2.1
  intro xy0 M H locs ls h hl hw
  exact nf_iret K hw d_M_exponent_36 rfl (Nat.le_of_ble_eq_true rfl) (Nat.le_of_ble_eq_true rfl) (r := xy0) rfl h
theorem w_M_exponent_175 {post : Int32 → nf_M → Prop} (hfl : l.flags = flags0) (K : nf_K p s m args meth c "NumberForgeModel" nb_M_exponent 5 (some FieldType.int) D a sz) : ∀ (xy0 : Int32) (M : nf_M) (H : Heap) (locs : List Loc) (ls : Array Slot), B_M_exponent_175 post xy0 M → lv_has ls 5 [] → nf_W D a s sz H locs M → W p l e rm_M_exponent s m args below meth c H locs 0 0 (nf_MQ below (nf_Q nf_jI D a post ex (nf_A a sz)) args s rm_M_exponent.cells rm_M_exponent.slots (nf_A a sz)) (F0 m 175 ls [.int xy0]) := by
  have hx := K.1
  have hb := K.2.1
  intro xy0 M H locs ls h hl hw
  exact nf_iret K hw d_M_exponent_175 rfl (Nat.le_of_ble_eq_true rfl) (Nat.le_of_ble_eq_true rfl) (r := xy0) rfl h
theorem w_M_exponent_159 {post : Int32 → nf_M → Prop} (hfl : l.flags = flags0) (K : nf_K p s m args meth c "NumberForgeModel" nb_M_exponent 5 (some FieldType.int) D a sz) : ∀ (M : nf_M) (H : Heap) (locs : List Loc) (ls : Array Slot), B_M_exponent_159 post  M → lv_has ls 5 [] → nf_W D a s sz H locs M → W p l e rm_M_exponent s m args below meth c H locs 0 0 (nf_MQ below (nf_Q nf_jI D a post ex (nf_A a sz)) args s rm_M_exponent.cells rm_M_exponent.slots (nf_A a sz)) (F0 m 159 ls []) := by
  have hx := K.1
  have hb := K.2.1
  intro  M H locs ls h hl hw
  refine lv_sipush (v := (9999 : Int32)) hx hb d_M_exponent_159 (by decide) ?_
  refine lv_goto hx hb d_M_exponent_162 (tgt := 175) (by decide) ?_
  exact w_M_exponent_175 hfl K (9999 : Int32) M _ _ _ h (lv_sub hl [] rfl) hw
theorem w_M_exponent_143 {post : Int32 → nf_M → Prop} (hfl : l.flags = flags0) (K : nf_K p s m args meth c "NumberForgeModel" nb_M_exponent 5 (some FieldType.int) D a sz) : ∀ (x2 : Int32) (x3 : Int32) (x4 : Int32) (M : nf_M) (H : Heap) (locs : List Loc) (ls : Array Slot), B_M_exponent_143 post x2 x3 x4 M → lv_has ls 5 [(0, .ref (a 19)), (2, .int x2), (3, .int x3), (4, .int x4)] → nf_W D a s sz H locs M → W p l e rm_M_exponent s m args below meth c H locs 0 0 (nf_MQ below (nf_Q nf_jI D a post ex (nf_A a sz)) args s rm_M_exponent.cells rm_M_exponent.slots (nf_A a sz)) (F0 m 143 ls []) := by
  have hx := K.1
  have hb := K.2.1
  intro x2 x3 x4 M H locs ls h hl hw
  refine lv_iload hx hb d_M_exponent_143 (lv_at hl 3 rfl) ?_
  refine nf_if_eq hx hb d_M_exponent_145 (tgt := 159) (by decide) (fun hc => ?_) (fun hc => ?_)
  · have h := h.1 hc
    exact w_M_exponent_159 hfl K  M _ _ _ h (lv_sub hl [] rfl) hw
  · have h := h.2 hc
    refine lv_aload_n hx hb d_M_exponent_148 rfl (lv_at hl 0 rfl) ?_
    refine nf_get (v := .int (mg_I M 19 15)) K hw 19 7 15 nw_946 rfl rfl ni_M (by decide) rfl rfl d_M_exponent_149 ?_
    refine lv_aload_n hx hb d_M_exponent_152 rfl (lv_at hl 0 rfl) ?_
    refine nf_get (v := .int (mg_I M 19 16)) K hw 19 7 16 nw_947 rfl rfl ni_M (by decide) rfl rfl d_M_exponent_153 ?_
    refine nf_ic_ge hx hb d_M_exponent_156 (tgt := 165) (by decide) (fun hc => ?_) (fun hc => ?_)
    · have h := h.1 hc
      exact w_M_exponent_159 hfl K  M _ _ _ h (lv_sub hl [] rfl) hw
    · have h := h.2 hc
      refine lv_iload_n hx hb d_M_exponent_165 rfl (lv_at hl 1 rfl) ?_
      refine nf_if_eq hx hb d_M_exponent_166 (tgt := 174) (by decide) (fun hc => ?_) (fun hc => ?_)
      · have h := h.1 hc
        refine lv_iload_n hx hb d_M_exponent_174 rfl (lv_at hl 2 rfl) ?_
        exact w_M_exponent_175 hfl K x3 M _ _ _ h (lv_sub hl [] rfl) hw
      · have h := h.2 hc
        refine lv_iload_n hx hb d_M_exponent_169 rfl (lv_at hl 2 rfl) ?_
        refine lv_ineg hx hb d_M_exponent_170 ?_
        refine lv_goto hx hb d_M_exponent_171 (tgt := 175) (by decide) ?_
        exact w_M_exponent_175 hfl K (-x3) M _ _ _ h (lv_sub hl [] rfl) hw
theorem w_M_exponent_98 {post : Int32 → nf_M → Prop} (hfl : l.flags = flags0) (K : nf_K p s m args meth c "NumberForgeModel" nb_M_exponent 5 (some FieldType.int) D a sz) : ∀ (n : Nat) (x2 : Int32) (x3 : Int32) (x4 : Int32) (M : nf_M) (H : Heap) (locs : List Loc) (ls : Array Slot), B_M_exponent_98 post n x2 x3 x4 M → lv_has ls 5 [(0, .ref (a 19)), (2, .int x2), (3, .int x3), (4, .int x4)] → nf_W D a s sz H locs M → W p l e rm_M_exponent s m args below meth c H locs 0 0 (nf_MQ below (nf_Q nf_jI D a post ex (nf_A a sz)) args s rm_M_exponent.cells rm_M_exponent.slots (nf_A a sz)) (F0 m 98 ls []) := by
  have hx := K.1
  have hb := K.2.1
  intro n
  induction n with
  | zero => intro x2 x3 x4 M H locs ls h hl hw; exact h.elim
  | succ n ih =>
    intro x2 x3 x4 M H locs ls h hl hw
    refine lv_aload_n hx hb d_M_exponent_98 rfl (lv_at hl 0 rfl) ?_
    refine nf_callW (ex := (fun _ _ => False)) (As := [.ref (a 19)]) (st0 := [.ref (a 19)]) (rest := []) K hw (nf_invV hx hb K.2.2.2.1 (nf_Kg K nw_1018) (nf_Kg K nw_1020) (nf_Kg K nx_M_here) (nf_Kg K nw_1021) ⟨by decide, by decide⟩ (nf_rcv K hw 19 7 rfl rfl) rfl nl_M_here rfl d_M_exponent_99) (c_M_here l hfl ) nw_1021 nw_9 rfl ⟨by decide, by decide⟩ (Nat.le_of_ble_eq_true rfl) hl.1 ⟨Nat.le_of_ble_eq_true rfl, Nat.le_of_ble_eq_true rfl⟩ h (fun _ _ h => h.elim) (fun r1 M2 H locs h hw => ?_)
    refine W.eq (g2 := F0 m 102 ls [.int r1]) rfl ?_
    refine nf_callW (ex := (fun _ _ => False)) (As := [.int r1]) (st0 := [.int r1]) (rest := []) K hw (nf_invS hx hb K.2.2.2.1 (nf_Kg K nw_1026) (nf_Kg K nw_1027) (nf_Kg K nw_9) (nf_Kg K nw_1028) ⟨by decide, by decide⟩ rfl nl_M_isDigit rfl d_M_exponent_102) (c_M_isDigit l hfl r1) nw_1028 nw_9 rfl ⟨by decide, by decide⟩ (Nat.le_of_ble_eq_true rfl) hl.1 ⟨Nat.le_of_ble_eq_true rfl, Nat.le_of_ble_eq_true rfl⟩ h (fun _ _ h => h.elim) (fun r3 M4 H locs h hw => ?_)
    refine W.eq (g2 := F0 m 105 ls [.int r3]) rfl ?_
    refine nf_if_eq hx hb d_M_exponent_105 (tgt := 143) (by decide) (fun hc => ?_) (fun hc => ?_)
    · have h := h.1 hc
      exact w_M_exponent_143 hfl K x2 x3 x4 M4 _ _ _ h (lv_sub hl [0, 1, 2, 3] rfl) hw
    · have h := h.2 hc
      refine lv_iload hx hb d_M_exponent_108 (lv_at hl 3 rfl) ?_
      refine lv_iconst (v := (3 : Int32)) hx hb d_M_exponent_110 (by decide) ?_
      refine nf_ic_ge hx hb d_M_exponent_111 (tgt := 143) (by decide) (fun hc => ?_) (fun hc => ?_)
      · have h := h.1 hc
        refine lv_bipush (v := (10 : Int32)) hx hb d_M_exponent_114 (by decide) ?_
        refine lv_iload_n hx hb d_M_exponent_116 rfl (lv_at hl 2 rfl) ?_
        refine lv_imul hx hb d_M_exponent_117 ?_
        refine lv_aload_n hx hb d_M_exponent_118 rfl (lv_at hl 0 rfl) ?_
        refine nf_callW (ex := (fun _ _ => False)) (As := [.ref (a 19)]) (st0 := [.ref (a 19), .int ((10 : Int32) * x3)]) (rest := [.int ((10 : Int32) * x3)]) K hw (nf_invV hx hb K.2.2.2.1 (nf_Kg K nw_1018) (nf_Kg K nw_1020) (nf_Kg K nx_M_here) (nf_Kg K nw_1021) ⟨by decide, by decide⟩ (nf_rcv K hw 19 7 rfl rfl) rfl nl_M_here rfl d_M_exponent_119) (c_M_here l hfl ) nw_1021 nw_9 rfl ⟨by decide, by decide⟩ (Nat.le_of_ble_eq_true rfl) hl.1 ⟨Nat.le_of_ble_eq_true rfl, Nat.le_of_ble_eq_true rfl⟩ h (fun _ _ h => h.elim) (fun r5 M6 H locs h hw => ?_)
        refine W.eq (g2 := F0 m 122 ls [.int r5, .int ((10 : Int32) * x3)]) rfl ?_
        refine lv_iadd hx hb d_M_exponent_122 ?_
        refine lv_bipush (v := (48 : Int32)) hx hb d_M_exponent_123 (by decide) ?_
        refine lv_isub hx hb d_M_exponent_125 ?_
        refine lv_topi (fun t7 et7 => ?_)
        have h := h t7 et7
        refine lv_istore_n (lv' := [(3, .int t7), (0, .ref (a 19)), (2, .int x2), (4, .int x4)]) hx hb d_M_exponent_126 rfl hl (by decide) rfl (fun ls hl => ?_)
        refine lv_aload_n hx hb d_M_exponent_127 rfl (lv_at hl 1 rfl) ?_
        refine lv_dup hx hb d_M_exponent_128 rfl ?_
        refine nf_get (v := .int (mg_I M6 19 15)) K hw 19 7 15 nw_946 rfl rfl ni_M (by decide) rfl rfl d_M_exponent_129 ?_
        refine lv_iconst (v := (1 : Int32)) hx hb d_M_exponent_132 (by decide) ?_
        refine lv_iadd hx hb d_M_exponent_133 ?_
        refine lv_topi (fun t8 et8 => ?_)
        have h := h t8 et8
        refine nf_put (M' := ms_I M6 19 15 t8) K hw 19 7 15 nw_946 rfl rfl rfl ni_M ny_M nq_M nn_M (by decide) rfl rfl rfl rfl (Nat.le_of_ble_eq_true rfl) d_M_exponent_134 (fun H locs hw => ?_)
        obtain ⟨M9, eM9⟩ : ∃ z, z = ms_I M6 19 15 t8 := ⟨_, rfl⟩
        rw [← eM9] at hw
        have h := h M9 eM9
        refine lv_iinc (k := 3) (v := x4 + (1 : Int32)) (lv' := [(4, .int (x4 + (1 : Int32))), (3, .int t7), (0, .ref (a 19)), (2, .int x2)]) hx hb d_M_exponent_137 hl rfl (nf_inc (by decide)) (by decide) rfl (fun ls hl => ?_)
        refine lv_goto hx hb d_M_exponent_140 (tgt := 98) (by decide) ?_
        exact ih x2 t7 (x4 + (1 : Int32)) M9 _ _ _ h (lv_sub hl [2, 3, 1, 0] rfl) hw
      · have h := h.2 hc
        exact w_M_exponent_143 hfl K x2 x3 x4 M4 _ _ _ h (lv_sub hl [0, 1, 2, 3] rfl) hw
theorem w_M_exponent_90 {post : Int32 → nf_M → Prop} (hfl : l.flags = flags0) (K : nf_K p s m args meth c "NumberForgeModel" nb_M_exponent 5 (some FieldType.int) D a sz) : ∀ (x2 : Int32) (xy0 : Int32) (M : nf_M) (H : Heap) (locs : List Loc) (ls : Array Slot), B_M_exponent_90 post x2 xy0 M → lv_has ls 5 [(0, .ref (a 19)), (2, .int x2)] → nf_W D a s sz H locs M → W p l e rm_M_exponent s m args below meth c H locs 0 0 (nf_MQ below (nf_Q nf_jI D a post ex (nf_A a sz)) args s rm_M_exponent.cells rm_M_exponent.slots (nf_A a sz)) (F0 m 90 ls [.int xy0, .ref (a 19)]) := by
  have hx := K.1
  have hb := K.2.1
  intro x2 xy0 M H locs ls h hl hw
  refine nf_put (M' := ms_I M 19 15 xy0) K hw 19 7 15 nw_946 rfl rfl rfl ni_M ny_M nq_M nn_M (by decide) rfl rfl rfl rfl (Nat.le_of_ble_eq_true rfl) d_M_exponent_90 (fun H locs hw => ?_)
  obtain ⟨M1, eM1⟩ : ∃ z, z = ms_I M 19 15 xy0 := ⟨_, rfl⟩
  rw [← eM1] at hw
  have h := h M1 eM1
  refine lv_iconst (v := (0 : Int32)) hx hb d_M_exponent_93 (by decide) ?_
  refine lv_istore_n (lv' := [(3, .int (0 : Int32)), (0, .ref (a 19)), (2, .int x2)]) hx hb d_M_exponent_94 rfl hl (by decide) rfl (fun ls hl => ?_)
  refine lv_iconst (v := (0 : Int32)) hx hb d_M_exponent_95 (by decide) ?_
  refine lv_istore (lv' := [(4, .int (0 : Int32)), (3, .int (0 : Int32)), (0, .ref (a 19)), (2, .int x2)]) hx hb d_M_exponent_96 hl (by decide) rfl (fun ls hl => ?_)
  obtain ⟨n, h⟩ := h
  exact w_M_exponent_98 hfl K n x2 (0 : Int32) (0 : Int32) M1 _ _ _ h (lv_sub hl [2, 3, 1, 0] rfl) hw
theorem w_M_exponent_77 {post : Int32 → nf_M → Prop} (hfl : l.flags = flags0) (K : nf_K p s m args meth c "NumberForgeModel" nb_M_exponent 5 (some FieldType.int) D a sz) : ∀ (x2 : Int32) (M : nf_M) (H : Heap) (locs : List Loc) (ls : Array Slot), B_M_exponent_77 post x2 M → lv_has ls 5 [(0, .ref (a 19)), (2, .int x2)] → nf_W D a s sz H locs M → W p l e rm_M_exponent s m args below meth c H locs 0 0 (nf_MQ below (nf_Q nf_jI D a post ex (nf_A a sz)) args s rm_M_exponent.cells rm_M_exponent.slots (nf_A a sz)) (F0 m 77 ls [.ref (a 19)]) := by
  have hx := K.1
  have hb := K.2.1
  intro x2 M H locs ls h hl hw
  refine lv_aload_n hx hb d_M_exponent_77 rfl (lv_at hl 0 rfl) ?_
  refine nf_get (v := .int (mg_I M 19 15)) K hw 19 7 15 nw_946 rfl rfl ni_M (by decide) rfl rfl d_M_exponent_78 ?_
  refine lv_iconst (v := (1 : Int32)) hx hb d_M_exponent_81 (by decide) ?_
  refine lv_iadd hx hb d_M_exponent_82 ?_
  refine lv_goto hx hb d_M_exponent_83 (tgt := 90) (by decide) ?_
  exact w_M_exponent_90 hfl K x2 ((mg_I M 19 15) + (1 : Int32)) M _ _ _ h (lv_sub hl [0, 1] rfl) hw
theorem w_M_exponent_63 {post : Int32 → nf_M → Prop} (hfl : l.flags = flags0) (K : nf_K p s m args meth c "NumberForgeModel" nb_M_exponent 5 (some FieldType.int) D a sz) : ∀ (x1 : Int32) (xy0 : Int32) (M : nf_M) (H : Heap) (locs : List Loc) (ls : Array Slot), B_M_exponent_63 post x1 xy0 M → lv_has ls 5 [(0, .ref (a 19)), (1, .int x1)] → nf_W D a s sz H locs M → W p l e rm_M_exponent s m args below meth c H locs 0 0 (nf_MQ below (nf_Q nf_jI D a post ex (nf_A a sz)) args s rm_M_exponent.cells rm_M_exponent.slots (nf_A a sz)) (F0 m 63 ls [.int xy0]) := by
  have hx := K.1
  have hb := K.2.1
  intro x1 xy0 M H locs ls h hl hw
  refine lv_istore_n (lv' := [(2, .int xy0), (0, .ref (a 19)), (1, .int x1)]) hx hb d_M_exponent_63 rfl hl (by decide) rfl (fun ls hl => ?_)
  refine lv_aload_n hx hb d_M_exponent_64 rfl (lv_at hl 1 rfl) ?_
  refine lv_iload_n hx hb d_M_exponent_65 rfl (lv_at hl 2 rfl) ?_
  refine lv_bipush (v := (45 : Int32)) hx hb d_M_exponent_66 (by decide) ?_
  refine nf_ic_eq hx hb d_M_exponent_68 (tgt := 77) (by decide) (fun hc => ?_) (fun hc => ?_)
  · have h := h.1 hc
    exact w_M_exponent_77 hfl K xy0 M _ _ _ h (lv_sub hl [1, 0] rfl) hw
  · have h := h.2 hc
    refine lv_iload_n hx hb d_M_exponent_71 rfl (lv_at hl 2 rfl) ?_
    refine lv_bipush (v := (43 : Int32)) hx hb d_M_exponent_72 (by decide) ?_
    refine nf_ic_ne hx hb d_M_exponent_74 (tgt := 86) (by decide) (fun hc => ?_) (fun hc => ?_)
    · have h := h.1 hc
      exact w_M_exponent_77 hfl K xy0 M _ _ _ h (lv_sub hl [1, 0] rfl) hw
    · have h := h.2 hc
      refine lv_aload_n hx hb d_M_exponent_86 rfl (lv_at hl 1 rfl) ?_
      refine nf_get (v := .int (mg_I M 19 15)) K hw 19 7 15 nw_946 rfl rfl ni_M (by decide) rfl rfl d_M_exponent_87 ?_
      exact w_M_exponent_90 hfl K xy0 (mg_I M 19 15) M _ _ _ h (lv_sub hl [1, 0] rfl) hw
theorem w_M_exponent_37 {post : Int32 → nf_M → Prop} (hfl : l.flags = flags0) (K : nf_K p s m args meth c "NumberForgeModel" nb_M_exponent 5 (some FieldType.int) D a sz) : ∀ (M : nf_M) (H : Heap) (locs : List Loc) (ls : Array Slot), B_M_exponent_37 post  M → lv_has ls 5 [(0, .ref (a 19))] → nf_W D a s sz H locs M → W p l e rm_M_exponent s m args below meth c H locs 0 0 (nf_MQ below (nf_Q nf_jI D a post ex (nf_A a sz)) args s rm_M_exponent.cells rm_M_exponent.slots (nf_A a sz)) (F0 m 37 ls []) := by
  have hx := K.1
  have hb := K.2.1
  intro  M H locs ls h hl hw
  refine lv_aload_n hx hb d_M_exponent_37 rfl (lv_at hl 0 rfl) ?_
  refine lv_dup hx hb d_M_exponent_38 rfl ?_
  refine nf_get (v := .int (mg_I M 19 15)) K hw 19 7 15 nw_946 rfl rfl ni_M (by decide) rfl rfl d_M_exponent_39 ?_
  refine lv_iconst (v := (1 : Int32)) hx hb d_M_exponent_42 (by decide) ?_
  refine lv_iadd hx hb d_M_exponent_43 ?_
  refine lv_topi (fun t1 et1 => ?_)
  have h := h t1 et1
  refine nf_put (M' := ms_I M 19 15 t1) K hw 19 7 15 nw_946 rfl rfl rfl ni_M ny_M nq_M nn_M (by decide) rfl rfl rfl rfl (Nat.le_of_ble_eq_true rfl) d_M_exponent_44 (fun H locs hw => ?_)
  obtain ⟨M2, eM2⟩ : ∃ z, z = ms_I M 19 15 t1 := ⟨_, rfl⟩
  rw [← eM2] at hw
  have h := h M2 eM2
  refine lv_aload_n hx hb d_M_exponent_47 rfl (lv_at hl 0 rfl) ?_
  refine nf_callW (ex := (fun _ _ => False)) (As := [.ref (a 19)]) (st0 := [.ref (a 19)]) (rest := []) K hw (nf_invV hx hb K.2.2.2.1 (nf_Kg K nw_1018) (nf_Kg K nw_1020) (nf_Kg K nx_M_here) (nf_Kg K nw_1021) ⟨by decide, by decide⟩ (nf_rcv K hw 19 7 rfl rfl) rfl nl_M_here rfl d_M_exponent_48) (c_M_here l hfl ) nw_1021 nw_9 rfl ⟨by decide, by decide⟩ (Nat.le_of_ble_eq_true rfl) hl.1 ⟨Nat.le_of_ble_eq_true rfl, Nat.le_of_ble_eq_true rfl⟩ h (fun _ _ h => h.elim) (fun r3 M4 H locs h hw => ?_)
  refine W.eq (g2 := F0 m 51 ls [.int r3]) rfl ?_
  refine lv_istore_n (lv' := [(1, .int r3), (0, .ref (a 19))]) hx hb d_M_exponent_51 rfl hl (by decide) rfl (fun ls hl => ?_)
  refine lv_iload_n hx hb d_M_exponent_52 rfl (lv_at hl 0 rfl) ?_
  refine lv_bipush (v := (45 : Int32)) hx hb d_M_exponent_53 (by decide) ?_
  refine nf_ic_ne hx hb d_M_exponent_55 (tgt := 62) (by decide) (fun hc => ?_) (fun hc => ?_)
  · have h := h.1 hc
    refine lv_iconst (v := (1 : Int32)) hx hb d_M_exponent_58 (by decide) ?_
    refine lv_goto hx hb d_M_exponent_59 (tgt := 63) (by decide) ?_
    exact w_M_exponent_63 hfl K r3 (1 : Int32) M4 _ _ _ h (lv_sub hl [1, 0] rfl) hw
  · have h := h.2 hc
    refine lv_iconst (v := (0 : Int32)) hx hb d_M_exponent_62 (by decide) ?_
    exact w_M_exponent_63 hfl K r3 (0 : Int32) M4 _ _ _ h (lv_sub hl [1, 0] rfl) hw
theorem c_M_exponent (l : Launch) (hfl : l.flags = flags0) : nf_C nf_jI l nm_M_exponent nb_M_exponent 5 (some FieldType.int) rm_M_exponent (fun a => [.ref (a 19)]) (fun M post ex => P_M_exponent  M post) := by
  refine nf_start (plainFor_of_name (by decide +kernel)) (fun a => Nat.le_of_ble_eq_true rfl) ?_
  intro D a sz M post ex p e s m below meth c ls h K hl hw
  have hx := K.1
  have hb := K.2.1
  have hl : lv_has ls 5 [(0, .ref (a 19))] := hl
  refine lv_aload_n hx hb d_M_exponent_0 rfl (lv_at hl 0 rfl) ?_
  refine nf_callW (ex := (fun _ _ => False)) (As := [.ref (a 19)]) (st0 := [.ref (a 19)]) (rest := []) K hw (nf_invV hx hb K.2.2.2.1 (nf_Kg K nw_1018) (nf_Kg K nw_1020) (nf_Kg K nx_M_here) (nf_Kg K nw_1021) ⟨by decide, by decide⟩ (nf_rcv K hw 19 7 rfl rfl) rfl nl_M_here rfl d_M_exponent_1) (c_M_here l hfl ) nw_1021 nw_9 rfl ⟨by decide, by decide⟩ (Nat.le_of_ble_eq_true rfl) hl.1 ⟨Nat.le_of_ble_eq_true rfl, Nat.le_of_ble_eq_true rfl⟩ h (fun _ _ h => h.elim) (fun r1 M2 H locs h hw => ?_)
  refine W.eq (g2 := F0 m 4 ls [.int r1]) rfl ?_
  refine lv_bipush (v := (101 : Int32)) hx hb d_M_exponent_4 (by decide) ?_
  refine nf_ic_eq hx hb d_M_exponent_6 (tgt := 37) (by decide) (fun hc => ?_) (fun hc => ?_)
  · have h := h.1 hc
    exact w_M_exponent_37 hfl K  M2 _ _ _ h (lv_sub hl [0] rfl) hw
  · have h := h.2 hc
    refine lv_aload_n hx hb d_M_exponent_9 rfl (lv_at hl 0 rfl) ?_
    refine nf_callW (ex := (fun _ _ => False)) (As := [.ref (a 19)]) (st0 := [.ref (a 19)]) (rest := []) K hw (nf_invV hx hb K.2.2.2.1 (nf_Kg K nw_1018) (nf_Kg K nw_1020) (nf_Kg K nx_M_here) (nf_Kg K nw_1021) ⟨by decide, by decide⟩ (nf_rcv K hw 19 7 rfl rfl) rfl nl_M_here rfl d_M_exponent_10) (c_M_here l hfl ) nw_1021 nw_9 rfl ⟨by decide, by decide⟩ (Nat.le_of_ble_eq_true rfl) hl.1 ⟨Nat.le_of_ble_eq_true rfl, Nat.le_of_ble_eq_true rfl⟩ h (fun _ _ h => h.elim) (fun r3 M4 H locs h hw => ?_)
    refine W.eq (g2 := F0 m 13 ls [.int r3]) rfl ?_
    refine lv_bipush (v := (69 : Int32)) hx hb d_M_exponent_13 (by decide) ?_
    refine nf_ic_eq hx hb d_M_exponent_15 (tgt := 37) (by decide) (fun hc => ?_) (fun hc => ?_)
    · have h := h.1 hc
      exact w_M_exponent_37 hfl K  M4 _ _ _ h (lv_sub hl [0] rfl) hw
    · have h := h.2 hc
      refine lv_aload_n hx hb d_M_exponent_18 rfl (lv_at hl 0 rfl) ?_
      refine nf_get (v := .int (mg_I M4 19 15)) K hw 19 7 15 nw_946 rfl rfl ni_M (by decide) rfl rfl d_M_exponent_19 ?_
      refine lv_aload_n hx hb d_M_exponent_22 rfl (lv_at hl 0 rfl) ?_
      refine nf_get (v := .int (mg_I M4 19 16)) K hw 19 7 16 nw_947 rfl rfl ni_M (by decide) rfl rfl d_M_exponent_23 ?_
      refine nf_ic_ne hx hb d_M_exponent_26 (tgt := 33) (by decide) (fun hc => ?_) (fun hc => ?_)
      · have h := h.1 hc
        refine lv_iconst (v := (0 : Int32)) hx hb d_M_exponent_29 (by decide) ?_
        refine lv_goto hx hb d_M_exponent_30 (tgt := 36) (by decide) ?_
        exact w_M_exponent_36 hfl K (0 : Int32) M4 _ _ _ h (lv_sub hl [] rfl) hw
      · have h := h.2 hc
        refine lv_sipush (v := (9999 : Int32)) hx hb d_M_exponent_33 (by decide) ?_
        exact w_M_exponent_36 hfl K (9999 : Int32) M4 _ _ _ h (lv_sub hl [] rfl) hw
theorem d_M_power_0 : decode nb_M_power 0 = .ok (.lconst 1, 1) := by decide +kernel
theorem d_M_power_1 : decode nb_M_power 1 = .ok (.lstore_n 1, 1) := by decide +kernel
theorem d_M_power_2 : decode nb_M_power 2 = .ok (.iconst 0, 1) := by decide +kernel
theorem d_M_power_3 : decode nb_M_power 3 = .ok (.istore_n 3, 1) := by decide +kernel
theorem d_M_power_4 : decode nb_M_power 4 = .ok (.iload_n 3, 1) := by decide +kernel
theorem d_M_power_5 : decode nb_M_power 5 = .ok (.iload_n 0, 1) := by decide +kernel
theorem d_M_power_6 : decode nb_M_power 6 = .ok (.if_icmp .ge 21, 3) := by decide +kernel
theorem d_M_power_9 : decode nb_M_power 9 = .ok (.iload_n 3, 1) := by decide +kernel
theorem d_M_power_10 : decode nb_M_power 10 = .ok (.bipush 18, 2) := by decide +kernel
theorem d_M_power_12 : decode nb_M_power 12 = .ok (.if_icmp .ge 15, 3) := by decide +kernel
theorem d_M_power_15 : decode nb_M_power 15 = .ok (.lload_n 1, 1) := by decide +kernel
theorem d_M_power_16 : decode nb_M_power 16 = .ok (.ldc2_w 40, 3) := by decide +kernel
theorem d_M_power_19 : decode nb_M_power 19 = .ok (.lmul, 1) := by decide +kernel
theorem d_M_power_20 : decode nb_M_power 20 = .ok (.lstore_n 1, 1) := by decide +kernel
theorem d_M_power_21 : decode nb_M_power 21 = .ok (.iinc 3 1, 3) := by decide +kernel
theorem d_M_power_24 : decode nb_M_power 24 = .ok (.goto (-20), 3) := by decide +kernel
theorem d_M_power_27 : decode nb_M_power 27 = .ok (.lload_n 1, 1) := by decide +kernel
theorem d_M_power_28 : decode nb_M_power 28 = .ok (.lreturn, 1) := by decide +kernel
abbrev rm_M_power : Room := ({ frames := 0, cells := 0, slots := 0, locals := 0 })
theorem w_M_power_27 {post : Int64 → nf_M → Prop} (hfl : l.flags = flags0) (K : nf_K p s m args meth c "NumberForgeModel" nb_M_power 4 (some FieldType.long) D a sz) : ∀ (x1 : Int64) (M : nf_M) (H : Heap) (locs : List Loc) (ls : Array Slot), B_M_power_27 post x1 M → lv_has ls 4 [(1, .long x1)] → nf_W D a s sz H locs M → W p l e rm_M_power s m args below meth c H locs 0 0 (nf_MQ below (nf_Q nf_jJ D a post ex (nf_A a sz)) args s rm_M_power.cells rm_M_power.slots (nf_A a sz)) (F0 m 27 ls []) := by
  have hx := K.1
  have hb := K.2.1
  intro x1 M H locs ls h hl hw
  refine lv_lload_n hx hb d_M_power_27 rfl (lv_at hl 0 rfl) ?_
  exact nf_lret K hw d_M_power_28 (Nat.le_of_ble_eq_true rfl) (Nat.le_of_ble_eq_true rfl) (r := x1) rfl h
theorem w_M_power_4 {post : Int64 → nf_M → Prop} (hfl : l.flags = flags0) (K : nf_K p s m args meth c "NumberForgeModel" nb_M_power 4 (some FieldType.long) D a sz) : ∀ (n : Nat) (x0 : Int32) (x1 : Int64) (x3 : Int32) (M : nf_M) (H : Heap) (locs : List Loc) (ls : Array Slot), B_M_power_4 post n x0 x1 x3 M → lv_has ls 4 [(0, .int x0), (1, .long x1), (3, .int x3)] → nf_W D a s sz H locs M → W p l e rm_M_power s m args below meth c H locs 0 0 (nf_MQ below (nf_Q nf_jJ D a post ex (nf_A a sz)) args s rm_M_power.cells rm_M_power.slots (nf_A a sz)) (F0 m 4 ls []) := by
  have hx := K.1
  have hb := K.2.1
  intro n
  induction n with
  | zero => intro x0 x1 x3 M H locs ls h hl hw; exact h.elim
  | succ n ih =>
    intro x0 x1 x3 M H locs ls h hl hw
    refine lv_iload_n hx hb d_M_power_4 rfl (lv_at hl 2 rfl) ?_
    refine lv_iload_n hx hb d_M_power_5 rfl (lv_at hl 0 rfl) ?_
    refine nf_ic_ge hx hb d_M_power_6 (tgt := 27) (by decide) (fun hc => ?_) (fun hc => ?_)
    · have h := h.1 hc
      refine lv_iload_n hx hb d_M_power_9 rfl (lv_at hl 2 rfl) ?_
      refine lv_bipush (v := (18 : Int32)) hx hb d_M_power_10 (by decide) ?_
      refine nf_ic_ge hx hb d_M_power_12 (tgt := 27) (by decide) (fun hc => ?_) (fun hc => ?_)
      · have h := h.1 hc
        refine lv_lload_n hx hb d_M_power_15 rfl (lv_at hl 1 rfl) ?_
        refine lv_ldc2 (v := (10 : Int64)) hx hb K.2.2.2.1 (nf_Kg K nw_1038) d_M_power_16 ?_
        refine lv_lmul hx hb d_M_power_19 ?_
        refine lv_topl (fun t1 et1 => ?_)
        have h := h t1 et1
        refine lv_lstore_n (lv' := [(1, .long t1), (0, .int x0), (3, .int x3)]) hx hb d_M_power_20 rfl hl (by decide) rfl (fun ls hl => ?_)
        refine lv_iinc (k := 2) (v := x3 + (1 : Int32)) (lv' := [(3, .int (x3 + (1 : Int32))), (1, .long t1), (0, .int x0)]) hx hb d_M_power_21 hl rfl (nf_inc (by decide)) (by decide) rfl (fun ls hl => ?_)
        refine lv_goto hx hb d_M_power_24 (tgt := 4) (by decide) ?_
        exact ih x0 t1 (x3 + (1 : Int32)) M _ _ _ h (lv_sub hl [2, 1, 0] rfl) hw
      · have h := h.2 hc
        exact w_M_power_27 hfl K x1 M _ _ _ h (lv_sub hl [1] rfl) hw
    · have h := h.2 hc
      exact w_M_power_27 hfl K x1 M _ _ _ h (lv_sub hl [1] rfl) hw
theorem c_M_power (l : Launch) (hfl : l.flags = flags0) (x0 : Int32) : nf_C nf_jJ l nm_M_power nb_M_power 4 (some FieldType.long) rm_M_power (fun a => [.int x0]) (fun M post ex => P_M_power x0 M post) := by
  refine nf_start (plainFor_of_name (by decide +kernel)) (fun a => Nat.le_of_ble_eq_true rfl) ?_
  intro D a sz M post ex p e s m below meth c ls h K hl hw
  have hx := K.1
  have hb := K.2.1
  have hl : lv_has ls 4 [(0, .int x0)] := hl
  refine lv_lconst (v := (1 : Int64)) hx hb d_M_power_0 (by decide) ?_
  refine lv_lstore_n (lv' := [(1, .long (1 : Int64)), (0, .int x0)]) hx hb d_M_power_1 rfl hl (by decide) rfl (fun ls hl => ?_)
  refine lv_iconst (v := (0 : Int32)) hx hb d_M_power_2 (by decide) ?_
  refine lv_istore_n (lv' := [(3, .int (0 : Int32)), (1, .long (1 : Int64)), (0, .int x0)]) hx hb d_M_power_3 rfl hl (by decide) rfl (fun ls hl => ?_)
  obtain ⟨n, h⟩ := h
  exact w_M_power_4 hfl K n x0 (1 : Int64) (0 : Int32) M _ _ _ h (lv_sub hl [2, 1, 0] rfl) hw
theorem d_M_ten_0 : decode nb_M_ten 0 = .ok (.iload_n 0, 1) := by decide +kernel
theorem d_M_ten_1 : decode nb_M_ten 1 = .ok (.bipush 19, 2) := by decide +kernel
theorem d_M_ten_3 : decode nb_M_ten 3 = .ok (.if_icmp .ge 11, 3) := by decide +kernel
theorem d_M_ten_6 : decode nb_M_ten 6 = .ok (.iload_n 0, 1) := by decide +kernel
theorem d_M_ten_7 : decode nb_M_ten 7 = .ok (.invokestatic 42, 3) := by decide +kernel
theorem d_M_ten_10 : decode nb_M_ten 10 = .ok (.l2d, 1) := by decide +kernel
theorem d_M_ten_11 : decode nb_M_ten 11 = .ok (.goto 15, 3) := by decide +kernel
theorem d_M_ten_14 : decode nb_M_ten 14 = .ok (.iload_n 0, 1) := by decide +kernel
theorem d_M_ten_15 : decode nb_M_ten 15 = .ok (.bipush 11, 2) := by decide +kernel
theorem d_M_ten_17 : decode nb_M_ten 17 = .ok (.isub, 1) := by decide +kernel
theorem d_M_ten_18 : decode nb_M_ten 18 = .ok (.invokestatic 42, 3) := by decide +kernel
theorem d_M_ten_21 : decode nb_M_ten 21 = .ok (.l2d, 1) := by decide +kernel
theorem d_M_ten_22 : decode nb_M_ten 22 = .ok (.ldc2_w 46, 3) := by decide +kernel
theorem d_M_ten_25 : decode nb_M_ten 25 = .ok (.dmul, 1) := by decide +kernel
theorem d_M_ten_26 : decode nb_M_ten 26 = .ok (.dreturn, 1) := by decide +kernel
abbrev rm_M_ten : Room := ({ frames := 1, cells := 0, slots := 0, locals := 23 })
theorem w_M_ten_26 {post : UInt64 → nf_M → Prop} (hfl : l.flags = flags0) (K : nf_K p s m args meth c "NumberForgeModel" nb_M_ten 1 (some FieldType.double) D a sz) : ∀ (xy0 : UInt64) (M : nf_M) (H : Heap) (locs : List Loc) (ls : Array Slot), B_M_ten_26 post xy0 M → lv_has ls 1 [] → nf_W D a s sz H locs M → W p l e rm_M_ten s m args below meth c H locs 0 0 (nf_MQ below (nf_Q nf_jD D a post ex (nf_A a sz)) args s rm_M_ten.cells rm_M_ten.slots (nf_A a sz)) (F0 m 26 ls [.double xy0]) := by
  have hx := K.1
  have hb := K.2.1
  intro xy0 M H locs ls h hl hw
  exact nf_dret K hw d_M_ten_26 (Nat.le_of_ble_eq_true rfl) (Nat.le_of_ble_eq_true rfl) (r := xy0) rfl h
theorem c_M_ten (l : Launch) (hfl : l.flags = flags0) (x0 : Int32) : nf_C nf_jD l nm_M_ten nb_M_ten 1 (some FieldType.double) rm_M_ten (fun a => [.int x0]) (fun M post ex => P_M_ten x0 M post) := by
  refine nf_start (plainFor_of_name (by decide +kernel)) (fun a => Nat.le_of_ble_eq_true rfl) ?_
  intro D a sz M post ex p e s m below meth c ls h K hl hw
  have hx := K.1
  have hb := K.2.1
  have hl : lv_has ls 1 [(0, .int x0)] := hl
  refine lv_iload_n hx hb d_M_ten_0 rfl (lv_at hl 0 rfl) ?_
  refine lv_bipush (v := (19 : Int32)) hx hb d_M_ten_1 (by decide) ?_
  refine nf_ic_ge hx hb d_M_ten_3 (tgt := 14) (by decide) (fun hc => ?_) (fun hc => ?_)
  · have h := h.1 hc
    refine lv_iload_n hx hb d_M_ten_6 rfl (lv_at hl 0 rfl) ?_
    refine nf_callW (ex := (fun _ _ => False)) (As := [.int x0]) (st0 := [.int x0]) (rest := []) K hw (nf_invS hx hb K.2.2.2.1 (nf_Kg K nw_1066) (nf_Kg K nw_1067) (nf_Kg K nw_9) (nf_Kg K nw_1068) ⟨by decide, by decide⟩ rfl nl_M_power rfl d_M_ten_7) (c_M_power l hfl x0) nw_1068 nw_9 rfl ⟨by decide, by decide⟩ (Nat.le_of_ble_eq_true rfl) hl.1 ⟨Nat.le_of_ble_eq_true rfl, Nat.le_of_ble_eq_true rfl⟩ h (fun _ _ h => h.elim) (fun r1 M2 H locs h hw => ?_)
    refine W.eq (g2 := F0 m 10 ls [.long r1]) rfl ?_
    refine lv_l2d hx hb d_M_ten_10 ?_
    refine lv_goto hx hb d_M_ten_11 (tgt := 26) (by decide) ?_
    exact w_M_ten_26 hfl K (FP.l2d r1) M2 _ _ _ h (lv_sub hl [] rfl) hw
  · have h := h.2 hc
    refine lv_iload_n hx hb d_M_ten_14 rfl (lv_at hl 0 rfl) ?_
    refine lv_bipush (v := (11 : Int32)) hx hb d_M_ten_15 (by decide) ?_
    refine lv_isub hx hb d_M_ten_17 ?_
    refine nf_callW (ex := (fun _ _ => False)) (As := [.int (x0 - (11 : Int32))]) (st0 := [.int (x0 - (11 : Int32))]) (rest := []) K hw (nf_invS hx hb K.2.2.2.1 (nf_Kg K nw_1066) (nf_Kg K nw_1067) (nf_Kg K nw_9) (nf_Kg K nw_1068) ⟨by decide, by decide⟩ rfl nl_M_power rfl d_M_ten_18) (c_M_power l hfl (x0 - (11 : Int32))) nw_1068 nw_9 rfl ⟨by decide, by decide⟩ (Nat.le_of_ble_eq_true rfl) hl.1 ⟨Nat.le_of_ble_eq_true rfl, Nat.le_of_ble_eq_true rfl⟩ h (fun _ _ h => h.elim) (fun r3 M4 H locs h hw => ?_)
    refine W.eq (g2 := F0 m 21 ls [.long r3]) rfl ?_
    refine lv_l2d hx hb d_M_ten_21 ?_
    refine lv_ldc2d (v := (4771362005757984768 : UInt64)) hx hb K.2.2.2.1 (nf_Kg K nw_1069) d_M_ten_22 ?_
    obtain ⟨g5, h⟩ := h
    refine lv_dmul hx hb d_M_ten_25 g5 ?_
    exact w_M_ten_26 hfl K (FP.dmul (FP.l2d r3) (4771362005757984768 : UInt64)) M4 _ _ _ h (lv_sub hl [] rfl) hw
theorem d_M_readReal_0 : decode nb_M_readReal 0 = .ok (.aload_n 0, 1) := by decide +kernel
theorem d_M_readReal_1 : decode nb_M_readReal 1 = .ok (.invokevirtual 110, 3) := by decide +kernel
theorem d_M_readReal_4 : decode nb_M_readReal 4 = .ok (.istore_n 2, 1) := by decide +kernel
theorem d_M_readReal_5 : decode nb_M_readReal 5 = .ok (.iload_n 2, 1) := by decide +kernel
theorem d_M_readReal_6 : decode nb_M_readReal 6 = .ok (.bipush 45, 2) := by decide +kernel
theorem d_M_readReal_8 : decode nb_M_readReal 8 = .ok (.if_icmp .ne 7, 3) := by decide +kernel
theorem d_M_readReal_11 : decode nb_M_readReal 11 = .ok (.iconst 1, 1) := by decide +kernel
theorem d_M_readReal_12 : decode nb_M_readReal 12 = .ok (.goto 4, 3) := by decide +kernel
theorem d_M_readReal_15 : decode nb_M_readReal 15 = .ok (.iconst 0, 1) := by decide +kernel
theorem d_M_readReal_16 : decode nb_M_readReal 16 = .ok (.istore_n 3, 1) := by decide +kernel
theorem d_M_readReal_17 : decode nb_M_readReal 17 = .ok (.iload_n 3, 1) := by decide +kernel
theorem d_M_readReal_18 : decode nb_M_readReal 18 = .ok (.ifCond .ne 9, 3) := by decide +kernel
theorem d_M_readReal_21 : decode nb_M_readReal 21 = .ok (.iload_n 2, 1) := by decide +kernel
theorem d_M_readReal_22 : decode nb_M_readReal 22 = .ok (.bipush 43, 2) := by decide +kernel
theorem d_M_readReal_24 : decode nb_M_readReal 24 = .ok (.if_icmp .ne 7, 3) := by decide +kernel
theorem d_M_readReal_27 : decode nb_M_readReal 27 = .ok (.iconst 1, 1) := by decide +kernel
theorem d_M_readReal_28 : decode nb_M_readReal 28 = .ok (.goto 4, 3) := by decide +kernel
theorem d_M_readReal_31 : decode nb_M_readReal 31 = .ok (.iconst 0, 1) := by decide +kernel
theorem d_M_readReal_32 : decode nb_M_readReal 32 = .ok (.istore 4, 2) := by decide +kernel
theorem d_M_readReal_34 : decode nb_M_readReal 34 = .ok (.aload_n 0, 1) := by decide +kernel
theorem d_M_readReal_35 : decode nb_M_readReal 35 = .ok (.iload 4, 2) := by decide +kernel
theorem d_M_readReal_37 : decode nb_M_readReal 37 = .ok (.ifCond .eq 12, 3) := by decide +kernel
theorem d_M_readReal_40 : decode nb_M_readReal 40 = .ok (.aload_n 0, 1) := by decide +kernel
theorem d_M_readReal_41 : decode nb_M_readReal 41 = .ok (.getfield 104, 3) := by decide +kernel
theorem d_M_readReal_44 : decode nb_M_readReal 44 = .ok (.iconst 1, 1) := by decide +kernel
theorem d_M_readReal_45 : decode nb_M_readReal 45 = .ok (.iadd, 1) := by decide +kernel
theorem d_M_readReal_46 : decode nb_M_readReal 46 = .ok (.goto 7, 3) := by decide +kernel
theorem d_M_readReal_49 : decode nb_M_readReal 49 = .ok (.aload_n 0, 1) := by decide +kernel
theorem d_M_readReal_50 : decode nb_M_readReal 50 = .ok (.getfield 104, 3) := by decide +kernel
theorem d_M_readReal_53 : decode nb_M_readReal 53 = .ok (.bipush 73, 2) := by decide +kernel
theorem d_M_readReal_55 : decode nb_M_readReal 55 = .ok (.bipush 78, 2) := by decide +kernel
theorem d_M_readReal_57 : decode nb_M_readReal 57 = .ok (.bipush 70, 2) := by decide +kernel
theorem d_M_readReal_59 : decode nb_M_readReal 59 = .ok (.invokevirtual 126, 3) := by decide +kernel
theorem d_M_readReal_62 : decode nb_M_readReal 62 = .ok (.ifCond .eq 21, 3) := by decide +kernel
theorem d_M_readReal_65 : decode nb_M_readReal 65 = .ok (.aload_n 0, 1) := by decide +kernel
theorem d_M_readReal_66 : decode nb_M_readReal 66 = .ok (.iload_n 3, 1) := by decide +kernel
theorem d_M_readReal_67 : decode nb_M_readReal 67 = .ok (.ifCond .eq 9, 3) := by decide +kernel
theorem d_M_readReal_70 : decode nb_M_readReal 70 = .ok (.ldc2_w 130, 3) := by decide +kernel
theorem d_M_readReal_73 : decode nb_M_readReal 73 = .ok (.goto 6, 3) := by decide +kernel
theorem d_M_readReal_76 : decode nb_M_readReal 76 = .ok (.ldc2_w 132, 3) := by decide +kernel
theorem d_M_readReal_79 : decode nb_M_readReal 79 = .ok (.putfield 134, 3) := by decide +kernel
theorem d_M_readReal_82 : decode nb_M_readReal 82 = .ok (.return_, 1) := by decide +kernel
theorem d_M_readReal_83 : decode nb_M_readReal 83 = .ok (.aload_n 0, 1) := by decide +kernel
theorem d_M_readReal_84 : decode nb_M_readReal 84 = .ok (.iload 4, 2) := by decide +kernel
theorem d_M_readReal_86 : decode nb_M_readReal 86 = .ok (.ifCond .eq 12, 3) := by decide +kernel
theorem d_M_readReal_89 : decode nb_M_readReal 89 = .ok (.aload_n 0, 1) := by decide +kernel
theorem d_M_readReal_90 : decode nb_M_readReal 90 = .ok (.getfield 104, 3) := by decide +kernel
theorem d_M_readReal_93 : decode nb_M_readReal 93 = .ok (.iconst 1, 1) := by decide +kernel
theorem d_M_readReal_94 : decode nb_M_readReal 94 = .ok (.iadd, 1) := by decide +kernel
theorem d_M_readReal_95 : decode nb_M_readReal 95 = .ok (.goto 7, 3) := by decide +kernel
theorem d_M_readReal_98 : decode nb_M_readReal 98 = .ok (.aload_n 0, 1) := by decide +kernel
theorem d_M_readReal_99 : decode nb_M_readReal 99 = .ok (.getfield 104, 3) := by decide +kernel
theorem d_M_readReal_102 : decode nb_M_readReal 102 = .ok (.putfield 104, 3) := by decide +kernel
theorem d_M_readReal_105 : decode nb_M_readReal 105 = .ok (.aload_n 0, 1) := by decide +kernel
theorem d_M_readReal_106 : decode nb_M_readReal 106 = .ok (.iconst 1, 1) := by decide +kernel
theorem d_M_readReal_107 : decode nb_M_readReal 107 = .ok (.invokevirtual 118, 3) := by decide +kernel
theorem d_M_readReal_110 : decode nb_M_readReal 110 = .ok (.istore 5, 2) := by decide +kernel
theorem d_M_readReal_112 : decode nb_M_readReal 112 = .ok (.iload 5, 2) := by decide +kernel
theorem d_M_readReal_114 : decode nb_M_readReal 114 = .ok (.ifCond .ge 9, 3) := by decide +kernel
theorem d_M_readReal_117 : decode nb_M_readReal 117 = .ok (.sipush 9999, 3) := by decide +kernel
theorem d_M_readReal_120 : decode nb_M_readReal 120 = .ok (.goto 7, 3) := by decide +kernel
theorem d_M_readReal_123 : decode nb_M_readReal 123 = .ok (.aload_n 0, 1) := by decide +kernel
theorem d_M_readReal_124 : decode nb_M_readReal 124 = .ok (.invokevirtual 138, 3) := by decide +kernel
theorem d_M_readReal_127 : decode nb_M_readReal 127 = .ok (.istore 6, 2) := by decide +kernel
theorem d_M_readReal_129 : decode nb_M_readReal 129 = .ok (.iload 6, 2) := by decide +kernel
theorem d_M_readReal_131 : decode nb_M_readReal 131 = .ok (.sipush 9999, 3) := by decide +kernel
theorem d_M_readReal_134 : decode nb_M_readReal 134 = .ok (.if_icmp .ne 9, 3) := by decide +kernel
theorem d_M_readReal_137 : decode nb_M_readReal 137 = .ok (.aload_n 0, 1) := by decide +kernel
theorem d_M_readReal_138 : decode nb_M_readReal 138 = .ok (.iconst 3, 1) := by decide +kernel
theorem d_M_readReal_139 : decode nb_M_readReal 139 = .ok (.putfield 67, 3) := by decide +kernel
theorem d_M_readReal_142 : decode nb_M_readReal 142 = .ok (.return_, 1) := by decide +kernel
theorem d_M_readReal_143 : decode nb_M_readReal 143 = .ok (.iload 6, 2) := by decide +kernel
theorem d_M_readReal_145 : decode nb_M_readReal 145 = .ok (.iload 5, 2) := by decide +kernel
theorem d_M_readReal_147 : decode nb_M_readReal 147 = .ok (.isub, 1) := by decide +kernel
theorem d_M_readReal_148 : decode nb_M_readReal 148 = .ok (.istore 7, 2) := by decide +kernel
theorem d_M_readReal_150 : decode nb_M_readReal 150 = .ok (.aload_n 0, 1) := by decide +kernel
theorem d_M_readReal_151 : decode nb_M_readReal 151 = .ok (.getfield 62, 3) := by decide +kernel
theorem d_M_readReal_154 : decode nb_M_readReal 154 = .ok (.ifCond .le 44, 3) := by decide +kernel
theorem d_M_readReal_157 : decode nb_M_readReal 157 = .ok (.aload_n 0, 1) := by decide +kernel
theorem d_M_readReal_158 : decode nb_M_readReal 158 = .ok (.getfield 30, 3) := by decide +kernel
theorem d_M_readReal_161 : decode nb_M_readReal 161 = .ok (.aload_n 0, 1) := by decide +kernel
theorem d_M_readReal_162 : decode nb_M_readReal 162 = .ok (.getfield 62, 3) := by decide +kernel
theorem d_M_readReal_165 : decode nb_M_readReal 165 = .ok (.ifCond .le 12, 3) := by decide +kernel
theorem d_M_readReal_168 : decode nb_M_readReal 168 = .ok (.aload_n 0, 1) := by decide +kernel
theorem d_M_readReal_169 : decode nb_M_readReal 169 = .ok (.getfield 62, 3) := by decide +kernel
theorem d_M_readReal_172 : decode nb_M_readReal 172 = .ok (.iconst 1, 1) := by decide +kernel
theorem d_M_readReal_173 : decode nb_M_readReal 173 = .ok (.isub, 1) := by decide +kernel
theorem d_M_readReal_174 : decode nb_M_readReal 174 = .ok (.goto 4, 3) := by decide +kernel
theorem d_M_readReal_177 : decode nb_M_readReal 177 = .ok (.iconst 0, 1) := by decide +kernel
theorem d_M_readReal_178 : decode nb_M_readReal 178 = .ok (.iaload, 1) := by decide +kernel
theorem d_M_readReal_179 : decode nb_M_readReal 179 = .ok (.ifCond .ne 19, 3) := by decide +kernel
theorem d_M_readReal_182 : decode nb_M_readReal 182 = .ok (.aload_n 0, 1) := by decide +kernel
theorem d_M_readReal_183 : decode nb_M_readReal 183 = .ok (.dup, 1) := by decide +kernel
theorem d_M_readReal_184 : decode nb_M_readReal 184 = .ok (.getfield 62, 3) := by decide +kernel
theorem d_M_readReal_187 : decode nb_M_readReal 187 = .ok (.iconst 1, 1) := by decide +kernel
theorem d_M_readReal_188 : decode nb_M_readReal 188 = .ok (.isub, 1) := by decide +kernel
theorem d_M_readReal_189 : decode nb_M_readReal 189 = .ok (.putfield 62, 3) := by decide +kernel
theorem d_M_readReal_192 : decode nb_M_readReal 192 = .ok (.iinc 7 1, 3) := by decide +kernel
theorem d_M_readReal_195 : decode nb_M_readReal 195 = .ok (.goto (-45), 3) := by decide +kernel
theorem d_M_readReal_198 : decode nb_M_readReal 198 = .ok (.aload_n 0, 1) := by decide +kernel
theorem d_M_readReal_199 : decode nb_M_readReal 199 = .ok (.invokevirtual 70, 3) := by decide +kernel
theorem d_M_readReal_202 : decode nb_M_readReal 202 = .ok (.lstore 8, 2) := by decide +kernel
theorem d_M_readReal_204 : decode nb_M_readReal 204 = .ok (.aload_n 0, 1) := by decide +kernel
theorem d_M_readReal_205 : decode nb_M_readReal 205 = .ok (.aload_n 0, 1) := by decide +kernel
theorem d_M_readReal_206 : decode nb_M_readReal 206 = .ok (.getfield 62, 3) := by decide +kernel
theorem d_M_readReal_209 : decode nb_M_readReal 209 = .ok (.ifCond .le 21, 3) := by decide +kernel
theorem d_M_readReal_212 : decode nb_M_readReal 212 = .ok (.iload 7, 2) := by decide +kernel
theorem d_M_readReal_214 : decode nb_M_readReal 214 = .ok (.bipush (-22), 2) := by decide +kernel
theorem d_M_readReal_216 : decode nb_M_readReal 216 = .ok (.if_icmp .lt 10, 3) := by decide +kernel
theorem d_M_readReal_219 : decode nb_M_readReal 219 = .ok (.iload 7, 2) := by decide +kernel
theorem d_M_readReal_221 : decode nb_M_readReal 221 = .ok (.bipush 22, 2) := by decide +kernel
theorem d_M_readReal_223 : decode nb_M_readReal 223 = .ok (.if_icmp .le 7, 3) := by decide +kernel
theorem d_M_readReal_226 : decode nb_M_readReal 226 = .ok (.iconst 5, 1) := by decide +kernel
theorem d_M_readReal_227 : decode nb_M_readReal 227 = .ok (.goto 7, 3) := by decide +kernel
theorem d_M_readReal_230 : decode nb_M_readReal 230 = .ok (.aload_n 0, 1) := by decide +kernel
theorem d_M_readReal_231 : decode nb_M_readReal 231 = .ok (.getfield 67, 3) := by decide +kernel
theorem d_M_readReal_234 : decode nb_M_readReal 234 = .ok (.putfield 67, 3) := by decide +kernel
theorem d_M_readReal_237 : decode nb_M_readReal 237 = .ok (.aload_n 0, 1) := by decide +kernel
theorem d_M_readReal_238 : decode nb_M_readReal 238 = .ok (.getfield 67, 3) := by decide +kernel
theorem d_M_readReal_241 : decode nb_M_readReal 241 = .ok (.ifCond .le 4, 3) := by decide +kernel
theorem d_M_readReal_244 : decode nb_M_readReal 244 = .ok (.return_, 1) := by decide +kernel
theorem d_M_readReal_245 : decode nb_M_readReal 245 = .ok (.aload_n 0, 1) := by decide +kernel
theorem d_M_readReal_246 : decode nb_M_readReal 246 = .ok (.getfield 62, 3) := by decide +kernel
theorem d_M_readReal_249 : decode nb_M_readReal 249 = .ok (.ifCond .ne 7, 3) := by decide +kernel
theorem d_M_readReal_252 : decode nb_M_readReal 252 = .ok (.dconst 0, 1) := by decide +kernel
theorem d_M_readReal_253 : decode nb_M_readReal 253 = .ok (.goto 30, 3) := by decide +kernel
theorem d_M_readReal_256 : decode nb_M_readReal 256 = .ok (.iload 7, 2) := by decide +kernel
theorem d_M_readReal_258 : decode nb_M_readReal 258 = .ok (.ifCond .ge 16, 3) := by decide +kernel
theorem d_M_readReal_261 : decode nb_M_readReal 261 = .ok (.lload 8, 2) := by decide +kernel
theorem d_M_readReal_263 : decode nb_M_readReal 263 = .ok (.l2d, 1) := by decide +kernel
theorem d_M_readReal_264 : decode nb_M_readReal 264 = .ok (.iload 7, 2) := by decide +kernel
theorem d_M_readReal_266 : decode nb_M_readReal 266 = .ok (.ineg, 1) := by decide +kernel
theorem d_M_readReal_267 : decode nb_M_readReal 267 = .ok (.invokestatic 141, 3) := by decide +kernel
theorem d_M_readReal_270 : decode nb_M_readReal 270 = .ok (.ddiv, 1) := by decide +kernel
theorem d_M_readReal_271 : decode nb_M_readReal 271 = .ok (.goto 12, 3) := by decide +kernel
theorem d_M_readReal_274 : decode nb_M_readReal 274 = .ok (.lload 8, 2) := by decide +kernel
theorem d_M_readReal_276 : decode nb_M_readReal 276 = .ok (.l2d, 1) := by decide +kernel
theorem d_M_readReal_277 : decode nb_M_readReal 277 = .ok (.iload 7, 2) := by decide +kernel
theorem d_M_readReal_279 : decode nb_M_readReal 279 = .ok (.invokestatic 141, 3) := by decide +kernel
theorem d_M_readReal_282 : decode nb_M_readReal 282 = .ok (.dmul, 1) := by decide +kernel
theorem d_M_readReal_283 : decode nb_M_readReal 283 = .ok (.dstore 10, 2) := by decide +kernel
theorem d_M_readReal_285 : decode nb_M_readReal 285 = .ok (.aload_n 0, 1) := by decide +kernel
theorem d_M_readReal_286 : decode nb_M_readReal 286 = .ok (.iload_n 3, 1) := by decide +kernel
theorem d_M_readReal_287 : decode nb_M_readReal 287 = .ok (.ifCond .eq 9, 3) := by decide +kernel
theorem d_M_readReal_290 : decode nb_M_readReal 290 = .ok (.dload 10, 2) := by decide +kernel
theorem d_M_readReal_292 : decode nb_M_readReal 292 = .ok (.dneg, 1) := by decide +kernel
theorem d_M_readReal_293 : decode nb_M_readReal 293 = .ok (.goto 5, 3) := by decide +kernel
theorem d_M_readReal_296 : decode nb_M_readReal 296 = .ok (.dload 10, 2) := by decide +kernel
theorem d_M_readReal_298 : decode nb_M_readReal 298 = .ok (.putfield 134, 3) := by decide +kernel
theorem d_M_readReal_301 : decode nb_M_readReal 301 = .ok (.aload_n 0, 1) := by decide +kernel
theorem d_M_readReal_302 : decode nb_M_readReal 302 = .ok (.iload_n 1, 1) := by decide +kernel
theorem d_M_readReal_303 : decode nb_M_readReal 303 = .ok (.bipush 8, 2) := by decide +kernel
theorem d_M_readReal_305 : decode nb_M_readReal 305 = .ok (.if_icmp .ne 12, 3) := by decide +kernel
theorem d_M_readReal_308 : decode nb_M_readReal 308 = .ok (.aload_n 0, 1) := by decide +kernel
theorem d_M_readReal_309 : decode nb_M_readReal 309 = .ok (.getfield 134, 3) := by decide +kernel
theorem d_M_readReal_312 : decode nb_M_readReal 312 = .ok (.d2f, 1) := by decide +kernel
theorem d_M_readReal_313 : decode nb_M_readReal 313 = .ok (.f2d, 1) := by decide +kernel
theorem d_M_readReal_314 : decode nb_M_readReal 314 = .ok (.goto 7, 3) := by decide +kernel
theorem d_M_readReal_317 : decode nb_M_readReal 317 = .ok (.aload_n 0, 1) := by decide +kernel
theorem d_M_readReal_318 : decode nb_M_readReal 318 = .ok (.getfield 134, 3) := by decide +kernel
theorem d_M_readReal_321 : decode nb_M_readReal 321 = .ok (.putfield 134, 3) := by decide +kernel
theorem d_M_readReal_324 : decode nb_M_readReal 324 = .ok (.return_, 1) := by decide +kernel
abbrev rm_M_readReal : Room := ({ frames := 2, cells := 0, slots := 0, locals := 44 })
theorem w_M_readReal_79 {post : Unit → nf_M → Prop} (hfl : l.flags = flags0) (K : nf_K p s m args meth c "NumberForgeModel" nb_M_readReal 12 none D a sz) : ∀ (xy0 : UInt64) (M : nf_M) (H : Heap) (locs : List Loc) (ls : Array Slot), B_M_readReal_79 post xy0 M → lv_has ls 12 [] → nf_W D a s sz H locs M → W p l e rm_M_readReal s m args below meth c H locs 0 0 (nf_MQ below (nf_Q nf_jN D a post ex (nf_A a sz)) args s rm_M_readReal.cells rm_M_readReal.slots (nf_A a sz)) (F0 m 79 ls [.double xy0, .ref (a 19)]) := by
  have hx := K.1
  have hb := K.2.1
  intro xy0 M H locs ls h hl hw
  refine nf_put (M' := ms_D M 19 12 xy0) K hw 19 7 12 nw_943 rfl rfl rfl ni_M ny_M nq_M nn_M (by decide) rfl rfl rfl rfl (Nat.le_of_ble_eq_true rfl) d_M_readReal_79 (fun H locs hw => ?_)
  obtain ⟨M1, eM1⟩ : ∃ z, z = ms_D M 19 12 xy0 := ⟨_, rfl⟩
  rw [← eM1] at hw
  have h := h M1 eM1
  exact nf_vret K hw d_M_readReal_82 (Nat.le_of_ble_eq_true rfl) (Nat.le_of_ble_eq_true rfl) (r := ()) rfl h
theorem w_M_readReal_321 {post : Unit → nf_M → Prop} (hfl : l.flags = flags0) (K : nf_K p s m args meth c "NumberForgeModel" nb_M_readReal 12 none D a sz) : ∀ (xy0 : UInt64) (M : nf_M) (H : Heap) (locs : List Loc) (ls : Array Slot), B_M_readReal_321 post xy0 M → lv_has ls 12 [] → nf_W D a s sz H locs M → W p l e rm_M_readReal s m args below meth c H locs 0 0 (nf_MQ below (nf_Q nf_jN D a post ex (nf_A a sz)) args s rm_M_readReal.cells rm_M_readReal.slots (nf_A a sz)) (F0 m 321 ls [.double xy0, .ref (a 19)]) := by
  have hx := K.1
  have hb := K.2.1
  intro xy0 M H locs ls h hl hw
  refine nf_put (M' := ms_D M 19 12 xy0) K hw 19 7 12 nw_943 rfl rfl rfl ni_M ny_M nq_M nn_M (by decide) rfl rfl rfl rfl (Nat.le_of_ble_eq_true rfl) d_M_readReal_321 (fun H locs hw => ?_)
  obtain ⟨M1, eM1⟩ : ∃ z, z = ms_D M 19 12 xy0 := ⟨_, rfl⟩
  rw [← eM1] at hw
  have h := h M1 eM1
  exact nf_vret K hw d_M_readReal_324 (Nat.le_of_ble_eq_true rfl) (Nat.le_of_ble_eq_true rfl) (r := ()) rfl h
theorem w_M_readReal_298 {post : Unit → nf_M → Prop} (hfl : l.flags = flags0) (K : nf_K p s m args meth c "NumberForgeModel" nb_M_readReal 12 none D a sz) : ∀ (x1 : Int32) (xy0 : UInt64) (M : nf_M) (H : Heap) (locs : List Loc) (ls : Array Slot), B_M_readReal_298 post x1 xy0 M → lv_has ls 12 [(0, .ref (a 19)), (1, .int x1)] → nf_W D a s sz H locs M → W p l e rm_M_readReal s m args below meth c H locs 0 0 (nf_MQ below (nf_Q nf_jN D a post ex (nf_A a sz)) args s rm_M_readReal.cells rm_M_readReal.slots (nf_A a sz)) (F0 m 298 ls [.double xy0, .ref (a 19)]) := by
  have hx := K.1
  have hb := K.2.1
  intro x1 xy0 M H locs ls h hl hw
  refine nf_put (M' := ms_D M 19 12 xy0) K hw 19 7 12 nw_943 rfl rfl rfl ni_M ny_M nq_M nn_M (by decide) rfl rfl rfl rfl (Nat.le_of_ble_eq_true rfl) d_M_readReal_298 (fun H locs hw => ?_)
  obtain ⟨M1, eM1⟩ : ∃ z, z = ms_D M 19 12 xy0 := ⟨_, rfl⟩
  rw [← eM1] at hw
  have h := h M1 eM1
  refine lv_aload_n hx hb d_M_readReal_301 rfl (lv_at hl 0 rfl) ?_
  refine lv_iload_n hx hb d_M_readReal_302 rfl (lv_at hl 1 rfl) ?_
  refine lv_bipush (v := (8 : Int32)) hx hb d_M_readReal_303 (by decide) ?_
  refine nf_ic_ne hx hb d_M_readReal_305 (tgt := 317) (by decide) (fun hc => ?_) (fun hc => ?_)
  · have h := h.1 hc
    refine lv_aload_n hx hb d_M_readReal_308 rfl (lv_at hl 0 rfl) ?_
    refine nf_get (v := .double (mg_D M1 19 12)) K hw 19 7 12 nw_943 rfl rfl ni_M (by decide) rfl rfl d_M_readReal_309 ?_
    obtain ⟨g2, h⟩ := h
    refine lv_d2f hx hb d_M_readReal_312 g2 ?_
    obtain ⟨g3, h⟩ := h
    refine lv_f2d hx hb d_M_readReal_313 g3 ?_
    refine lv_goto hx hb d_M_readReal_314 (tgt := 321) (by decide) ?_
    exact w_M_readReal_321 hfl K (FP.f2d (FP.d2f (mg_D M1 19 12))) M1 _ _ _ h (lv_sub hl [] rfl) hw
  · have h := h.2 hc
    refine lv_aload_n hx hb d_M_readReal_317 rfl (lv_at hl 0 rfl) ?_
    refine nf_get (v := .double (mg_D M1 19 12)) K hw 19 7 12 nw_943 rfl rfl ni_M (by decide) rfl rfl d_M_readReal_318 ?_
    exact w_M_readReal_321 hfl K (mg_D M1 19 12) M1 _ _ _ h (lv_sub hl [] rfl) hw
theorem w_M_readReal_283 {post : Unit → nf_M → Prop} (hfl : l.flags = flags0) (K : nf_K p s m args meth c "NumberForgeModel" nb_M_readReal 12 none D a sz) : ∀ (x1 : Int32) (x3 : Int32) (xy0 : UInt64) (M : nf_M) (H : Heap) (locs : List Loc) (ls : Array Slot), B_M_readReal_283 post x1 x3 xy0 M → lv_has ls 12 [(0, .ref (a 19)), (1, .int x1), (3, .int x3)] → nf_W D a s sz H locs M → W p l e rm_M_readReal s m args below meth c H locs 0 0 (nf_MQ below (nf_Q nf_jN D a post ex (nf_A a sz)) args s rm_M_readReal.cells rm_M_readReal.slots (nf_A a sz)) (F0 m 283 ls [.double xy0]) := by
  have hx := K.1
  have hb := K.2.1
  intro x1 x3 xy0 M H locs ls h hl hw
  refine lv_dstore (lv' := [(10, .double xy0), (0, .ref (a 19)), (1, .int x1), (3, .int x3)]) hx hb d_M_readReal_283 hl (by decide) rfl (fun ls hl => ?_)
  refine lv_aload_n hx hb d_M_readReal_285 rfl (lv_at hl 1 rfl) ?_
  refine lv_iload_n hx hb d_M_readReal_286 rfl (lv_at hl 3 rfl) ?_
  refine nf_if_eq hx hb d_M_readReal_287 (tgt := 296) (by decide) (fun hc => ?_) (fun hc => ?_)
  · have h := h.1 hc
    refine lv_dload hx hb d_M_readReal_296 (lv_at hl 0 rfl) ?_
    exact w_M_readReal_298 hfl K x1 xy0 M _ _ _ h (lv_sub hl [1, 2] rfl) hw
  · have h := h.2 hc
    refine lv_dload hx hb d_M_readReal_290 (lv_at hl 0 rfl) ?_
    refine lv_dneg hx hb d_M_readReal_292 ?_
    refine lv_goto hx hb d_M_readReal_293 (tgt := 298) (by decide) ?_
    exact w_M_readReal_298 hfl K x1 (FP.dneg xy0) M _ _ _ h (lv_sub hl [1, 2] rfl) hw
theorem w_M_readReal_234 {post : Unit → nf_M → Prop} (hfl : l.flags = flags0) (K : nf_K p s m args meth c "NumberForgeModel" nb_M_readReal 12 none D a sz) : ∀ (x1 : Int32) (x3 : Int32) (x7 : Int32) (x8 : Int64) (xy0 : Int32) (M : nf_M) (H : Heap) (locs : List Loc) (ls : Array Slot), B_M_readReal_234 post x1 x3 x7 x8 xy0 M → lv_has ls 12 [(0, .ref (a 19)), (1, .int x1), (3, .int x3), (7, .int x7), (8, .long x8)] → nf_W D a s sz H locs M → W p l e rm_M_readReal s m args below meth c H locs 0 0 (nf_MQ below (nf_Q nf_jN D a post ex (nf_A a sz)) args s rm_M_readReal.cells rm_M_readReal.slots (nf_A a sz)) (F0 m 234 ls [.int xy0, .ref (a 19)]) := by
  have hx := K.1
  have hb := K.2.1
  intro x1 x3 x7 x8 xy0 M H locs ls h hl hw
  refine nf_put (M' := ms_I M 19 9 xy0) K hw 19 7 9 nw_940 rfl rfl rfl ni_M ny_M nq_M nn_M (by decide) rfl rfl rfl rfl (Nat.le_of_ble_eq_true rfl) d_M_readReal_234 (fun H locs hw => ?_)
  obtain ⟨M1, eM1⟩ : ∃ z, z = ms_I M 19 9 xy0 := ⟨_, rfl⟩
  rw [← eM1] at hw
  have h := h M1 eM1
  refine lv_aload_n hx hb d_M_readReal_237 rfl (lv_at hl 0 rfl) ?_
  refine nf_get (v := .int (mg_I M1 19 9)) K hw 19 7 9 nw_940 rfl rfl ni_M (by decide) rfl rfl d_M_readReal_238 ?_
  refine nf_if_le hx hb d_M_readReal_241 (tgt := 245) (by decide) (fun hc => ?_) (fun hc => ?_)
  · have h := h.1 hc
    exact nf_vret K hw d_M_readReal_244 (Nat.le_of_ble_eq_true rfl) (Nat.le_of_ble_eq_true rfl) (r := ()) rfl h
  · have h := h.2 hc
    refine lv_aload_n hx hb d_M_readReal_245 rfl (lv_at hl 0 rfl) ?_
    refine nf_get (v := .int (mg_I M1 19 13)) K hw 19 7 13 nw_944 rfl rfl ni_M (by decide) rfl rfl d_M_readReal_246 ?_
    refine nf_if_ne hx hb d_M_readReal_249 (tgt := 256) (by decide) (fun hc => ?_) (fun hc => ?_)
    · have h := h.1 hc
      refine lv_dconst0 hx hb d_M_readReal_252 ?_
      refine lv_goto hx hb d_M_readReal_253 (tgt := 283) (by decide) ?_
      exact w_M_readReal_283 hfl K x1 x3 (FP.dconst0) M1 _ _ _ h (lv_sub hl [0, 1, 2] rfl) hw
    · have h := h.2 hc
      refine lv_iload hx hb d_M_readReal_256 (lv_at hl 3 rfl) ?_
      refine nf_if_ge hx hb d_M_readReal_258 (tgt := 274) (by decide) (fun hc => ?_) (fun hc => ?_)
      · have h := h.1 hc
        refine lv_lload hx hb d_M_readReal_261 (lv_at hl 4 rfl) ?_
        refine lv_l2d hx hb d_M_readReal_263 ?_
        refine lv_iload hx hb d_M_readReal_264 (lv_at hl 3 rfl) ?_
        refine lv_ineg hx hb d_M_readReal_266 ?_
        refine nf_callW (ex := (fun _ _ => False)) (As := [.int (-x7)]) (st0 := [.int (-x7), .double (FP.l2d x8)]) (rest := [.double (FP.l2d x8)]) K hw (nf_invS hx hb K.2.2.2.1 (nf_Kg K nw_1063) (nf_Kg K nw_1064) (nf_Kg K nw_9) (nf_Kg K nw_1065) ⟨by decide, by decide⟩ rfl nl_M_ten rfl d_M_readReal_267) (c_M_ten l hfl (-x7)) nw_1065 nw_9 rfl ⟨by decide, by decide⟩ (Nat.le_of_ble_eq_true rfl) hl.1 ⟨Nat.le_of_ble_eq_true rfl, Nat.le_of_ble_eq_true rfl⟩ h (fun _ _ h => h.elim) (fun r2 M3 H locs h hw => ?_)
        refine W.eq (g2 := F0 m 270 ls [.double r2, .double (FP.l2d x8)]) rfl ?_
        obtain ⟨g4, h⟩ := h
        refine lv_ddiv hx hb d_M_readReal_270 g4 ?_
        refine lv_goto hx hb d_M_readReal_271 (tgt := 283) (by decide) ?_
        exact w_M_readReal_283 hfl K x1 x3 (FP.ddiv (FP.l2d x8) r2) M3 _ _ _ h (lv_sub hl [0, 1, 2] rfl) hw
      · have h := h.2 hc
        refine lv_lload hx hb d_M_readReal_274 (lv_at hl 4 rfl) ?_
        refine lv_l2d hx hb d_M_readReal_276 ?_
        refine lv_iload hx hb d_M_readReal_277 (lv_at hl 3 rfl) ?_
        refine nf_callW (ex := (fun _ _ => False)) (As := [.int x7]) (st0 := [.int x7, .double (FP.l2d x8)]) (rest := [.double (FP.l2d x8)]) K hw (nf_invS hx hb K.2.2.2.1 (nf_Kg K nw_1063) (nf_Kg K nw_1064) (nf_Kg K nw_9) (nf_Kg K nw_1065) ⟨by decide, by decide⟩ rfl nl_M_ten rfl d_M_readReal_279) (c_M_ten l hfl x7) nw_1065 nw_9 rfl ⟨by decide, by decide⟩ (Nat.le_of_ble_eq_true rfl) hl.1 ⟨Nat.le_of_ble_eq_true rfl, Nat.le_of_ble_eq_true rfl⟩ h (fun _ _ h => h.elim) (fun r5 M6 H locs h hw => ?_)
        refine W.eq (g2 := F0 m 282 ls [.double r5, .double (FP.l2d x8)]) rfl ?_
        obtain ⟨g7, h⟩ := h
        refine lv_dmul hx hb d_M_readReal_282 g7 ?_
        exact w_M_readReal_283 hfl K x1 x3 (FP.dmul (FP.l2d x8) r5) M6 _ _ _ h (lv_sub hl [0, 1, 2] rfl) hw
theorem w_M_readReal_226 {post : Unit → nf_M → Prop} (hfl : l.flags = flags0) (K : nf_K p s m args meth c "NumberForgeModel" nb_M_readReal 12 none D a sz) : ∀ (x1 : Int32) (x3 : Int32) (x7 : Int32) (x8 : Int64) (M : nf_M) (H : Heap) (locs : List Loc) (ls : Array Slot), B_M_readReal_226 post x1 x3 x7 x8 M → lv_has ls 12 [(0, .ref (a 19)), (1, .int x1), (3, .int x3), (7, .int x7), (8, .long x8)] → nf_W D a s sz H locs M → W p l e rm_M_readReal s m args below meth c H locs 0 0 (nf_MQ below (nf_Q nf_jN D a post ex (nf_A a sz)) args s rm_M_readReal.cells rm_M_readReal.slots (nf_A a sz)) (F0 m 226 ls [.ref (a 19)]) := by
  have hx := K.1
  have hb := K.2.1
  intro x1 x3 x7 x8 M H locs ls h hl hw
  refine lv_iconst (v := (5 : Int32)) hx hb d_M_readReal_226 (by decide) ?_
  refine lv_goto hx hb d_M_readReal_227 (tgt := 234) (by decide) ?_
  exact w_M_readReal_234 hfl K x1 x3 x7 x8 (5 : Int32) M _ _ _ h (lv_sub hl [0, 1, 2, 3, 4] rfl) hw
theorem w_M_readReal_230 {post : Unit → nf_M → Prop} (hfl : l.flags = flags0) (K : nf_K p s m args meth c "NumberForgeModel" nb_M_readReal 12 none D a sz) : ∀ (x1 : Int32) (x3 : Int32) (x7 : Int32) (x8 : Int64) (M : nf_M) (H : Heap) (locs : List Loc) (ls : Array Slot), B_M_readReal_230 post x1 x3 x7 x8 M → lv_has ls 12 [(0, .ref (a 19)), (1, .int x1), (3, .int x3), (7, .int x7), (8, .long x8)] → nf_W D a s sz H locs M → W p l e rm_M_readReal s m args below meth c H locs 0 0 (nf_MQ below (nf_Q nf_jN D a post ex (nf_A a sz)) args s rm_M_readReal.cells rm_M_readReal.slots (nf_A a sz)) (F0 m 230 ls [.ref (a 19)]) := by
  have hx := K.1
  have hb := K.2.1
  intro x1 x3 x7 x8 M H locs ls h hl hw
  refine lv_aload_n hx hb d_M_readReal_230 rfl (lv_at hl 0 rfl) ?_
  refine nf_get (v := .int (mg_I M 19 9)) K hw 19 7 9 nw_940 rfl rfl ni_M (by decide) rfl rfl d_M_readReal_231 ?_
  exact w_M_readReal_234 hfl K x1 x3 x7 x8 (mg_I M 19 9) M _ _ _ h (lv_sub hl [0, 1, 2, 3, 4] rfl) hw
theorem w_M_readReal_198 {post : Unit → nf_M → Prop} (hfl : l.flags = flags0) (K : nf_K p s m args meth c "NumberForgeModel" nb_M_readReal 12 none D a sz) : ∀ (x1 : Int32) (x3 : Int32) (x7 : Int32) (M : nf_M) (H : Heap) (locs : List Loc) (ls : Array Slot), B_M_readReal_198 post x1 x3 x7 M → lv_has ls 12 [(0, .ref (a 19)), (1, .int x1), (3, .int x3), (7, .int x7)] → nf_W D a s sz H locs M → W p l e rm_M_readReal s m args below meth c H locs 0 0 (nf_MQ below (nf_Q nf_jN D a post ex (nf_A a sz)) args s rm_M_readReal.cells rm_M_readReal.slots (nf_A a sz)) (F0 m 198 ls []) := by
  have hx := K.1
  have hb := K.2.1
  intro x1 x3 x7 M H locs ls h hl hw
  refine lv_aload_n hx hb d_M_readReal_198 rfl (lv_at hl 0 rfl) ?_
  refine nf_callW (ex := (fun _ _ => False)) (As := [.ref (a 19)]) (st0 := [.ref (a 19)]) (rest := []) K hw (nf_invV hx hb K.2.2.2.1 (nf_Kg K nw_1033) (nf_Kg K nw_1035) (nf_Kg K nx_M_gather) (nf_Kg K nw_1036) ⟨by decide, by decide⟩ (nf_rcv K hw 19 7 rfl rfl) rfl nl_M_gather rfl d_M_readReal_199) (c_M_gather l hfl ) nw_1036 nw_9 rfl ⟨by decide, by decide⟩ (Nat.le_of_ble_eq_true rfl) hl.1 ⟨Nat.le_of_ble_eq_true rfl, Nat.le_of_ble_eq_true rfl⟩ h (fun _ _ h => h.elim) (fun r1 M2 H locs h hw => ?_)
  refine W.eq (g2 := F0 m 202 ls [.long r1]) rfl ?_
  refine lv_lstore (lv' := [(8, .long r1), (0, .ref (a 19)), (1, .int x1), (3, .int x3), (7, .int x7)]) hx hb d_M_readReal_202 hl (by decide) rfl (fun ls hl => ?_)
  refine lv_aload_n hx hb d_M_readReal_204 rfl (lv_at hl 1 rfl) ?_
  refine lv_aload_n hx hb d_M_readReal_205 rfl (lv_at hl 1 rfl) ?_
  refine nf_get (v := .int (mg_I M2 19 13)) K hw 19 7 13 nw_944 rfl rfl ni_M (by decide) rfl rfl d_M_readReal_206 ?_
  refine nf_if_le hx hb d_M_readReal_209 (tgt := 230) (by decide) (fun hc => ?_) (fun hc => ?_)
  · have h := h.1 hc
    refine lv_iload hx hb d_M_readReal_212 (lv_at hl 4 rfl) ?_
    refine lv_bipush (v := (-22 : Int32)) hx hb d_M_readReal_214 (by decide) ?_
    refine nf_ic_lt hx hb d_M_readReal_216 (tgt := 226) (by decide) (fun hc => ?_) (fun hc => ?_)
    · have h := h.1 hc
      exact w_M_readReal_226 hfl K x1 x3 x7 r1 M2 _ _ _ h (lv_sub hl [1, 2, 3, 4, 0] rfl) hw
    · have h := h.2 hc
      refine lv_iload hx hb d_M_readReal_219 (lv_at hl 4 rfl) ?_
      refine lv_bipush (v := (22 : Int32)) hx hb d_M_readReal_221 (by decide) ?_
      refine nf_ic_le hx hb d_M_readReal_223 (tgt := 230) (by decide) (fun hc => ?_) (fun hc => ?_)
      · have h := h.1 hc
        exact w_M_readReal_226 hfl K x1 x3 x7 r1 M2 _ _ _ h (lv_sub hl [1, 2, 3, 4, 0] rfl) hw
      · have h := h.2 hc
        exact w_M_readReal_230 hfl K x1 x3 x7 r1 M2 _ _ _ h (lv_sub hl [1, 2, 3, 4, 0] rfl) hw
  · have h := h.2 hc
    exact w_M_readReal_230 hfl K x1 x3 x7 r1 M2 _ _ _ h (lv_sub hl [1, 2, 3, 4, 0] rfl) hw
theorem w_M_readReal_178 {post : Unit → nf_M → Prop} (hfl : l.flags = flags0) (K : nf_K p s m args meth c "NumberForgeModel" nb_M_readReal 12 none D a sz) (k150 : Int32 → Int32 → Int32 → nf_M → Prop) (hk150 : ∀ (x1 : Int32) (x3 : Int32) (x7 : Int32) (M : nf_M) (H : Heap) (locs : List Loc) (ls : Array Slot), k150 x1 x3 x7 M → lv_has ls 12 [(0, .ref (a 19)), (1, .int x1), (3, .int x3), (7, .int x7)] → nf_W D a s sz H locs M → W p l e rm_M_readReal s m args below meth c H locs 0 0 (nf_MQ below (nf_Q nf_jN D a post ex (nf_A a sz)) args s rm_M_readReal.cells rm_M_readReal.slots (nf_A a sz)) (F0 m 150 ls [])) : ∀ (x1 : Int32) (x3 : Int32) (x7 : Int32) (xy0 : Int32) (M : nf_M) (H : Heap) (locs : List Loc) (ls : Array Slot), B_M_readReal_178 k150 post x1 x3 x7 xy0 M → lv_has ls 12 [(0, .ref (a 19)), (1, .int x1), (3, .int x3), (7, .int x7)] → nf_W D a s sz H locs M → W p l e rm_M_readReal s m args below meth c H locs 0 0 (nf_MQ below (nf_Q nf_jN D a post ex (nf_A a sz)) args s rm_M_readReal.cells rm_M_readReal.slots (nf_A a sz)) (F0 m 178 ls [.int xy0, .ref (a 26)]) := by
  have hx := K.1
  have hb := K.2.1
  intro x1 x3 x7 xy0 M H locs ls h hl hw
  obtain ⟨g1, h⟩ := h
  refine nf_iald K hw 26 9 rfl rfl g1 d_M_readReal_178 ?_
  refine nf_if_ne hx hb d_M_readReal_179 (tgt := 198) (by decide) (fun hc => ?_) (fun hc => ?_)
  · have h := h.1 hc
    refine lv_aload_n hx hb d_M_readReal_182 rfl (lv_at hl 0 rfl) ?_
    refine lv_dup hx hb d_M_readReal_183 rfl ?_
    refine nf_get (v := .int (mg_I M 19 13)) K hw 19 7 13 nw_944 rfl rfl ni_M (by decide) rfl rfl d_M_readReal_184 ?_
    refine lv_iconst (v := (1 : Int32)) hx hb d_M_readReal_187 (by decide) ?_
    refine lv_isub hx hb d_M_readReal_188 ?_
    refine lv_topi (fun t2 et2 => ?_)
    have h := h t2 et2
    refine nf_put (M' := ms_I M 19 13 t2) K hw 19 7 13 nw_944 rfl rfl rfl ni_M ny_M nq_M nn_M (by decide) rfl rfl rfl rfl (Nat.le_of_ble_eq_true rfl) d_M_readReal_189 (fun H locs hw => ?_)
    obtain ⟨M3, eM3⟩ : ∃ z, z = ms_I M 19 13 t2 := ⟨_, rfl⟩
    rw [← eM3] at hw
    have h := h M3 eM3
    refine lv_iinc (k := 3) (v := x7 + (1 : Int32)) (lv' := [(7, .int (x7 + (1 : Int32))), (0, .ref (a 19)), (1, .int x1), (3, .int x3)]) hx hb d_M_readReal_192 hl rfl (nf_inc (by decide)) (by decide) rfl (fun ls hl => ?_)
    refine lv_goto hx hb d_M_readReal_195 (tgt := 150) (by decide) ?_
    exact hk150 x1 x3 (x7 + (1 : Int32)) M3 _ _ _ h (lv_sub hl [1, 2, 3, 0] rfl) hw
  · have h := h.2 hc
    exact w_M_readReal_198 hfl K x1 x3 x7 M _ _ _ h (lv_sub hl [0, 1, 2, 3] rfl) hw
theorem w_M_readReal_150 {post : Unit → nf_M → Prop} (hfl : l.flags = flags0) (K : nf_K p s m args meth c "NumberForgeModel" nb_M_readReal 12 none D a sz) : ∀ (n : Nat) (x1 : Int32) (x3 : Int32) (x7 : Int32) (M : nf_M) (H : Heap) (locs : List Loc) (ls : Array Slot), B_M_readReal_150 post n x1 x3 x7 M → lv_has ls 12 [(0, .ref (a 19)), (1, .int x1), (3, .int x3), (7, .int x7)] → nf_W D a s sz H locs M → W p l e rm_M_readReal s m args below meth c H locs 0 0 (nf_MQ below (nf_Q nf_jN D a post ex (nf_A a sz)) args s rm_M_readReal.cells rm_M_readReal.slots (nf_A a sz)) (F0 m 150 ls []) := by
  have hx := K.1
  have hb := K.2.1
  intro n
  induction n with
  | zero => intro x1 x3 x7 M H locs ls h hl hw; exact h.elim
  | succ n ih =>
    intro x1 x3 x7 M H locs ls h hl hw
    refine lv_aload_n hx hb d_M_readReal_150 rfl (lv_at hl 0 rfl) ?_
    refine nf_get (v := .int (mg_I M 19 13)) K hw 19 7 13 nw_944 rfl rfl ni_M (by decide) rfl rfl d_M_readReal_151 ?_
    refine nf_if_le hx hb d_M_readReal_154 (tgt := 198) (by decide) (fun hc => ?_) (fun hc => ?_)
    · have h := h.1 hc
      refine lv_aload_n hx hb d_M_readReal_157 rfl (lv_at hl 0 rfl) ?_
      refine nf_get (v := .ref (a 26)) K hw 19 7 14 nw_945 rfl rfl ni_M (by decide) rfl rfl d_M_readReal_158 ?_
      refine lv_aload_n hx hb d_M_readReal_161 rfl (lv_at hl 0 rfl) ?_
      refine nf_get (v := .int (mg_I M 19 13)) K hw 19 7 13 nw_944 rfl rfl ni_M (by decide) rfl rfl d_M_readReal_162 ?_
      refine nf_if_le hx hb d_M_readReal_165 (tgt := 177) (by decide) (fun hc => ?_) (fun hc => ?_)
      · have h := h.1 hc
        refine lv_aload_n hx hb d_M_readReal_168 rfl (lv_at hl 0 rfl) ?_
        refine nf_get (v := .int (mg_I M 19 13)) K hw 19 7 13 nw_944 rfl rfl ni_M (by decide) rfl rfl d_M_readReal_169 ?_
        refine lv_iconst (v := (1 : Int32)) hx hb d_M_readReal_172 (by decide) ?_
        refine lv_isub hx hb d_M_readReal_173 ?_
        refine lv_goto hx hb d_M_readReal_174 (tgt := 178) (by decide) ?_
        exact w_M_readReal_178 hfl K (fun x1 x3 x7 z => B_M_readReal_150 post n x1 x3 x7 z) (fun x1 x3 x7 z H locs ls hh hll hww => ih x1 x3 x7 z H locs ls hh hll hww) x1 x3 x7 ((mg_I M 19 13) - (1 : Int32)) M _ _ _ h (lv_sub hl [0, 1, 2, 3] rfl) hw
      · have h := h.2 hc
        refine lv_iconst (v := (0 : Int32)) hx hb d_M_readReal_177 (by decide) ?_
        exact w_M_readReal_178 hfl K (fun x1 x3 x7 z => B_M_readReal_150 post n x1 x3 x7 z) (fun x1 x3 x7 z H locs ls hh hll hww => ih x1 x3 x7 z H locs ls hh hll hww) x1 x3 x7 (0 : Int32) M _ _ _ h (lv_sub hl [0, 1, 2, 3] rfl) hw
    · have h := h.2 hc
      exact w_M_readReal_198 hfl K x1 x3 x7 M _ _ _ h (lv_sub hl [0, 1, 2, 3] rfl) hw
theorem w_M_readReal_127 {post : Unit → nf_M → Prop} (hfl : l.flags = flags0) (K : nf_K p s m args meth c "NumberForgeModel" nb_M_readReal 12 none D a sz) : ∀ (x1 : Int32) (x3 : Int32) (x5 : Int32) (xy0 : Int32) (M : nf_M) (H : Heap) (locs : List Loc) (ls : Array Slot), B_M_readReal_127 post x1 x3 x5 xy0 M → lv_has ls 12 [(0, .ref (a 19)), (1, .int x1), (3, .int x3), (5, .int x5)] → nf_W D a s sz H locs M → W p l e rm_M_readReal s m args below meth c H locs 0 0 (nf_MQ below (nf_Q nf_jN D a post ex (nf_A a sz)) args s rm_M_readReal.cells rm_M_readReal.slots (nf_A a sz)) (F0 m 127 ls [.int xy0]) := by
  have hx := K.1
  have hb := K.2.1
  intro x1 x3 x5 xy0 M H locs ls h hl hw
  refine lv_istore (lv' := [(6, .int xy0), (0, .ref (a 19)), (1, .int x1), (3, .int x3), (5, .int x5)]) hx hb d_M_readReal_127 hl (by decide) rfl (fun ls hl => ?_)
  refine lv_iload hx hb d_M_readReal_129 (lv_at hl 0 rfl) ?_
  refine lv_sipush (v := (9999 : Int32)) hx hb d_M_readReal_131 (by decide) ?_
  refine nf_ic_ne hx hb d_M_readReal_134 (tgt := 143) (by decide) (fun hc => ?_) (fun hc => ?_)
  · have h := h.1 hc
    refine lv_aload_n hx hb d_M_readReal_137 rfl (lv_at hl 1 rfl) ?_
    refine lv_iconst (v := (3 : Int32)) hx hb d_M_readReal_138 (by decide) ?_
    refine nf_put (M' := ms_I M 19 9 (3 : Int32)) K hw 19 7 9 nw_940 rfl rfl rfl ni_M ny_M nq_M nn_M (by decide) rfl rfl rfl rfl (Nat.le_of_ble_eq_true rfl) d_M_readReal_139 (fun H locs hw => ?_)
    obtain ⟨M1, eM1⟩ : ∃ z, z = ms_I M 19 9 (3 : Int32) := ⟨_, rfl⟩
    rw [← eM1] at hw
    have h := h M1 eM1
    exact nf_vret K hw d_M_readReal_142 (Nat.le_of_ble_eq_true rfl) (Nat.le_of_ble_eq_true rfl) (r := ()) rfl h
  · have h := h.2 hc
    refine lv_iload hx hb d_M_readReal_143 (lv_at hl 0 rfl) ?_
    refine lv_iload hx hb d_M_readReal_145 (lv_at hl 4 rfl) ?_
    refine lv_isub hx hb d_M_readReal_147 ?_
    refine lv_topi (fun t2 et2 => ?_)
    have h := h t2 et2
    refine lv_istore (lv' := [(7, .int t2), (6, .int xy0), (0, .ref (a 19)), (1, .int x1), (3, .int x3), (5, .int x5)]) hx hb d_M_readReal_148 hl (by decide) rfl (fun ls hl => ?_)
    obtain ⟨n, h⟩ := h
    exact w_M_readReal_150 hfl K n x1 x3 t2 M _ _ _ h (lv_sub hl [2, 3, 4, 0] rfl) hw
theorem w_M_readReal_102 {post : Unit → nf_M → Prop} (hfl : l.flags = flags0) (K : nf_K p s m args meth c "NumberForgeModel" nb_M_readReal 12 none D a sz) : ∀ (x1 : Int32) (x3 : Int32) (xy0 : Int32) (M : nf_M) (H : Heap) (locs : List Loc) (ls : Array Slot), B_M_readReal_102 post x1 x3 xy0 M → lv_has ls 12 [(0, .ref (a 19)), (1, .int x1), (3, .int x3)] → nf_W D a s sz H locs M → W p l e rm_M_readReal s m args below meth c H locs 0 0 (nf_MQ below (nf_Q nf_jN D a post ex (nf_A a sz)) args s rm_M_readReal.cells rm_M_readReal.slots (nf_A a sz)) (F0 m 102 ls [.int xy0, .ref (a 19)]) := by
  have hx := K.1
  have hb := K.2.1
  intro x1 x3 xy0 M H locs ls h hl hw
  refine nf_put (M' := ms_I M 19 15 xy0) K hw 19 7 15 nw_946 rfl rfl rfl ni_M ny_M nq_M nn_M (by decide) rfl rfl rfl rfl (Nat.le_of_ble_eq_true rfl) d_M_readReal_102 (fun H locs hw => ?_)
  obtain ⟨M1, eM1⟩ : ∃ z, z = ms_I M 19 15 xy0 := ⟨_, rfl⟩
  rw [← eM1] at hw
  have h := h M1 eM1
  refine lv_aload_n hx hb d_M_readReal_105 rfl (lv_at hl 0 rfl) ?_
  refine lv_iconst (v := (1 : Int32)) hx hb d_M_readReal_106 (by decide) ?_
  refine nf_callW (ex := (fun _ _ => False)) (As := [.ref (a 19), .int (1 : Int32)]) (st0 := [.int (1 : Int32), .ref (a 19)]) (rest := []) K hw (nf_invV hx hb K.2.2.2.1 (nf_Kg K nw_1022) (nf_Kg K nw_1024) (nf_Kg K nx_M_digits) (nf_Kg K nw_1025) ⟨by decide, by decide⟩ (nf_rcv K hw 19 7 rfl rfl) rfl nl_M_digits rfl d_M_readReal_107) (c_M_digits l hfl (1 : Int32)) nw_1025 nw_9 rfl ⟨by decide, by decide⟩ (Nat.le_of_ble_eq_true rfl) hl.1 ⟨Nat.le_of_ble_eq_true rfl, Nat.le_of_ble_eq_true rfl⟩ h (fun _ _ h => h.elim) (fun r2 M3 H locs h hw => ?_)
  refine W.eq (g2 := F0 m 110 ls [.int r2]) rfl ?_
  refine lv_istore (lv' := [(5, .int r2), (0, .ref (a 19)), (1, .int x1), (3, .int x3)]) hx hb d_M_readReal_110 hl (by decide) rfl (fun ls hl => ?_)
  refine lv_iload hx hb d_M_readReal_112 (lv_at hl 0 rfl) ?_
  refine nf_if_ge hx hb d_M_readReal_114 (tgt := 123) (by decide) (fun hc => ?_) (fun hc => ?_)
  · have h := h.1 hc
    refine lv_sipush (v := (9999 : Int32)) hx hb d_M_readReal_117 (by decide) ?_
    refine lv_goto hx hb d_M_readReal_120 (tgt := 127) (by decide) ?_
    exact w_M_readReal_127 hfl K x1 x3 r2 (9999 : Int32) M3 _ _ _ h (lv_sub hl [1, 2, 3, 0] rfl) hw
  · have h := h.2 hc
    refine lv_aload_n hx hb d_M_readReal_123 rfl (lv_at hl 1 rfl) ?_
    refine nf_callW (ex := (fun _ _ => False)) (As := [.ref (a 19)]) (st0 := [.ref (a 19)]) (rest := []) K hw (nf_invV hx hb K.2.2.2.1 (nf_Kg K nw_1059) (nf_Kg K nw_1061) (nf_Kg K nx_M_exponent) (nf_Kg K nw_1062) ⟨by decide, by decide⟩ (nf_rcv K hw 19 7 rfl rfl) rfl nl_M_exponent rfl d_M_readReal_124) (c_M_exponent l hfl ) nw_1062 nw_9 rfl ⟨by decide, by decide⟩ (Nat.le_of_ble_eq_true rfl) hl.1 ⟨Nat.le_of_ble_eq_true rfl, Nat.le_of_ble_eq_true rfl⟩ h (fun _ _ h => h.elim) (fun r4 M5 H locs h hw => ?_)
    refine W.eq (g2 := F0 m 127 ls [.int r4]) rfl ?_
    exact w_M_readReal_127 hfl K x1 x3 r2 r4 M5 _ _ _ h (lv_sub hl [1, 2, 3, 0] rfl) hw
theorem w_M_readReal_53 {post : Unit → nf_M → Prop} (hfl : l.flags = flags0) (K : nf_K p s m args meth c "NumberForgeModel" nb_M_readReal 12 none D a sz) : ∀ (x1 : Int32) (x3 : Int32) (x4 : Int32) (xy0 : Int32) (M : nf_M) (H : Heap) (locs : List Loc) (ls : Array Slot), B_M_readReal_53 post x1 x3 x4 xy0 M → lv_has ls 12 [(0, .ref (a 19)), (1, .int x1), (3, .int x3), (4, .int x4)] → nf_W D a s sz H locs M → W p l e rm_M_readReal s m args below meth c H locs 0 0 (nf_MQ below (nf_Q nf_jN D a post ex (nf_A a sz)) args s rm_M_readReal.cells rm_M_readReal.slots (nf_A a sz)) (F0 m 53 ls [.int xy0, .ref (a 19)]) := by
  have hx := K.1
  have hb := K.2.1
  intro x1 x3 x4 xy0 M H locs ls h hl hw
  refine lv_bipush (v := (73 : Int32)) hx hb d_M_readReal_53 (by decide) ?_
  refine lv_bipush (v := (78 : Int32)) hx hb d_M_readReal_55 (by decide) ?_
  refine lv_bipush (v := (70 : Int32)) hx hb d_M_readReal_57 (by decide) ?_
  refine nf_callW (ex := (fun _ _ => False)) (As := [.ref (a 19), .int xy0, .int (73 : Int32), .int (78 : Int32), .int (70 : Int32)]) (st0 := [.int (70 : Int32), .int (78 : Int32), .int (73 : Int32), .int xy0, .ref (a 19)]) (rest := []) K hw (nf_invV hx hb K.2.2.2.1 (nf_Kg K nw_1053) (nf_Kg K nw_1055) (nf_Kg K nx_M_isWord) (nf_Kg K nw_1056) ⟨by decide, by decide⟩ (nf_rcv K hw 19 7 rfl rfl) rfl nl_M_isWord rfl d_M_readReal_59) (c_M_isWord l hfl xy0 (73 : Int32) (78 : Int32) (70 : Int32)) nw_1056 nw_9 rfl ⟨by decide, by decide⟩ (Nat.le_of_ble_eq_true rfl) hl.1 ⟨Nat.le_of_ble_eq_true rfl, Nat.le_of_ble_eq_true rfl⟩ h (fun _ _ h => h.elim) (fun r1 M2 H locs h hw => ?_)
  refine W.eq (g2 := F0 m 62 ls [.int r1]) rfl ?_
  refine nf_if_eq hx hb d_M_readReal_62 (tgt := 83) (by decide) (fun hc => ?_) (fun hc => ?_)
  · have h := h.1 hc
    refine lv_aload_n hx hb d_M_readReal_83 rfl (lv_at hl 0 rfl) ?_
    refine lv_iload hx hb d_M_readReal_84 (lv_at hl 3 rfl) ?_
    refine nf_if_eq hx hb d_M_readReal_86 (tgt := 98) (by decide) (fun hc => ?_) (fun hc => ?_)
    · have h := h.1 hc
      refine lv_aload_n hx hb d_M_readReal_98 rfl (lv_at hl 0 rfl) ?_
      refine nf_get (v := .int (mg_I M2 19 15)) K hw 19 7 15 nw_946 rfl rfl ni_M (by decide) rfl rfl d_M_readReal_99 ?_
      exact w_M_readReal_102 hfl K x1 x3 (mg_I M2 19 15) M2 _ _ _ h (lv_sub hl [0, 1, 2] rfl) hw
    · have h := h.2 hc
      refine lv_aload_n hx hb d_M_readReal_89 rfl (lv_at hl 0 rfl) ?_
      refine nf_get (v := .int (mg_I M2 19 15)) K hw 19 7 15 nw_946 rfl rfl ni_M (by decide) rfl rfl d_M_readReal_90 ?_
      refine lv_iconst (v := (1 : Int32)) hx hb d_M_readReal_93 (by decide) ?_
      refine lv_iadd hx hb d_M_readReal_94 ?_
      refine lv_goto hx hb d_M_readReal_95 (tgt := 102) (by decide) ?_
      exact w_M_readReal_102 hfl K x1 x3 ((mg_I M2 19 15) + (1 : Int32)) M2 _ _ _ h (lv_sub hl [0, 1, 2] rfl) hw
  · have h := h.2 hc
    refine lv_aload_n hx hb d_M_readReal_65 rfl (lv_at hl 0 rfl) ?_
    refine lv_iload_n hx hb d_M_readReal_66 rfl (lv_at hl 2 rfl) ?_
    refine nf_if_eq hx hb d_M_readReal_67 (tgt := 76) (by decide) (fun hc => ?_) (fun hc => ?_)
    · have h := h.1 hc
      refine lv_ldc2d (v := (9218868437227405312 : UInt64)) hx hb K.2.2.2.1 (nf_Kg K nw_1058) d_M_readReal_76 ?_
      exact w_M_readReal_79 hfl K (9218868437227405312 : UInt64) M2 _ _ _ h (lv_sub hl [] rfl) hw
    · have h := h.2 hc
      refine lv_ldc2d (v := (18442240474082181120 : UInt64)) hx hb K.2.2.2.1 (nf_Kg K nw_1057) d_M_readReal_70 ?_
      refine lv_goto hx hb d_M_readReal_73 (tgt := 79) (by decide) ?_
      exact w_M_readReal_79 hfl K (18442240474082181120 : UInt64) M2 _ _ _ h (lv_sub hl [] rfl) hw
theorem w_M_readReal_32 {post : Unit → nf_M → Prop} (hfl : l.flags = flags0) (K : nf_K p s m args meth c "NumberForgeModel" nb_M_readReal 12 none D a sz) : ∀ (x1 : Int32) (x3 : Int32) (xy0 : Int32) (M : nf_M) (H : Heap) (locs : List Loc) (ls : Array Slot), B_M_readReal_32 post x1 x3 xy0 M → lv_has ls 12 [(0, .ref (a 19)), (1, .int x1), (3, .int x3)] → nf_W D a s sz H locs M → W p l e rm_M_readReal s m args below meth c H locs 0 0 (nf_MQ below (nf_Q nf_jN D a post ex (nf_A a sz)) args s rm_M_readReal.cells rm_M_readReal.slots (nf_A a sz)) (F0 m 32 ls [.int xy0]) := by
  have hx := K.1
  have hb := K.2.1
  intro x1 x3 xy0 M H locs ls h hl hw
  refine lv_istore (lv' := [(4, .int xy0), (0, .ref (a 19)), (1, .int x1), (3, .int x3)]) hx hb d_M_readReal_32 hl (by decide) rfl (fun ls hl => ?_)
  refine lv_aload_n hx hb d_M_readReal_34 rfl (lv_at hl 1 rfl) ?_
  refine lv_iload hx hb d_M_readReal_35 (lv_at hl 0 rfl) ?_
  refine nf_if_eq hx hb d_M_readReal_37 (tgt := 49) (by decide) (fun hc => ?_) (fun hc => ?_)
  · have h := h.1 hc
    refine lv_aload_n hx hb d_M_readReal_49 rfl (lv_at hl 1 rfl) ?_
    refine nf_get (v := .int (mg_I M 19 15)) K hw 19 7 15 nw_946 rfl rfl ni_M (by decide) rfl rfl d_M_readReal_50 ?_
    exact w_M_readReal_53 hfl K x1 x3 xy0 (mg_I M 19 15) M _ _ _ h (lv_sub hl [1, 2, 3, 0] rfl) hw
  · have h := h.2 hc
    refine lv_aload_n hx hb d_M_readReal_40 rfl (lv_at hl 1 rfl) ?_
    refine nf_get (v := .int (mg_I M 19 15)) K hw 19 7 15 nw_946 rfl rfl ni_M (by decide) rfl rfl d_M_readReal_41 ?_
    refine lv_iconst (v := (1 : Int32)) hx hb d_M_readReal_44 (by decide) ?_
    refine lv_iadd hx hb d_M_readReal_45 ?_
    refine lv_goto hx hb d_M_readReal_46 (tgt := 53) (by decide) ?_
    exact w_M_readReal_53 hfl K x1 x3 xy0 ((mg_I M 19 15) + (1 : Int32)) M _ _ _ h (lv_sub hl [1, 2, 3, 0] rfl) hw
theorem w_M_readReal_27 {post : Unit → nf_M → Prop} (hfl : l.flags = flags0) (K : nf_K p s m args meth c "NumberForgeModel" nb_M_readReal 12 none D a sz) : ∀ (x1 : Int32) (x3 : Int32) (M : nf_M) (H : Heap) (locs : List Loc) (ls : Array Slot), B_M_readReal_27 post x1 x3 M → lv_has ls 12 [(0, .ref (a 19)), (1, .int x1), (3, .int x3)] → nf_W D a s sz H locs M → W p l e rm_M_readReal s m args below meth c H locs 0 0 (nf_MQ below (nf_Q nf_jN D a post ex (nf_A a sz)) args s rm_M_readReal.cells rm_M_readReal.slots (nf_A a sz)) (F0 m 27 ls []) := by
  have hx := K.1
  have hb := K.2.1
  intro x1 x3 M H locs ls h hl hw
  refine lv_iconst (v := (1 : Int32)) hx hb d_M_readReal_27 (by decide) ?_
  refine lv_goto hx hb d_M_readReal_28 (tgt := 32) (by decide) ?_
  exact w_M_readReal_32 hfl K x1 x3 (1 : Int32) M _ _ _ h (lv_sub hl [0, 1, 2] rfl) hw
theorem w_M_readReal_16 {post : Unit → nf_M → Prop} (hfl : l.flags = flags0) (K : nf_K p s m args meth c "NumberForgeModel" nb_M_readReal 12 none D a sz) : ∀ (x1 : Int32) (x2 : Int32) (xy0 : Int32) (M : nf_M) (H : Heap) (locs : List Loc) (ls : Array Slot), B_M_readReal_16 post x1 x2 xy0 M → lv_has ls 12 [(0, .ref (a 19)), (1, .int x1), (2, .int x2)] → nf_W D a s sz H locs M → W p l e rm_M_readReal s m args below meth c H locs 0 0 (nf_MQ below (nf_Q nf_jN D a post ex (nf_A a sz)) args s rm_M_readReal.cells rm_M_readReal.slots (nf_A a sz)) (F0 m 16 ls [.int xy0]) := by
  have hx := K.1
  have hb := K.2.1
  intro x1 x2 xy0 M H locs ls h hl hw
  refine lv_istore_n (lv' := [(3, .int xy0), (0, .ref (a 19)), (1, .int x1), (2, .int x2)]) hx hb d_M_readReal_16 rfl hl (by decide) rfl (fun ls hl => ?_)
  refine lv_iload_n hx hb d_M_readReal_17 rfl (lv_at hl 0 rfl) ?_
  refine nf_if_ne hx hb d_M_readReal_18 (tgt := 27) (by decide) (fun hc => ?_) (fun hc => ?_)
  · have h := h.1 hc
    refine lv_iload_n hx hb d_M_readReal_21 rfl (lv_at hl 3 rfl) ?_
    refine lv_bipush (v := (43 : Int32)) hx hb d_M_readReal_22 (by decide) ?_
    refine nf_ic_ne hx hb d_M_readReal_24 (tgt := 31) (by decide) (fun hc => ?_) (fun hc => ?_)
    · have h := h.1 hc
      exact w_M_readReal_27 hfl K x1 xy0 M _ _ _ h (lv_sub hl [1, 2, 0] rfl) hw
    · have h := h.2 hc
      refine lv_iconst (v := (0 : Int32)) hx hb d_M_readReal_31 (by decide) ?_
      exact w_M_readReal_32 hfl K x1 xy0 (0 : Int32) M _ _ _ h (lv_sub hl [1, 2, 0] rfl) hw
  · have h := h.2 hc
    exact w_M_readReal_27 hfl K x1 xy0 M _ _ _ h (lv_sub hl [1, 2, 0] rfl) hw
theorem c_M_readReal (l : Launch) (hfl : l.flags = flags0) (x1 : Int32) : nf_C nf_jN l nm_M_readReal nb_M_readReal 12 none rm_M_readReal (fun a => [.ref (a 19), .int x1]) (fun M post ex => P_M_readReal x1 M post) := by
  refine nf_start (plainFor_of_name (by decide +kernel)) (fun a => Nat.le_of_ble_eq_true rfl) ?_
  intro D a sz M post ex p e s m below meth c ls h K hl hw
  have hx := K.1
  have hb := K.2.1
  have hl : lv_has ls 12 [(0, .ref (a 19)), (1, .int x1)] := hl
  refine lv_aload_n hx hb d_M_readReal_0 rfl (lv_at hl 0 rfl) ?_
  refine nf_callW (ex := (fun _ _ => False)) (As := [.ref (a 19)]) (st0 := [.ref (a 19)]) (rest := []) K hw (nf_invV hx hb K.2.2.2.1 (nf_Kg K nw_1018) (nf_Kg K nw_1020) (nf_Kg K nx_M_here) (nf_Kg K nw_1021) ⟨by decide, by decide⟩ (nf_rcv K hw 19 7 rfl rfl) rfl nl_M_here rfl d_M_readReal_1) (c_M_here l hfl ) nw_1021 nw_9 rfl ⟨by decide, by decide⟩ (Nat.le_of_ble_eq_true rfl) hl.1 ⟨Nat.le_of_ble_eq_true rfl, Nat.le_of_ble_eq_true rfl⟩ h (fun _ _ h => h.elim) (fun r1 M2 H locs h hw => ?_)
  refine W.eq (g2 := F0 m 4 ls [.int r1]) rfl ?_
  refine lv_istore_n (lv' := [(2, .int r1), (0, .ref (a 19)), (1, .int x1)]) hx hb d_M_readReal_4 rfl hl (by decide) rfl (fun ls hl => ?_)
  refine lv_iload_n hx hb d_M_readReal_5 rfl (lv_at hl 0 rfl) ?_
  refine lv_bipush (v := (45 : Int32)) hx hb d_M_readReal_6 (by decide) ?_
  refine nf_ic_ne hx hb d_M_readReal_8 (tgt := 15) (by decide) (fun hc => ?_) (fun hc => ?_)
  · have h := h.1 hc
    refine lv_iconst (v := (1 : Int32)) hx hb d_M_readReal_11 (by decide) ?_
    refine lv_goto hx hb d_M_readReal_12 (tgt := 16) (by decide) ?_
    exact w_M_readReal_16 hfl K x1 r1 (1 : Int32) M2 _ _ _ h (lv_sub hl [1, 2, 0] rfl) hw
  · have h := h.2 hc
    refine lv_iconst (v := (0 : Int32)) hx hb d_M_readReal_15 (by decide) ?_
    exact w_M_readReal_16 hfl K x1 r1 (0 : Int32) M2 _ _ _ h (lv_sub hl [1, 2, 0] rfl) hw
theorem d_M_store_0 : decode nb_M_store 0 = .ok (.aload_n 0, 1) := by decide +kernel
theorem d_M_store_1 : decode nb_M_store 1 = .ok (.getfield 16, 3) := by decide +kernel
theorem d_M_store_4 : decode nb_M_store 4 = .ok (.iload_n 1, 1) := by decide +kernel
theorem d_M_store_5 : decode nb_M_store 5 = .ok (.iload_n 2, 1) := by decide +kernel
theorem d_M_store_6 : decode nb_M_store 6 = .ok (.iastore, 1) := by decide +kernel
theorem d_M_store_7 : decode nb_M_store 7 = .ok (.aload_n 0, 1) := by decide +kernel
theorem d_M_store_8 : decode nb_M_store 8 = .ok (.getfield 19, 3) := by decide +kernel
theorem d_M_store_11 : decode nb_M_store 11 = .ok (.iload_n 1, 1) := by decide +kernel
theorem d_M_store_12 : decode nb_M_store 12 = .ok (.iload_n 2, 1) := by decide +kernel
theorem d_M_store_13 : decode nb_M_store 13 = .ok (.invokestatic 145, 3) := by decide +kernel
theorem d_M_store_16 : decode nb_M_store 16 = .ok (.ifCond .eq 10, 3) := by decide +kernel
theorem d_M_store_19 : decode nb_M_store 19 = .ok (.aload_n 0, 1) := by decide +kernel
theorem d_M_store_20 : decode nb_M_store 20 = .ok (.getfield 74, 3) := by decide +kernel
theorem d_M_store_23 : decode nb_M_store 23 = .ok (.goto 4, 3) := by decide +kernel
theorem d_M_store_26 : decode nb_M_store 26 = .ok (.lconst 0, 1) := by decide +kernel
theorem d_M_store_27 : decode nb_M_store 27 = .ok (.lastore, 1) := by decide +kernel
theorem d_M_store_28 : decode nb_M_store 28 = .ok (.aload_n 0, 1) := by decide +kernel
theorem d_M_store_29 : decode nb_M_store 29 = .ok (.getfield 23, 3) := by decide +kernel
theorem d_M_store_32 : decode nb_M_store 32 = .ok (.iload_n 1, 1) := by decide +kernel
theorem d_M_store_33 : decode nb_M_store 33 = .ok (.iload_n 2, 1) := by decide +kernel
theorem d_M_store_34 : decode nb_M_store 34 = .ok (.invokestatic 145, 3) := by decide +kernel
theorem d_M_store_37 : decode nb_M_store 37 = .ok (.ifCond .eq 10, 3) := by decide +kernel
theorem d_M_store_40 : decode nb_M_store 40 = .ok (.aload_n 0, 1) := by decide +kernel
theorem d_M_store_41 : decode nb_M_store 41 = .ok (.getfield 78, 3) := by decide +kernel
theorem d_M_store_44 : decode nb_M_store 44 = .ok (.goto 4, 3) := by decide +kernel
theorem d_M_store_47 : decode nb_M_store 47 = .ok (.iconst 0, 1) := by decide +kernel
theorem d_M_store_48 : decode nb_M_store 48 = .ok (.iastore, 1) := by decide +kernel
theorem d_M_store_49 : decode nb_M_store 49 = .ok (.aload_n 0, 1) := by decide +kernel
theorem d_M_store_50 : decode nb_M_store 50 = .ok (.getfield 26, 3) := by decide +kernel
theorem d_M_store_53 : decode nb_M_store 53 = .ok (.iload_n 1, 1) := by decide +kernel
theorem d_M_store_54 : decode nb_M_store 54 = .ok (.iload_n 2, 1) := by decide +kernel
theorem d_M_store_55 : decode nb_M_store 55 = .ok (.invokestatic 145, 3) := by decide +kernel
theorem d_M_store_58 : decode nb_M_store 58 = .ok (.ifCond .eq 7, 3) := by decide +kernel
theorem d_M_store_61 : decode nb_M_store 61 = .ok (.dconst 0, 1) := by decide +kernel
theorem d_M_store_62 : decode nb_M_store 62 = .ok (.goto 7, 3) := by decide +kernel
theorem d_M_store_65 : decode nb_M_store 65 = .ok (.aload_n 0, 1) := by decide +kernel
theorem d_M_store_66 : decode nb_M_store 66 = .ok (.getfield 134, 3) := by decide +kernel
theorem d_M_store_69 : decode nb_M_store 69 = .ok (.dastore, 1) := by decide +kernel
theorem d_M_store_70 : decode nb_M_store 70 = .ok (.return_, 1) := by decide +kernel
abbrev rm_M_store : Room := ({ frames := 1, cells := 0, slots := 0, locals := 20 })
theorem w_M_store_69 {post : Unit → nf_M → Prop} (hfl : l.flags = flags0) (K : nf_K p s m args meth c "NumberForgeModel" nb_M_store 3 none D a sz) : ∀ (xy0 : UInt64) (xy1 : Int32) (M : nf_M) (H : Heap) (locs : List Loc) (ls : Array Slot), B_M_store_69 post xy0 xy1 M → lv_has ls 3 [] → nf_W D a s sz H locs M → W p l e rm_M_store s m args below meth c H locs 0 0 (nf_MQ below (nf_Q nf_jN D a post ex (nf_A a sz)) args s rm_M_store.cells rm_M_store.slots (nf_A a sz)) (F0 m 69 ls [.double xy0, .int xy1, .ref (a 25)]) := by
  have hx := K.1
  have hb := K.2.1
  intro xy0 xy1 M H locs ls h hl hw
  obtain ⟨g1, h⟩ := h
  refine nf_dast (M' := ms_D M 25 xy1.toNatClampNeg xy0) K hw 25 8 rfl rfl g1 rfl d_M_store_69 (fun H locs hw => ?_)
  obtain ⟨M2, eM2⟩ : ∃ z, z = ms_D M 25 xy1.toNatClampNeg xy0 := ⟨_, rfl⟩
  rw [← eM2] at hw
  have h := h M2 eM2
  exact nf_vret K hw d_M_store_70 (Nat.le_of_ble_eq_true rfl) (Nat.le_of_ble_eq_true rfl) (r := ()) rfl h
theorem w_M_store_48 {post : Unit → nf_M → Prop} (hfl : l.flags = flags0) (K : nf_K p s m args meth c "NumberForgeModel" nb_M_store 3 none D a sz) : ∀ (x1 : Int32) (x2 : Int32) (xy0 : Int32) (xy1 : Int32) (M : nf_M) (H : Heap) (locs : List Loc) (ls : Array Slot), B_M_store_48 post x1 x2 xy0 xy1 M → lv_has ls 3 [(0, .ref (a 19)), (1, .int x1), (2, .int x2)] → nf_W D a s sz H locs M → W p l e rm_M_store s m args below meth c H locs 0 0 (nf_MQ below (nf_Q nf_jN D a post ex (nf_A a sz)) args s rm_M_store.cells rm_M_store.slots (nf_A a sz)) (F0 m 48 ls [.int xy0, .int xy1, .ref (a 24)]) := by
  have hx := K.1
  have hb := K.2.1
  intro x1 x2 xy0 xy1 M H locs ls h hl hw
  obtain ⟨g1, h⟩ := h
  refine nf_iast (M' := ms_I M 24 xy1.toNatClampNeg xy0) K hw 24 7 rfl rfl g1 rfl d_M_store_48 (fun H locs hw => ?_)
  obtain ⟨M2, eM2⟩ : ∃ z, z = ms_I M 24 xy1.toNatClampNeg xy0 := ⟨_, rfl⟩
  rw [← eM2] at hw
  have h := h M2 eM2
  refine lv_aload_n hx hb d_M_store_49 rfl (lv_at hl 0 rfl) ?_
  refine nf_get (v := .ref (a 25)) K hw 19 7 8 nw_939 rfl rfl ni_M (by decide) rfl rfl d_M_store_50 ?_
  refine lv_iload_n hx hb d_M_store_53 rfl (lv_at hl 1 rfl) ?_
  refine lv_iload_n hx hb d_M_store_54 rfl (lv_at hl 2 rfl) ?_
  refine nf_callW (ex := (fun _ _ => False)) (As := [.int x2]) (st0 := [.int x2, .int x1, .ref (a 25)]) (rest := [.int x1, .ref (a 25)]) K hw (nf_invS hx hb K.2.2.2.1 (nf_Kg K nw_1011) (nf_Kg K nw_1012) (nf_Kg K nw_9) (nf_Kg K nw_1013) ⟨by decide, by decide⟩ rfl nl_M_isExact rfl d_M_store_55) (c_M_isExact l hfl x2) nw_1013 nw_9 rfl ⟨by decide, by decide⟩ (Nat.le_of_ble_eq_true rfl) hl.1 ⟨Nat.le_of_ble_eq_true rfl, Nat.le_of_ble_eq_true rfl⟩ h (fun _ _ h => h.elim) (fun r3 M4 H locs h hw => ?_)
  refine W.eq (g2 := F0 m 58 ls [.int r3, .int x1, .ref (a 25)]) rfl ?_
  refine nf_if_eq hx hb d_M_store_58 (tgt := 65) (by decide) (fun hc => ?_) (fun hc => ?_)
  · have h := h.1 hc
    refine lv_aload_n hx hb d_M_store_65 rfl (lv_at hl 0 rfl) ?_
    refine nf_get (v := .double (mg_D M4 19 12)) K hw 19 7 12 nw_943 rfl rfl ni_M (by decide) rfl rfl d_M_store_66 ?_
    exact w_M_store_69 hfl K (mg_D M4 19 12) x1 M4 _ _ _ h (lv_sub hl [] rfl) hw
  · have h := h.2 hc
    refine lv_dconst0 hx hb d_M_store_61 ?_
    refine lv_goto hx hb d_M_store_62 (tgt := 69) (by decide) ?_
    exact w_M_store_69 hfl K (FP.dconst0) x1 M4 _ _ _ h (lv_sub hl [] rfl) hw
theorem w_M_store_27 {post : Unit → nf_M → Prop} (hfl : l.flags = flags0) (K : nf_K p s m args meth c "NumberForgeModel" nb_M_store 3 none D a sz) : ∀ (x1 : Int32) (x2 : Int32) (xy0 : Int64) (xy1 : Int32) (M : nf_M) (H : Heap) (locs : List Loc) (ls : Array Slot), B_M_store_27 post x1 x2 xy0 xy1 M → lv_has ls 3 [(0, .ref (a 19)), (1, .int x1), (2, .int x2)] → nf_W D a s sz H locs M → W p l e rm_M_store s m args below meth c H locs 0 0 (nf_MQ below (nf_Q nf_jN D a post ex (nf_A a sz)) args s rm_M_store.cells rm_M_store.slots (nf_A a sz)) (F0 m 27 ls [.long xy0, .int xy1, .ref (a 23)]) := by
  have hx := K.1
  have hb := K.2.1
  intro x1 x2 xy0 xy1 M H locs ls h hl hw
  obtain ⟨g1, h⟩ := h
  refine nf_last (M' := ms_L M 23 xy1.toNatClampNeg xy0) K hw 23 6 rfl rfl g1 rfl d_M_store_27 (fun H locs hw => ?_)
  obtain ⟨M2, eM2⟩ : ∃ z, z = ms_L M 23 xy1.toNatClampNeg xy0 := ⟨_, rfl⟩
  rw [← eM2] at hw
  have h := h M2 eM2
  refine lv_aload_n hx hb d_M_store_28 rfl (lv_at hl 0 rfl) ?_
  refine nf_get (v := .ref (a 24)) K hw 19 7 7 nw_938 rfl rfl ni_M (by decide) rfl rfl d_M_store_29 ?_
  refine lv_iload_n hx hb d_M_store_32 rfl (lv_at hl 1 rfl) ?_
  refine lv_iload_n hx hb d_M_store_33 rfl (lv_at hl 2 rfl) ?_
  refine nf_callW (ex := (fun _ _ => False)) (As := [.int x2]) (st0 := [.int x2, .int x1, .ref (a 24)]) (rest := [.int x1, .ref (a 24)]) K hw (nf_invS hx hb K.2.2.2.1 (nf_Kg K nw_1011) (nf_Kg K nw_1012) (nf_Kg K nw_9) (nf_Kg K nw_1013) ⟨by decide, by decide⟩ rfl nl_M_isExact rfl d_M_store_34) (c_M_isExact l hfl x2) nw_1013 nw_9 rfl ⟨by decide, by decide⟩ (Nat.le_of_ble_eq_true rfl) hl.1 ⟨Nat.le_of_ble_eq_true rfl, Nat.le_of_ble_eq_true rfl⟩ h (fun _ _ h => h.elim) (fun r3 M4 H locs h hw => ?_)
  refine W.eq (g2 := F0 m 37 ls [.int r3, .int x1, .ref (a 24)]) rfl ?_
  refine nf_if_eq hx hb d_M_store_37 (tgt := 47) (by decide) (fun hc => ?_) (fun hc => ?_)
  · have h := h.1 hc
    refine lv_iconst (v := (0 : Int32)) hx hb d_M_store_47 (by decide) ?_
    exact w_M_store_48 hfl K x1 x2 (0 : Int32) x1 M4 _ _ _ h (lv_sub hl [0, 1, 2] rfl) hw
  · have h := h.2 hc
    refine lv_aload_n hx hb d_M_store_40 rfl (lv_at hl 0 rfl) ?_
    refine nf_get (v := .int (mg_I M4 19 11)) K hw 19 7 11 nw_942 rfl rfl ni_M (by decide) rfl rfl d_M_store_41 ?_
    refine lv_goto hx hb d_M_store_44 (tgt := 48) (by decide) ?_
    exact w_M_store_48 hfl K x1 x2 (mg_I M4 19 11) x1 M4 _ _ _ h (lv_sub hl [0, 1, 2] rfl) hw
theorem c_M_store (l : Launch) (hfl : l.flags = flags0) (x1 : Int32) (x2 : Int32) : nf_C nf_jN l nm_M_store nb_M_store 3 none rm_M_store (fun a => [.ref (a 19), .int x1, .int x2]) (fun M post ex => P_M_store x1 x2 M post) := by
  refine nf_start (plainFor_of_name (by decide +kernel)) (fun a => Nat.le_of_ble_eq_true rfl) ?_
  intro D a sz M post ex p e s m below meth c ls h K hl hw
  have hx := K.1
  have hb := K.2.1
  have hl : lv_has ls 3 [(0, .ref (a 19)), (1, .int x1), (2, .int x2)] := hl
  refine lv_aload_n hx hb d_M_store_0 rfl (lv_at hl 0 rfl) ?_
  refine nf_get (v := .ref (a 22)) K hw 19 7 5 nw_936 rfl rfl ni_M (by decide) rfl rfl d_M_store_1 ?_
  refine lv_iload_n hx hb d_M_store_4 rfl (lv_at hl 1 rfl) ?_
  refine lv_iload_n hx hb d_M_store_5 rfl (lv_at hl 2 rfl) ?_
  obtain ⟨g1, h⟩ := h
  refine nf_iast (M' := ms_I M 22 x1.toNatClampNeg x2) K hw 22 5 rfl rfl g1 rfl d_M_store_6 (fun H locs hw => ?_)
  obtain ⟨M2, eM2⟩ : ∃ z, z = ms_I M 22 x1.toNatClampNeg x2 := ⟨_, rfl⟩
  rw [← eM2] at hw
  have h := h M2 eM2
  refine lv_aload_n hx hb d_M_store_7 rfl (lv_at hl 0 rfl) ?_
  refine nf_get (v := .ref (a 23)) K hw 19 7 6 nw_937 rfl rfl ni_M (by decide) rfl rfl d_M_store_8 ?_
  refine lv_iload_n hx hb d_M_store_11 rfl (lv_at hl 1 rfl) ?_
  refine lv_iload_n hx hb d_M_store_12 rfl (lv_at hl 2 rfl) ?_
  refine nf_callW (ex := (fun _ _ => False)) (As := [.int x2]) (st0 := [.int x2, .int x1, .ref (a 23)]) (rest := [.int x1, .ref (a 23)]) K hw (nf_invS hx hb K.2.2.2.1 (nf_Kg K nw_1011) (nf_Kg K nw_1012) (nf_Kg K nw_9) (nf_Kg K nw_1013) ⟨by decide, by decide⟩ rfl nl_M_isExact rfl d_M_store_13) (c_M_isExact l hfl x2) nw_1013 nw_9 rfl ⟨by decide, by decide⟩ (Nat.le_of_ble_eq_true rfl) hl.1 ⟨Nat.le_of_ble_eq_true rfl, Nat.le_of_ble_eq_true rfl⟩ h (fun _ _ h => h.elim) (fun r3 M4 H locs h hw => ?_)
  refine W.eq (g2 := F0 m 16 ls [.int r3, .int x1, .ref (a 23)]) rfl ?_
  refine nf_if_eq hx hb d_M_store_16 (tgt := 26) (by decide) (fun hc => ?_) (fun hc => ?_)
  · have h := h.1 hc
    refine lv_lconst (v := (0 : Int64)) hx hb d_M_store_26 (by decide) ?_
    exact w_M_store_27 hfl K x1 x2 (0 : Int64) x1 M4 _ _ _ h (lv_sub hl [0, 1, 2] rfl) hw
  · have h := h.2 hc
    refine lv_aload_n hx hb d_M_store_19 rfl (lv_at hl 0 rfl) ?_
    refine nf_get (v := .long (mg_L M4 19 10)) K hw 19 7 10 nw_941 rfl rfl ni_M (by decide) rfl rfl d_M_store_20 ?_
    refine lv_goto hx hb d_M_store_23 (tgt := 27) (by decide) ?_
    exact w_M_store_27 hfl K x1 x2 (mg_L M4 19 10) x1 M4 _ _ _ h (lv_sub hl [0, 1, 2] rfl) hw
theorem d_M_read_0 : decode nb_M_read 0 = .ok (.aload_n 0, 1) := by decide +kernel
theorem d_M_read_1 : decode nb_M_read 1 = .ok (.iload_n 1, 1) := by decide +kernel
theorem d_M_read_2 : decode nb_M_read 2 = .ok (.invokestatic 148, 3) := by decide +kernel
theorem d_M_read_5 : decode nb_M_read 5 = .ok (.ifCond .eq 13, 3) := by decide +kernel
theorem d_M_read_8 : decode nb_M_read 8 = .ok (.iload_n 2, 1) := by decide +kernel
theorem d_M_read_9 : decode nb_M_read 9 = .ok (.ifCond .lt 9, 3) := by decide +kernel
theorem d_M_read_12 : decode nb_M_read 12 = .ok (.iload_n 2, 1) := by decide +kernel
theorem d_M_read_13 : decode nb_M_read 13 = .ok (.bipush 9, 2) := by decide +kernel
theorem d_M_read_15 : decode nb_M_read 15 = .ok (.if_icmp .le 7, 3) := by decide +kernel
theorem d_M_read_18 : decode nb_M_read 18 = .ok (.iconst 1, 1) := by decide +kernel
theorem d_M_read_19 : decode nb_M_read 19 = .ok (.goto 4, 3) := by decide +kernel
theorem d_M_read_22 : decode nb_M_read 22 = .ok (.iconst 0, 1) := by decide +kernel
theorem d_M_read_23 : decode nb_M_read 23 = .ok (.putfield 33, 3) := by decide +kernel
theorem d_M_read_26 : decode nb_M_read 26 = .ok (.aload_n 0, 1) := by decide +kernel
theorem d_M_read_27 : decode nb_M_read 27 = .ok (.getfield 33, 3) := by decide +kernel
theorem d_M_read_30 : decode nb_M_read 30 = .ok (.ifCond .le 4, 3) := by decide +kernel
theorem d_M_read_33 : decode nb_M_read 33 = .ok (.return_, 1) := by decide +kernel
theorem d_M_read_34 : decode nb_M_read 34 = .ok (.aload_n 0, 1) := by decide +kernel
theorem d_M_read_35 : decode nb_M_read 35 = .ok (.iconst 0, 1) := by decide +kernel
theorem d_M_read_36 : decode nb_M_read 36 = .ok (.putfield 104, 3) := by decide +kernel
theorem d_M_read_39 : decode nb_M_read 39 = .ok (.aload_n 0, 1) := by decide +kernel
theorem d_M_read_40 : decode nb_M_read 40 = .ok (.aload_n 0, 1) := by decide +kernel
theorem d_M_read_41 : decode nb_M_read 41 = .ok (.getfield 37, 3) := by decide +kernel
theorem d_M_read_44 : decode nb_M_read 44 = .ok (.putfield 107, 3) := by decide +kernel
theorem d_M_read_47 : decode nb_M_read 47 = .ok (.aload_n 0, 1) := by decide +kernel
theorem d_M_read_48 : decode nb_M_read 48 = .ok (.getfield 104, 3) := by decide +kernel
theorem d_M_read_51 : decode nb_M_read 51 = .ok (.aload_n 0, 1) := by decide +kernel
theorem d_M_read_52 : decode nb_M_read 52 = .ok (.getfield 107, 3) := by decide +kernel
theorem d_M_read_55 : decode nb_M_read 55 = .ok (.if_icmp .ge 45, 3) := by decide +kernel
theorem d_M_read_58 : decode nb_M_read 58 = .ok (.aload_n 0, 1) := by decide +kernel
theorem d_M_read_59 : decode nb_M_read 59 = .ok (.getfield 7, 3) := by decide +kernel
theorem d_M_read_62 : decode nb_M_read 62 = .ok (.aload_n 0, 1) := by decide +kernel
theorem d_M_read_63 : decode nb_M_read 63 = .ok (.getfield 104, 3) := by decide +kernel
theorem d_M_read_66 : decode nb_M_read 66 = .ok (.aload_n 0, 1) := by decide +kernel
theorem d_M_read_67 : decode nb_M_read 67 = .ok (.getfield 107, 3) := by decide +kernel
theorem d_M_read_70 : decode nb_M_read 70 = .ok (.if_icmp .ge 10, 3) := by decide +kernel
theorem d_M_read_73 : decode nb_M_read 73 = .ok (.aload_n 0, 1) := by decide +kernel
theorem d_M_read_74 : decode nb_M_read 74 = .ok (.getfield 104, 3) := by decide +kernel
theorem d_M_read_77 : decode nb_M_read 77 = .ok (.goto 4, 3) := by decide +kernel
theorem d_M_read_80 : decode nb_M_read 80 = .ok (.iconst 0, 1) := by decide +kernel
theorem d_M_read_81 : decode nb_M_read 81 = .ok (.iaload, 1) := by decide +kernel
theorem d_M_read_82 : decode nb_M_read 82 = .ok (.bipush 32, 2) := by decide +kernel
theorem d_M_read_84 : decode nb_M_read 84 = .ok (.if_icmp .ne 16, 3) := by decide +kernel
theorem d_M_read_87 : decode nb_M_read 87 = .ok (.aload_n 0, 1) := by decide +kernel
theorem d_M_read_88 : decode nb_M_read 88 = .ok (.dup, 1) := by decide +kernel
theorem d_M_read_89 : decode nb_M_read 89 = .ok (.getfield 104, 3) := by decide +kernel
theorem d_M_read_92 : decode nb_M_read 92 = .ok (.iconst 1, 1) := by decide +kernel
theorem d_M_read_93 : decode nb_M_read 93 = .ok (.iadd, 1) := by decide +kernel
theorem d_M_read_94 : decode nb_M_read 94 = .ok (.putfield 104, 3) := by decide +kernel
theorem d_M_read_97 : decode nb_M_read 97 = .ok (.goto (-50), 3) := by decide +kernel
theorem d_M_read_100 : decode nb_M_read 100 = .ok (.aload_n 0, 1) := by decide +kernel
theorem d_M_read_101 : decode nb_M_read 101 = .ok (.getfield 107, 3) := by decide +kernel
theorem d_M_read_104 : decode nb_M_read 104 = .ok (.aload_n 0, 1) := by decide +kernel
theorem d_M_read_105 : decode nb_M_read 105 = .ok (.getfield 104, 3) := by decide +kernel
theorem d_M_read_108 : decode nb_M_read 108 = .ok (.if_icmp .le 47, 3) := by decide +kernel
theorem d_M_read_111 : decode nb_M_read 111 = .ok (.aload_n 0, 1) := by decide +kernel
theorem d_M_read_112 : decode nb_M_read 112 = .ok (.getfield 7, 3) := by decide +kernel
theorem d_M_read_115 : decode nb_M_read 115 = .ok (.aload_n 0, 1) := by decide +kernel
theorem d_M_read_116 : decode nb_M_read 116 = .ok (.getfield 107, 3) := by decide +kernel
theorem d_M_read_119 : decode nb_M_read 119 = .ok (.aload_n 0, 1) := by decide +kernel
theorem d_M_read_120 : decode nb_M_read 120 = .ok (.getfield 104, 3) := by decide +kernel
theorem d_M_read_123 : decode nb_M_read 123 = .ok (.if_icmp .le 12, 3) := by decide +kernel
theorem d_M_read_126 : decode nb_M_read 126 = .ok (.aload_n 0, 1) := by decide +kernel
theorem d_M_read_127 : decode nb_M_read 127 = .ok (.getfield 107, 3) := by decide +kernel
theorem d_M_read_130 : decode nb_M_read 130 = .ok (.iconst 1, 1) := by decide +kernel
theorem d_M_read_131 : decode nb_M_read 131 = .ok (.isub, 1) := by decide +kernel
theorem d_M_read_132 : decode nb_M_read 132 = .ok (.goto 4, 3) := by decide +kernel
theorem d_M_read_135 : decode nb_M_read 135 = .ok (.iconst 0, 1) := by decide +kernel
theorem d_M_read_136 : decode nb_M_read 136 = .ok (.iaload, 1) := by decide +kernel
theorem d_M_read_137 : decode nb_M_read 137 = .ok (.bipush 32, 2) := by decide +kernel
theorem d_M_read_139 : decode nb_M_read 139 = .ok (.if_icmp .ne 16, 3) := by decide +kernel
theorem d_M_read_142 : decode nb_M_read 142 = .ok (.aload_n 0, 1) := by decide +kernel
theorem d_M_read_143 : decode nb_M_read 143 = .ok (.dup, 1) := by decide +kernel
theorem d_M_read_144 : decode nb_M_read 144 = .ok (.getfield 107, 3) := by decide +kernel
theorem d_M_read_147 : decode nb_M_read 147 = .ok (.iconst 1, 1) := by decide +kernel
theorem d_M_read_148 : decode nb_M_read 148 = .ok (.isub, 1) := by decide +kernel
theorem d_M_read_149 : decode nb_M_read 149 = .ok (.putfield 107, 3) := by decide +kernel
theorem d_M_read_152 : decode nb_M_read 152 = .ok (.goto (-52), 3) := by decide +kernel
theorem d_M_read_155 : decode nb_M_read 155 = .ok (.aload_n 0, 1) := by decide +kernel
theorem d_M_read_156 : decode nb_M_read 156 = .ok (.iconst 0, 1) := by decide +kernel
theorem d_M_read_157 : decode nb_M_read 157 = .ok (.putfield 67, 3) := by decide +kernel
theorem d_M_read_160 : decode nb_M_read 160 = .ok (.iload_n 2, 1) := by decide +kernel
theorem d_M_read_161 : decode nb_M_read 161 = .ok (.invokestatic 145, 3) := by decide +kernel
theorem d_M_read_164 : decode nb_M_read 164 = .ok (.ifCond .eq 11, 3) := by decide +kernel
theorem d_M_read_167 : decode nb_M_read 167 = .ok (.aload_n 0, 1) := by decide +kernel
theorem d_M_read_168 : decode nb_M_read 168 = .ok (.iload_n 2, 1) := by decide +kernel
theorem d_M_read_169 : decode nb_M_read 169 = .ok (.invokevirtual 151, 3) := by decide +kernel
theorem d_M_read_172 : decode nb_M_read 172 = .ok (.goto 8, 3) := by decide +kernel
theorem d_M_read_175 : decode nb_M_read 175 = .ok (.aload_n 0, 1) := by decide +kernel
theorem d_M_read_176 : decode nb_M_read 176 = .ok (.iload_n 2, 1) := by decide +kernel
theorem d_M_read_177 : decode nb_M_read 177 = .ok (.invokevirtual 155, 3) := by decide +kernel
theorem d_M_read_180 : decode nb_M_read 180 = .ok (.aload_n 0, 1) := by decide +kernel
theorem d_M_read_181 : decode nb_M_read 181 = .ok (.aload_n 0, 1) := by decide +kernel
theorem d_M_read_182 : decode nb_M_read 182 = .ok (.getfield 67, 3) := by decide +kernel
theorem d_M_read_185 : decode nb_M_read 185 = .ok (.iconst 3, 1) := by decide +kernel
theorem d_M_read_186 : decode nb_M_read 186 = .ok (.if_icmp .ne 7, 3) := by decide +kernel
theorem d_M_read_189 : decode nb_M_read 189 = .ok (.iconst 2, 1) := by decide +kernel
theorem d_M_read_190 : decode nb_M_read 190 = .ok (.goto 16, 3) := by decide +kernel
theorem d_M_read_193 : decode nb_M_read 193 = .ok (.aload_n 0, 1) := by decide +kernel
theorem d_M_read_194 : decode nb_M_read 194 = .ok (.getfield 67, 3) := by decide +kernel
theorem d_M_read_197 : decode nb_M_read 197 = .ok (.iconst 5, 1) := by decide +kernel
theorem d_M_read_198 : decode nb_M_read 198 = .ok (.if_icmp .ne 7, 3) := by decide +kernel
theorem d_M_read_201 : decode nb_M_read 201 = .ok (.iconst 3, 1) := by decide +kernel
theorem d_M_read_202 : decode nb_M_read 202 = .ok (.goto 4, 3) := by decide +kernel
theorem d_M_read_205 : decode nb_M_read 205 = .ok (.iconst 0, 1) := by decide +kernel
theorem d_M_read_206 : decode nb_M_read 206 = .ok (.putfield 33, 3) := by decide +kernel
theorem d_M_read_209 : decode nb_M_read 209 = .ok (.aload_n 0, 1) := by decide +kernel
theorem d_M_read_210 : decode nb_M_read 210 = .ok (.getfield 33, 3) := by decide +kernel
theorem d_M_read_213 : decode nb_M_read 213 = .ok (.ifCond .ne 14, 3) := by decide +kernel
theorem d_M_read_216 : decode nb_M_read 216 = .ok (.aload_n 0, 1) := by decide +kernel
theorem d_M_read_217 : decode nb_M_read 217 = .ok (.iload_n 1, 1) := by decide +kernel
theorem d_M_read_218 : decode nb_M_read 218 = .ok (.iload_n 2, 1) := by decide +kernel
theorem d_M_read_219 : decode nb_M_read 219 = .ok (.invokevirtual 158, 3) := by decide +kernel
theorem d_M_read_222 : decode nb_M_read 222 = .ok (.aload_n 0, 1) := by decide +kernel
theorem d_M_read_223 : decode nb_M_read 223 = .ok (.iconst 0, 1) := by decide +kernel
theorem d_M_read_224 : decode nb_M_read 224 = .ok (.putfield 37, 3) := by decide +kernel
theorem d_M_read_227 : decode nb_M_read 227 = .ok (.return_, 1) := by decide +kernel
abbrev rm_M_read : Room := ({ frames := 3, cells := 0, slots := 0, locals := 75 })
theorem w_M_read_227 {post : Unit → nf_M → Prop} (hfl : l.flags = flags0) (K : nf_K p s m args meth c "NumberForgeModel" nb_M_read 3 none D a sz) : ∀ (M : nf_M) (H : Heap) (locs : List Loc) (ls : Array Slot), B_M_read_227 post  M → lv_has ls 3 [] → nf_W D a s sz H locs M → W p l e rm_M_read s m args below meth c H locs 0 0 (nf_MQ below (nf_Q nf_jN D a post ex (nf_A a sz)) args s rm_M_read.cells rm_M_read.slots (nf_A a sz)) (F0 m 227 ls []) := by
  have hx := K.1
  have hb := K.2.1
  intro  M H locs ls h hl hw
  exact nf_vret K hw d_M_read_227 (Nat.le_of_ble_eq_true rfl) (Nat.le_of_ble_eq_true rfl) (r := ()) rfl h
theorem w_M_read_206 {post : Unit → nf_M → Prop} (hfl : l.flags = flags0) (K : nf_K p s m args meth c "NumberForgeModel" nb_M_read 3 none D a sz) : ∀ (x1 : Int32) (x2 : Int32) (xy0 : Int32) (M : nf_M) (H : Heap) (locs : List Loc) (ls : Array Slot), B_M_read_206 post x1 x2 xy0 M → lv_has ls 3 [(0, .ref (a 19)), (1, .int x1), (2, .int x2)] → nf_W D a s sz H locs M → W p l e rm_M_read s m args below meth c H locs 0 0 (nf_MQ below (nf_Q nf_jN D a post ex (nf_A a sz)) args s rm_M_read.cells rm_M_read.slots (nf_A a sz)) (F0 m 206 ls [.int xy0, .ref (a 19)]) := by
  have hx := K.1
  have hb := K.2.1
  intro x1 x2 xy0 M H locs ls h hl hw
  refine nf_put (M' := ms_I M 19 0 xy0) K hw 19 7 0 nw_931 rfl rfl rfl ni_M ny_M nq_M nn_M (by decide) rfl rfl rfl rfl (Nat.le_of_ble_eq_true rfl) d_M_read_206 (fun H locs hw => ?_)
  obtain ⟨M1, eM1⟩ : ∃ z, z = ms_I M 19 0 xy0 := ⟨_, rfl⟩
  rw [← eM1] at hw
  have h := h M1 eM1
  refine lv_aload_n hx hb d_M_read_209 rfl (lv_at hl 0 rfl) ?_
  refine nf_get (v := .int (mg_I M1 19 0)) K hw 19 7 0 nw_931 rfl rfl ni_M (by decide) rfl rfl d_M_read_210 ?_
  refine nf_if_ne hx hb d_M_read_213 (tgt := 227) (by decide) (fun hc => ?_) (fun hc => ?_)
  · have h := h.1 hc
    refine lv_aload_n hx hb d_M_read_216 rfl (lv_at hl 0 rfl) ?_
    refine lv_iload_n hx hb d_M_read_217 rfl (lv_at hl 1 rfl) ?_
    refine lv_iload_n hx hb d_M_read_218 rfl (lv_at hl 2 rfl) ?_
    refine nf_callW (ex := (fun _ _ => False)) (As := [.ref (a 19), .int x1, .int x2]) (st0 := [.int x2, .int x1, .ref (a 19)]) (rest := []) K hw (nf_invV hx hb K.2.2.2.1 (nf_Kg K nw_1070) (nf_Kg K nw_1072) (nf_Kg K nx_M_store) (nf_Kg K nw_1073) ⟨by decide, by decide⟩ (nf_rcv K hw 19 7 rfl rfl) rfl nl_M_store rfl d_M_read_219) (c_M_store l hfl x1 x2) nw_1073 nw_9 rfl ⟨by decide, by decide⟩ (Nat.le_of_ble_eq_true rfl) hl.1 ⟨Nat.le_of_ble_eq_true rfl, Nat.le_of_ble_eq_true rfl⟩ h (fun _ _ h => h.elim) (fun r2 M3 H locs h hw => ?_)
    refine W.eq (g2 := F0 m 222 ls []) rfl ?_
    refine lv_aload_n hx hb d_M_read_222 rfl (lv_at hl 0 rfl) ?_
    refine lv_iconst (v := (0 : Int32)) hx hb d_M_read_223 (by decide) ?_
    refine nf_put (M' := ms_I M3 19 1 (0 : Int32)) K hw 19 7 1 nw_932 rfl rfl rfl ni_M ny_M nq_M nn_M (by decide) rfl rfl rfl rfl (Nat.le_of_ble_eq_true rfl) d_M_read_224 (fun H locs hw => ?_)
    obtain ⟨M4, eM4⟩ : ∃ z, z = ms_I M3 19 1 (0 : Int32) := ⟨_, rfl⟩
    rw [← eM4] at hw
    have h := h M4 eM4
    exact w_M_read_227 hfl K  M4 _ _ _ h (lv_sub hl [] rfl) hw
  · have h := h.2 hc
    exact w_M_read_227 hfl K  M1 _ _ _ h (lv_sub hl [] rfl) hw
theorem w_M_read_180 {post : Unit → nf_M → Prop} (hfl : l.flags = flags0) (K : nf_K p s m args meth c "NumberForgeModel" nb_M_read 3 none D a sz) : ∀ (x1 : Int32) (x2 : Int32) (M : nf_M) (H : Heap) (locs : List Loc) (ls : Array Slot), B_M_read_180 post x1 x2 M → lv_has ls 3 [(0, .ref (a 19)), (1, .int x1), (2, .int x2)] → nf_W D a s sz H locs M → W p l e rm_M_read s m args below meth c H locs 0 0 (nf_MQ below (nf_Q nf_jN D a post ex (nf_A a sz)) args s rm_M_read.cells rm_M_read.slots (nf_A a sz)) (F0 m 180 ls []) := by
  have hx := K.1
  have hb := K.2.1
  intro x1 x2 M H locs ls h hl hw
  refine lv_aload_n hx hb d_M_read_180 rfl (lv_at hl 0 rfl) ?_
  refine lv_aload_n hx hb d_M_read_181 rfl (lv_at hl 0 rfl) ?_
  refine nf_get (v := .int (mg_I M 19 9)) K hw 19 7 9 nw_940 rfl rfl ni_M (by decide) rfl rfl d_M_read_182 ?_
  refine lv_iconst (v := (3 : Int32)) hx hb d_M_read_185 (by decide) ?_
  refine nf_ic_ne hx hb d_M_read_186 (tgt := 193) (by decide) (fun hc => ?_) (fun hc => ?_)
  · have h := h.1 hc
    refine lv_iconst (v := (2 : Int32)) hx hb d_M_read_189 (by decide) ?_
    refine lv_goto hx hb d_M_read_190 (tgt := 206) (by decide) ?_
    exact w_M_read_206 hfl K x1 x2 (2 : Int32) M _ _ _ h (lv_sub hl [0, 1, 2] rfl) hw
  · have h := h.2 hc
    refine lv_aload_n hx hb d_M_read_193 rfl (lv_at hl 0 rfl) ?_
    refine nf_get (v := .int (mg_I M 19 9)) K hw 19 7 9 nw_940 rfl rfl ni_M (by decide) rfl rfl d_M_read_194 ?_
    refine lv_iconst (v := (5 : Int32)) hx hb d_M_read_197 (by decide) ?_
    refine nf_ic_ne hx hb d_M_read_198 (tgt := 205) (by decide) (fun hc => ?_) (fun hc => ?_)
    · have h := h.1 hc
      refine lv_iconst (v := (3 : Int32)) hx hb d_M_read_201 (by decide) ?_
      refine lv_goto hx hb d_M_read_202 (tgt := 206) (by decide) ?_
      exact w_M_read_206 hfl K x1 x2 (3 : Int32) M _ _ _ h (lv_sub hl [0, 1, 2] rfl) hw
    · have h := h.2 hc
      refine lv_iconst (v := (0 : Int32)) hx hb d_M_read_205 (by decide) ?_
      exact w_M_read_206 hfl K x1 x2 (0 : Int32) M _ _ _ h (lv_sub hl [0, 1, 2] rfl) hw
theorem w_M_read_155 {post : Unit → nf_M → Prop} (hfl : l.flags = flags0) (K : nf_K p s m args meth c "NumberForgeModel" nb_M_read 3 none D a sz) : ∀ (x1 : Int32) (x2 : Int32) (M : nf_M) (H : Heap) (locs : List Loc) (ls : Array Slot), B_M_read_155 post x1 x2 M → lv_has ls 3 [(0, .ref (a 19)), (1, .int x1), (2, .int x2)] → nf_W D a s sz H locs M → W p l e rm_M_read s m args below meth c H locs 0 0 (nf_MQ below (nf_Q nf_jN D a post ex (nf_A a sz)) args s rm_M_read.cells rm_M_read.slots (nf_A a sz)) (F0 m 155 ls []) := by
  have hx := K.1
  have hb := K.2.1
  intro x1 x2 M H locs ls h hl hw
  refine lv_aload_n hx hb d_M_read_155 rfl (lv_at hl 0 rfl) ?_
  refine lv_iconst (v := (0 : Int32)) hx hb d_M_read_156 (by decide) ?_
  refine nf_put (M' := ms_I M 19 9 (0 : Int32)) K hw 19 7 9 nw_940 rfl rfl rfl ni_M ny_M nq_M nn_M (by decide) rfl rfl rfl rfl (Nat.le_of_ble_eq_true rfl) d_M_read_157 (fun H locs hw => ?_)
  obtain ⟨M1, eM1⟩ : ∃ z, z = ms_I M 19 9 (0 : Int32) := ⟨_, rfl⟩
  rw [← eM1] at hw
  have h := h M1 eM1
  refine lv_iload_n hx hb d_M_read_160 rfl (lv_at hl 2 rfl) ?_
  refine nf_callW (ex := (fun _ _ => False)) (As := [.int x2]) (st0 := [.int x2]) (rest := []) K hw (nf_invS hx hb K.2.2.2.1 (nf_Kg K nw_1011) (nf_Kg K nw_1012) (nf_Kg K nw_9) (nf_Kg K nw_1013) ⟨by decide, by decide⟩ rfl nl_M_isExact rfl d_M_read_161) (c_M_isExact l hfl x2) nw_1013 nw_9 rfl ⟨by decide, by decide⟩ (Nat.le_of_ble_eq_true rfl) hl.1 ⟨Nat.le_of_ble_eq_true rfl, Nat.le_of_ble_eq_true rfl⟩ h (fun _ _ h => h.elim) (fun r2 M3 H locs h hw => ?_)
  refine W.eq (g2 := F0 m 164 ls [.int r2]) rfl ?_
  refine nf_if_eq hx hb d_M_read_164 (tgt := 175) (by decide) (fun hc => ?_) (fun hc => ?_)
  · have h := h.1 hc
    refine lv_aload_n hx hb d_M_read_175 rfl (lv_at hl 0 rfl) ?_
    refine lv_iload_n hx hb d_M_read_176 rfl (lv_at hl 2 rfl) ?_
    refine nf_callW (ex := (fun _ _ => False)) (As := [.ref (a 19), .int x2]) (st0 := [.int x2, .ref (a 19)]) (rest := []) K hw (nf_invV hx hb K.2.2.2.1 (nf_Kg K nw_1049) (nf_Kg K nw_1051) (nf_Kg K nx_M_readReal) (nf_Kg K nw_1052) ⟨by decide, by decide⟩ (nf_rcv K hw 19 7 rfl rfl) rfl nl_M_readReal rfl d_M_read_177) (c_M_readReal l hfl x2) nw_1052 nw_9 rfl ⟨by decide, by decide⟩ (Nat.le_of_ble_eq_true rfl) hl.1 ⟨Nat.le_of_ble_eq_true rfl, Nat.le_of_ble_eq_true rfl⟩ h (fun _ _ h => h.elim) (fun r4 M5 H locs h hw => ?_)
    refine W.eq (g2 := F0 m 180 ls []) rfl ?_
    exact w_M_read_180 hfl K x1 x2 M5 _ _ _ h (lv_sub hl [0, 1, 2] rfl) hw
  · have h := h.2 hc
    refine lv_aload_n hx hb d_M_read_167 rfl (lv_at hl 0 rfl) ?_
    refine lv_iload_n hx hb d_M_read_168 rfl (lv_at hl 2 rfl) ?_
    refine nf_callW (ex := (fun _ _ => False)) (As := [.ref (a 19), .int x2]) (st0 := [.int x2, .ref (a 19)]) (rest := []) K hw (nf_invV hx hb K.2.2.2.1 (nf_Kg K nw_1014) (nf_Kg K nw_1016) (nf_Kg K nx_M_readExact) (nf_Kg K nw_1017) ⟨by decide, by decide⟩ (nf_rcv K hw 19 7 rfl rfl) rfl nl_M_readExact rfl d_M_read_169) (c_M_readExact l hfl x2) nw_1017 nw_9 rfl ⟨by decide, by decide⟩ (Nat.le_of_ble_eq_true rfl) hl.1 ⟨Nat.le_of_ble_eq_true rfl, Nat.le_of_ble_eq_true rfl⟩ h (fun _ _ h => h.elim) (fun r6 M7 H locs h hw => ?_)
    refine W.eq (g2 := F0 m 172 ls []) rfl ?_
    refine lv_goto hx hb d_M_read_172 (tgt := 180) (by decide) ?_
    exact w_M_read_180 hfl K x1 x2 M7 _ _ _ h (lv_sub hl [0, 1, 2] rfl) hw
theorem w_M_read_136 {post : Unit → nf_M → Prop} (hfl : l.flags = flags0) (K : nf_K p s m args meth c "NumberForgeModel" nb_M_read 3 none D a sz) (k100 : Int32 → Int32 → nf_M → Prop) (hk100 : ∀ (x1 : Int32) (x2 : Int32) (M : nf_M) (H : Heap) (locs : List Loc) (ls : Array Slot), k100 x1 x2 M → lv_has ls 3 [(0, .ref (a 19)), (1, .int x1), (2, .int x2)] → nf_W D a s sz H locs M → W p l e rm_M_read s m args below meth c H locs 0 0 (nf_MQ below (nf_Q nf_jN D a post ex (nf_A a sz)) args s rm_M_read.cells rm_M_read.slots (nf_A a sz)) (F0 m 100 ls [])) : ∀ (x1 : Int32) (x2 : Int32) (xy0 : Int32) (M : nf_M) (H : Heap) (locs : List Loc) (ls : Array Slot), B_M_read_136 k100 post x1 x2 xy0 M → lv_has ls 3 [(0, .ref (a 19)), (1, .int x1), (2, .int x2)] → nf_W D a s sz H locs M → W p l e rm_M_read s m args below meth c H locs 0 0 (nf_MQ below (nf_Q nf_jN D a post ex (nf_A a sz)) args s rm_M_read.cells rm_M_read.slots (nf_A a sz)) (F0 m 136 ls [.int xy0, .ref (a 20)]) := by
  have hx := K.1
  have hb := K.2.1
  intro x1 x2 xy0 M H locs ls h hl hw
  obtain ⟨g1, h⟩ := h
  refine nf_iald K hw 20 3 rfl rfl g1 d_M_read_136 ?_
  refine lv_bipush (v := (32 : Int32)) hx hb d_M_read_137 (by decide) ?_
  refine nf_ic_ne hx hb d_M_read_139 (tgt := 155) (by decide) (fun hc => ?_) (fun hc => ?_)
  · have h := h.1 hc
    refine lv_aload_n hx hb d_M_read_142 rfl (lv_at hl 0 rfl) ?_
    refine lv_dup hx hb d_M_read_143 rfl ?_
    refine nf_get (v := .int (mg_I M 19 16)) K hw 19 7 16 nw_947 rfl rfl ni_M (by decide) rfl rfl d_M_read_144 ?_
    refine lv_iconst (v := (1 : Int32)) hx hb d_M_read_147 (by decide) ?_
    refine lv_isub hx hb d_M_read_148 ?_
    refine lv_topi (fun t2 et2 => ?_)
    have h := h t2 et2
    refine nf_put (M' := ms_I M 19 16 t2) K hw 19 7 16 nw_947 rfl rfl rfl ni_M ny_M nq_M nn_M (by decide) rfl rfl rfl rfl (Nat.le_of_ble_eq_true rfl) d_M_read_149 (fun H locs hw => ?_)
    obtain ⟨M3, eM3⟩ : ∃ z, z = ms_I M 19 16 t2 := ⟨_, rfl⟩
    rw [← eM3] at hw
    have h := h M3 eM3
    refine lv_goto hx hb d_M_read_152 (tgt := 100) (by decide) ?_
    exact hk100 x1 x2 M3 _ _ _ h (lv_sub hl [0, 1, 2] rfl) hw
  · have h := h.2 hc
    exact w_M_read_155 hfl K x1 x2 M _ _ _ h (lv_sub hl [0, 1, 2] rfl) hw
theorem w_M_read_100 {post : Unit → nf_M → Prop} (hfl : l.flags = flags0) (K : nf_K p s m args meth c "NumberForgeModel" nb_M_read 3 none D a sz) : ∀ (n : Nat) (x1 : Int32) (x2 : Int32) (M : nf_M) (H : Heap) (locs : List Loc) (ls : Array Slot), B_M_read_100 post n x1 x2 M → lv_has ls 3 [(0, .ref (a 19)), (1, .int x1), (2, .int x2)] → nf_W D a s sz H locs M → W p l e rm_M_read s m args below meth c H locs 0 0 (nf_MQ below (nf_Q nf_jN D a post ex (nf_A a sz)) args s rm_M_read.cells rm_M_read.slots (nf_A a sz)) (F0 m 100 ls []) := by
  have hx := K.1
  have hb := K.2.1
  intro n
  induction n with
  | zero => intro x1 x2 M H locs ls h hl hw; exact h.elim
  | succ n ih =>
    intro x1 x2 M H locs ls h hl hw
    refine lv_aload_n hx hb d_M_read_100 rfl (lv_at hl 0 rfl) ?_
    refine nf_get (v := .int (mg_I M 19 16)) K hw 19 7 16 nw_947 rfl rfl ni_M (by decide) rfl rfl d_M_read_101 ?_
    refine lv_aload_n hx hb d_M_read_104 rfl (lv_at hl 0 rfl) ?_
    refine nf_get (v := .int (mg_I M 19 15)) K hw 19 7 15 nw_946 rfl rfl ni_M (by decide) rfl rfl d_M_read_105 ?_
    refine nf_ic_le hx hb d_M_read_108 (tgt := 155) (by decide) (fun hc => ?_) (fun hc => ?_)
    · have h := h.1 hc
      refine lv_aload_n hx hb d_M_read_111 rfl (lv_at hl 0 rfl) ?_
      refine nf_get (v := .ref (a 20)) K hw 19 7 2 nw_933 rfl rfl ni_M (by decide) rfl rfl d_M_read_112 ?_
      refine lv_aload_n hx hb d_M_read_115 rfl (lv_at hl 0 rfl) ?_
      refine nf_get (v := .int (mg_I M 19 16)) K hw 19 7 16 nw_947 rfl rfl ni_M (by decide) rfl rfl d_M_read_116 ?_
      refine lv_aload_n hx hb d_M_read_119 rfl (lv_at hl 0 rfl) ?_
      refine nf_get (v := .int (mg_I M 19 15)) K hw 19 7 15 nw_946 rfl rfl ni_M (by decide) rfl rfl d_M_read_120 ?_
      refine nf_ic_le hx hb d_M_read_123 (tgt := 135) (by decide) (fun hc => ?_) (fun hc => ?_)
      · have h := h.1 hc
        refine lv_aload_n hx hb d_M_read_126 rfl (lv_at hl 0 rfl) ?_
        refine nf_get (v := .int (mg_I M 19 16)) K hw 19 7 16 nw_947 rfl rfl ni_M (by decide) rfl rfl d_M_read_127 ?_
        refine lv_iconst (v := (1 : Int32)) hx hb d_M_read_130 (by decide) ?_
        refine lv_isub hx hb d_M_read_131 ?_
        refine lv_goto hx hb d_M_read_132 (tgt := 136) (by decide) ?_
        exact w_M_read_136 hfl K (fun x1 x2 z => B_M_read_100 post n x1 x2 z) (fun x1 x2 z H locs ls hh hll hww => ih x1 x2 z H locs ls hh hll hww) x1 x2 ((mg_I M 19 16) - (1 : Int32)) M _ _ _ h (lv_sub hl [0, 1, 2] rfl) hw
      · have h := h.2 hc
        refine lv_iconst (v := (0 : Int32)) hx hb d_M_read_135 (by decide) ?_
        exact w_M_read_136 hfl K (fun x1 x2 z => B_M_read_100 post n x1 x2 z) (fun x1 x2 z H locs ls hh hll hww => ih x1 x2 z H locs ls hh hll hww) x1 x2 (0 : Int32) M _ _ _ h (lv_sub hl [0, 1, 2] rfl) hw
    · have h := h.2 hc
      exact w_M_read_155 hfl K x1 x2 M _ _ _ h (lv_sub hl [0, 1, 2] rfl) hw
theorem w_M_read_81 {post : Unit → nf_M → Prop} (hfl : l.flags = flags0) (K : nf_K p s m args meth c "NumberForgeModel" nb_M_read 3 none D a sz) (k47 : Int32 → Int32 → nf_M → Prop) (hk47 : ∀ (x1 : Int32) (x2 : Int32) (M : nf_M) (H : Heap) (locs : List Loc) (ls : Array Slot), k47 x1 x2 M → lv_has ls 3 [(0, .ref (a 19)), (1, .int x1), (2, .int x2)] → nf_W D a s sz H locs M → W p l e rm_M_read s m args below meth c H locs 0 0 (nf_MQ below (nf_Q nf_jN D a post ex (nf_A a sz)) args s rm_M_read.cells rm_M_read.slots (nf_A a sz)) (F0 m 47 ls [])) : ∀ (x1 : Int32) (x2 : Int32) (xy0 : Int32) (M : nf_M) (H : Heap) (locs : List Loc) (ls : Array Slot), B_M_read_81 k47 post x1 x2 xy0 M → lv_has ls 3 [(0, .ref (a 19)), (1, .int x1), (2, .int x2)] → nf_W D a s sz H locs M → W p l e rm_M_read s m args below meth c H locs 0 0 (nf_MQ below (nf_Q nf_jN D a post ex (nf_A a sz)) args s rm_M_read.cells rm_M_read.slots (nf_A a sz)) (F0 m 81 ls [.int xy0, .ref (a 20)]) := by
  have hx := K.1
  have hb := K.2.1
  intro x1 x2 xy0 M H locs ls h hl hw
  obtain ⟨g1, h⟩ := h
  refine nf_iald K hw 20 3 rfl rfl g1 d_M_read_81 ?_
  refine lv_bipush (v := (32 : Int32)) hx hb d_M_read_82 (by decide) ?_
  refine nf_ic_ne hx hb d_M_read_84 (tgt := 100) (by decide) (fun hc => ?_) (fun hc => ?_)
  · have h := h.1 hc
    refine lv_aload_n hx hb d_M_read_87 rfl (lv_at hl 0 rfl) ?_
    refine lv_dup hx hb d_M_read_88 rfl ?_
    refine nf_get (v := .int (mg_I M 19 15)) K hw 19 7 15 nw_946 rfl rfl ni_M (by decide) rfl rfl d_M_read_89 ?_
    refine lv_iconst (v := (1 : Int32)) hx hb d_M_read_92 (by decide) ?_
    refine lv_iadd hx hb d_M_read_93 ?_
    refine lv_topi (fun t2 et2 => ?_)
    have h := h t2 et2
    refine nf_put (M' := ms_I M 19 15 t2) K hw 19 7 15 nw_946 rfl rfl rfl ni_M ny_M nq_M nn_M (by decide) rfl rfl rfl rfl (Nat.le_of_ble_eq_true rfl) d_M_read_94 (fun H locs hw => ?_)
    obtain ⟨M3, eM3⟩ : ∃ z, z = ms_I M 19 15 t2 := ⟨_, rfl⟩
    rw [← eM3] at hw
    have h := h M3 eM3
    refine lv_goto hx hb d_M_read_97 (tgt := 47) (by decide) ?_
    exact hk47 x1 x2 M3 _ _ _ h (lv_sub hl [0, 1, 2] rfl) hw
  · have h := h.2 hc
    obtain ⟨n, h⟩ := h
    exact w_M_read_100 hfl K n x1 x2 M _ _ _ h (lv_sub hl [0, 1, 2] rfl) hw
theorem w_M_read_47 {post : Unit → nf_M → Prop} (hfl : l.flags = flags0) (K : nf_K p s m args meth c "NumberForgeModel" nb_M_read 3 none D a sz) : ∀ (n : Nat) (x1 : Int32) (x2 : Int32) (M : nf_M) (H : Heap) (locs : List Loc) (ls : Array Slot), B_M_read_47 post n x1 x2 M → lv_has ls 3 [(0, .ref (a 19)), (1, .int x1), (2, .int x2)] → nf_W D a s sz H locs M → W p l e rm_M_read s m args below meth c H locs 0 0 (nf_MQ below (nf_Q nf_jN D a post ex (nf_A a sz)) args s rm_M_read.cells rm_M_read.slots (nf_A a sz)) (F0 m 47 ls []) := by
  have hx := K.1
  have hb := K.2.1
  intro n
  induction n with
  | zero => intro x1 x2 M H locs ls h hl hw; exact h.elim
  | succ n ih =>
    intro x1 x2 M H locs ls h hl hw
    refine lv_aload_n hx hb d_M_read_47 rfl (lv_at hl 0 rfl) ?_
    refine nf_get (v := .int (mg_I M 19 15)) K hw 19 7 15 nw_946 rfl rfl ni_M (by decide) rfl rfl d_M_read_48 ?_
    refine lv_aload_n hx hb d_M_read_51 rfl (lv_at hl 0 rfl) ?_
    refine nf_get (v := .int (mg_I M 19 16)) K hw 19 7 16 nw_947 rfl rfl ni_M (by decide) rfl rfl d_M_read_52 ?_
    refine nf_ic_ge hx hb d_M_read_55 (tgt := 100) (by decide) (fun hc => ?_) (fun hc => ?_)
    · have h := h.1 hc
      refine lv_aload_n hx hb d_M_read_58 rfl (lv_at hl 0 rfl) ?_
      refine nf_get (v := .ref (a 20)) K hw 19 7 2 nw_933 rfl rfl ni_M (by decide) rfl rfl d_M_read_59 ?_
      refine lv_aload_n hx hb d_M_read_62 rfl (lv_at hl 0 rfl) ?_
      refine nf_get (v := .int (mg_I M 19 15)) K hw 19 7 15 nw_946 rfl rfl ni_M (by decide) rfl rfl d_M_read_63 ?_
      refine lv_aload_n hx hb d_M_read_66 rfl (lv_at hl 0 rfl) ?_
      refine nf_get (v := .int (mg_I M 19 16)) K hw 19 7 16 nw_947 rfl rfl ni_M (by decide) rfl rfl d_M_read_67 ?_
      refine nf_ic_ge hx hb d_M_read_70 (tgt := 80) (by decide) (fun hc => ?_) (fun hc => ?_)
      · have h := h.1 hc
        refine lv_aload_n hx hb d_M_read_73 rfl (lv_at hl 0 rfl) ?_
        refine nf_get (v := .int (mg_I M 19 15)) K hw 19 7 15 nw_946 rfl rfl ni_M (by decide) rfl rfl d_M_read_74 ?_
        refine lv_goto hx hb d_M_read_77 (tgt := 81) (by decide) ?_
        exact w_M_read_81 hfl K (fun x1 x2 z => B_M_read_47 post n x1 x2 z) (fun x1 x2 z H locs ls hh hll hww => ih x1 x2 z H locs ls hh hll hww) x1 x2 (mg_I M 19 15) M _ _ _ h (lv_sub hl [0, 1, 2] rfl) hw
      · have h := h.2 hc
        refine lv_iconst (v := (0 : Int32)) hx hb d_M_read_80 (by decide) ?_
        exact w_M_read_81 hfl K (fun x1 x2 z => B_M_read_47 post n x1 x2 z) (fun x1 x2 z H locs ls hh hll hww => ih x1 x2 z H locs ls hh hll hww) x1 x2 (0 : Int32) M _ _ _ h (lv_sub hl [0, 1, 2] rfl) hw
    · have h := h.2 hc
      obtain ⟨n9, h⟩ := h
      exact w_M_read_100 hfl K n9 x1 x2 M _ _ _ h (lv_sub hl [0, 1, 2] rfl) hw
theorem w_M_read_23 {post : Unit → nf_M → Prop} (hfl : l.flags = flags0) (K : nf_K p s m args meth c "NumberForgeModel" nb_M_read 3 none D a sz) : ∀ (x1 : Int32) (x2 : Int32) (xy0 : Int32) (M : nf_M) (H : Heap) (locs : List Loc) (ls : Array Slot), B_M_read_23 post x1 x2 xy0 M → lv_has ls 3 [(0, .ref (a 19)), (1, .int x1), (2, .int x2)] → nf_W D a s sz H locs M → W p l e rm_M_read s m args below meth c H locs 0 0 (nf_MQ below (nf_Q nf_jN D a post ex (nf_A a sz)) args s rm_M_read.cells rm_M_read.slots (nf_A a sz)) (F0 m 23 ls [.int xy0, .ref (a 19)]) := by
  have hx := K.1
  have hb := K.2.1
  intro x1 x2 xy0 M H locs ls h hl hw
  refine nf_put (M' := ms_I M 19 0 xy0) K hw 19 7 0 nw_931 rfl rfl rfl ni_M ny_M nq_M nn_M (by decide) rfl rfl rfl rfl (Nat.le_of_ble_eq_true rfl) d_M_read_23 (fun H locs hw => ?_)
  obtain ⟨M1, eM1⟩ : ∃ z, z = ms_I M 19 0 xy0 := ⟨_, rfl⟩
  rw [← eM1] at hw
  have h := h M1 eM1
  refine lv_aload_n hx hb d_M_read_26 rfl (lv_at hl 0 rfl) ?_
  refine nf_get (v := .int (mg_I M1 19 0)) K hw 19 7 0 nw_931 rfl rfl ni_M (by decide) rfl rfl d_M_read_27 ?_
  refine nf_if_le hx hb d_M_read_30 (tgt := 34) (by decide) (fun hc => ?_) (fun hc => ?_)
  · have h := h.1 hc
    exact nf_vret K hw d_M_read_33 (Nat.le_of_ble_eq_true rfl) (Nat.le_of_ble_eq_true rfl) (r := ()) rfl h
  · have h := h.2 hc
    refine lv_aload_n hx hb d_M_read_34 rfl (lv_at hl 0 rfl) ?_
    refine lv_iconst (v := (0 : Int32)) hx hb d_M_read_35 (by decide) ?_
    refine nf_put (M' := ms_I M1 19 15 (0 : Int32)) K hw 19 7 15 nw_946 rfl rfl rfl ni_M ny_M nq_M nn_M (by decide) rfl rfl rfl rfl (Nat.le_of_ble_eq_true rfl) d_M_read_36 (fun H locs hw => ?_)
    obtain ⟨M2, eM2⟩ : ∃ z, z = ms_I M1 19 15 (0 : Int32) := ⟨_, rfl⟩
    rw [← eM2] at hw
    have h := h M2 eM2
    refine lv_aload_n hx hb d_M_read_39 rfl (lv_at hl 0 rfl) ?_
    refine lv_aload_n hx hb d_M_read_40 rfl (lv_at hl 0 rfl) ?_
    refine nf_get (v := .int (mg_I M2 19 1)) K hw 19 7 1 nw_932 rfl rfl ni_M (by decide) rfl rfl d_M_read_41 ?_
    refine lv_topi (fun t3 et3 => ?_)
    have h := h t3 et3
    refine nf_put (M' := ms_I M2 19 16 t3) K hw 19 7 16 nw_947 rfl rfl rfl ni_M ny_M nq_M nn_M (by decide) rfl rfl rfl rfl (Nat.le_of_ble_eq_true rfl) d_M_read_44 (fun H locs hw => ?_)
    obtain ⟨M4, eM4⟩ : ∃ z, z = ms_I M2 19 16 t3 := ⟨_, rfl⟩
    rw [← eM4] at hw
    have h := h M4 eM4
    obtain ⟨n, h⟩ := h
    exact w_M_read_47 hfl K n x1 x2 M4 _ _ _ h (lv_sub hl [0, 1, 2] rfl) hw
theorem w_M_read_18 {post : Unit → nf_M → Prop} (hfl : l.flags = flags0) (K : nf_K p s m args meth c "NumberForgeModel" nb_M_read 3 none D a sz) : ∀ (x1 : Int32) (x2 : Int32) (M : nf_M) (H : Heap) (locs : List Loc) (ls : Array Slot), B_M_read_18 post x1 x2 M → lv_has ls 3 [(0, .ref (a 19)), (1, .int x1), (2, .int x2)] → nf_W D a s sz H locs M → W p l e rm_M_read s m args below meth c H locs 0 0 (nf_MQ below (nf_Q nf_jN D a post ex (nf_A a sz)) args s rm_M_read.cells rm_M_read.slots (nf_A a sz)) (F0 m 18 ls [.ref (a 19)]) := by
  have hx := K.1
  have hb := K.2.1
  intro x1 x2 M H locs ls h hl hw
  refine lv_iconst (v := (1 : Int32)) hx hb d_M_read_18 (by decide) ?_
  refine lv_goto hx hb d_M_read_19 (tgt := 23) (by decide) ?_
  exact w_M_read_23 hfl K x1 x2 (1 : Int32) M _ _ _ h (lv_sub hl [0, 1, 2] rfl) hw
theorem c_M_read (l : Launch) (hfl : l.flags = flags0) (x1 : Int32) (x2 : Int32) : nf_C nf_jN l nm_M_read nb_M_read 3 none rm_M_read (fun a => [.ref (a 19), .int x1, .int x2]) (fun M post ex => P_M_read x1 x2 M post) := by
  refine nf_start (plainFor_of_name (by decide +kernel)) (fun a => Nat.le_of_ble_eq_true rfl) ?_
  intro D a sz M post ex p e s m below meth c ls h K hl hw
  have hx := K.1
  have hb := K.2.1
  have hl : lv_has ls 3 [(0, .ref (a 19)), (1, .int x1), (2, .int x2)] := hl
  refine lv_aload_n hx hb d_M_read_0 rfl (lv_at hl 0 rfl) ?_
  refine lv_iload_n hx hb d_M_read_1 rfl (lv_at hl 1 rfl) ?_
  refine nf_callW (ex := (fun _ _ => False)) (As := [.int x1]) (st0 := [.int x1, .ref (a 19)]) (rest := [.ref (a 19)]) K hw (nf_invS hx hb K.2.2.2.1 (nf_Kg K nw_1008) (nf_Kg K nw_1009) (nf_Kg K nw_9) (nf_Kg K nw_1010) ⟨by decide, by decide⟩ rfl nl_M_isRegister rfl d_M_read_2) (c_M_isRegister l hfl x1) nw_1010 nw_9 rfl ⟨by decide, by decide⟩ (Nat.le_of_ble_eq_true rfl) hl.1 ⟨Nat.le_of_ble_eq_true rfl, Nat.le_of_ble_eq_true rfl⟩ h (fun _ _ h => h.elim) (fun r1 M2 H locs h hw => ?_)
  refine W.eq (g2 := F0 m 5 ls [.int r1, .ref (a 19)]) rfl ?_
  refine nf_if_eq hx hb d_M_read_5 (tgt := 18) (by decide) (fun hc => ?_) (fun hc => ?_)
  · have h := h.1 hc
    exact w_M_read_18 hfl K x1 x2 M2 _ _ _ h (lv_sub hl [0, 1, 2] rfl) hw
  · have h := h.2 hc
    refine lv_iload_n hx hb d_M_read_8 rfl (lv_at hl 2 rfl) ?_
    refine nf_if_lt hx hb d_M_read_9 (tgt := 18) (by decide) (fun hc => ?_) (fun hc => ?_)
    · have h := h.1 hc
      exact w_M_read_18 hfl K x1 x2 M2 _ _ _ h (lv_sub hl [0, 1, 2] rfl) hw
    · have h := h.2 hc
      refine lv_iload_n hx hb d_M_read_12 rfl (lv_at hl 2 rfl) ?_
      refine lv_bipush (v := (9 : Int32)) hx hb d_M_read_13 (by decide) ?_
      refine nf_ic_le hx hb d_M_read_15 (tgt := 22) (by decide) (fun hc => ?_) (fun hc => ?_)
      · have h := h.1 hc
        exact w_M_read_18 hfl K x1 x2 M2 _ _ _ h (lv_sub hl [0, 1, 2] rfl) hw
      · have h := h.2 hc
        refine lv_iconst (v := (0 : Int32)) hx hb d_M_read_22 (by decide) ?_
        exact w_M_read_23 hfl K x1 x2 (0 : Int32) M2 _ _ _ h (lv_sub hl [0, 1, 2] rfl) hw
theorem d_M_put_0 : decode nb_M_put 0 = .ok (.aload_n 0, 1) := by decide +kernel
theorem d_M_put_1 : decode nb_M_put 1 = .ok (.iload_n 1, 1) := by decide +kernel
theorem d_M_put_2 : decode nb_M_put 2 = .ok (.invokestatic 148, 3) := by decide +kernel
theorem d_M_put_5 : decode nb_M_put 5 = .ok (.ifCond .eq 7, 3) := by decide +kernel
theorem d_M_put_8 : decode nb_M_put 8 = .ok (.iconst 0, 1) := by decide +kernel
theorem d_M_put_9 : decode nb_M_put 9 = .ok (.goto 4, 3) := by decide +kernel
theorem d_M_put_12 : decode nb_M_put 12 = .ok (.iconst 1, 1) := by decide +kernel
theorem d_M_put_13 : decode nb_M_put 13 = .ok (.putfield 33, 3) := by decide +kernel
theorem d_M_put_16 : decode nb_M_put 16 = .ok (.aload_n 0, 1) := by decide +kernel
theorem d_M_put_17 : decode nb_M_put 17 = .ok (.getfield 33, 3) := by decide +kernel
theorem d_M_put_20 : decode nb_M_put 20 = .ok (.ifCond .ne 36, 3) := by decide +kernel
theorem d_M_put_23 : decode nb_M_put 23 = .ok (.aload_n 0, 1) := by decide +kernel
theorem d_M_put_24 : decode nb_M_put 24 = .ok (.iload 4, 2) := by decide +kernel
theorem d_M_put_26 : decode nb_M_put 26 = .ok (.ifCond .eq 9, 3) := by decide +kernel
theorem d_M_put_29 : decode nb_M_put 29 = .ok (.dload_n 2, 1) := by decide +kernel
theorem d_M_put_30 : decode nb_M_put 30 = .ok (.d2f, 1) := by decide +kernel
theorem d_M_put_31 : decode nb_M_put 31 = .ok (.f2d, 1) := by decide +kernel
theorem d_M_put_32 : decode nb_M_put 32 = .ok (.goto 4, 3) := by decide +kernel
theorem d_M_put_35 : decode nb_M_put 35 = .ok (.dload_n 2, 1) := by decide +kernel
theorem d_M_put_36 : decode nb_M_put 36 = .ok (.putfield 134, 3) := by decide +kernel
theorem d_M_put_39 : decode nb_M_put 39 = .ok (.aload_n 0, 1) := by decide +kernel
theorem d_M_put_40 : decode nb_M_put 40 = .ok (.iload_n 1, 1) := by decide +kernel
theorem d_M_put_41 : decode nb_M_put 41 = .ok (.iload 4, 2) := by decide +kernel
theorem d_M_put_43 : decode nb_M_put 43 = .ok (.ifCond .eq 8, 3) := by decide +kernel
theorem d_M_put_46 : decode nb_M_put 46 = .ok (.bipush 8, 2) := by decide +kernel
theorem d_M_put_48 : decode nb_M_put 48 = .ok (.goto 5, 3) := by decide +kernel
theorem d_M_put_51 : decode nb_M_put 51 = .ok (.bipush 9, 2) := by decide +kernel
theorem d_M_put_53 : decode nb_M_put 53 = .ok (.invokevirtual 158, 3) := by decide +kernel
theorem d_M_put_56 : decode nb_M_put 56 = .ok (.return_, 1) := by decide +kernel
abbrev rm_M_put : Room := ({ frames := 2, cells := 0, slots := 0, locals := 42 })
theorem w_M_put_56 {post : Unit → nf_M → Prop} (hfl : l.flags = flags0) (K : nf_K p s m args meth c "NumberForgeModel" nb_M_put 5 none D a sz) : ∀ (M : nf_M) (H : Heap) (locs : List Loc) (ls : Array Slot), B_M_put_56 post  M → lv_has ls 5 [] → nf_W D a s sz H locs M → W p l e rm_M_put s m args below meth c H locs 0 0 (nf_MQ below (nf_Q nf_jN D a post ex (nf_A a sz)) args s rm_M_put.cells rm_M_put.slots (nf_A a sz)) (F0 m 56 ls []) := by
  have hx := K.1
  have hb := K.2.1
  intro  M H locs ls h hl hw
  exact nf_vret K hw d_M_put_56 (Nat.le_of_ble_eq_true rfl) (Nat.le_of_ble_eq_true rfl) (r := ()) rfl h
theorem w_M_put_53 {post : Unit → nf_M → Prop} (hfl : l.flags = flags0) (K : nf_K p s m args meth c "NumberForgeModel" nb_M_put 5 none D a sz) : ∀ (xy0 : Int32) (xy1 : Int32) (M : nf_M) (H : Heap) (locs : List Loc) (ls : Array Slot), B_M_put_53 post xy0 xy1 M → lv_has ls 5 [] → nf_W D a s sz H locs M → W p l e rm_M_put s m args below meth c H locs 0 0 (nf_MQ below (nf_Q nf_jN D a post ex (nf_A a sz)) args s rm_M_put.cells rm_M_put.slots (nf_A a sz)) (F0 m 53 ls [.int xy0, .int xy1, .ref (a 19)]) := by
  have hx := K.1
  have hb := K.2.1
  intro xy0 xy1 M H locs ls h hl hw
  refine nf_callW (ex := (fun _ _ => False)) (As := [.ref (a 19), .int xy1, .int xy0]) (st0 := [.int xy0, .int xy1, .ref (a 19)]) (rest := []) K hw (nf_invV hx hb K.2.2.2.1 (nf_Kg K nw_1070) (nf_Kg K nw_1072) (nf_Kg K nx_M_store) (nf_Kg K nw_1073) ⟨by decide, by decide⟩ (nf_rcv K hw 19 7 rfl rfl) rfl nl_M_store rfl d_M_put_53) (c_M_store l hfl xy1 xy0) nw_1073 nw_9 rfl ⟨by decide, by decide⟩ (Nat.le_of_ble_eq_true rfl) hl.1 ⟨Nat.le_of_ble_eq_true rfl, Nat.le_of_ble_eq_true rfl⟩ h (fun _ _ h => h.elim) (fun r1 M2 H locs h hw => ?_)
  refine W.eq (g2 := F0 m 56 ls []) rfl ?_
  exact w_M_put_56 hfl K  M2 _ _ _ h (lv_sub hl [] rfl) hw
theorem w_M_put_36 {post : Unit → nf_M → Prop} (hfl : l.flags = flags0) (K : nf_K p s m args meth c "NumberForgeModel" nb_M_put 5 none D a sz) : ∀ (x1 : Int32) (x4 : Int32) (xy0 : UInt64) (M : nf_M) (H : Heap) (locs : List Loc) (ls : Array Slot), B_M_put_36 post x1 x4 xy0 M → lv_has ls 5 [(0, .ref (a 19)), (1, .int x1), (4, .int x4)] → nf_W D a s sz H locs M → W p l e rm_M_put s m args below meth c H locs 0 0 (nf_MQ below (nf_Q nf_jN D a post ex (nf_A a sz)) args s rm_M_put.cells rm_M_put.slots (nf_A a sz)) (F0 m 36 ls [.double xy0, .ref (a 19)]) := by
  have hx := K.1
  have hb := K.2.1
  intro x1 x4 xy0 M H locs ls h hl hw
  refine nf_put (M' := ms_D M 19 12 xy0) K hw 19 7 12 nw_943 rfl rfl rfl ni_M ny_M nq_M nn_M (by decide) rfl rfl rfl rfl (Nat.le_of_ble_eq_true rfl) d_M_put_36 (fun H locs hw => ?_)
  obtain ⟨M1, eM1⟩ : ∃ z, z = ms_D M 19 12 xy0 := ⟨_, rfl⟩
  rw [← eM1] at hw
  have h := h M1 eM1
  refine lv_aload_n hx hb d_M_put_39 rfl (lv_at hl 0 rfl) ?_
  refine lv_iload_n hx hb d_M_put_40 rfl (lv_at hl 1 rfl) ?_
  refine lv_iload hx hb d_M_put_41 (lv_at hl 2 rfl) ?_
  refine nf_if_eq hx hb d_M_put_43 (tgt := 51) (by decide) (fun hc => ?_) (fun hc => ?_)
  · have h := h.1 hc
    refine lv_bipush (v := (9 : Int32)) hx hb d_M_put_51 (by decide) ?_
    exact w_M_put_53 hfl K (9 : Int32) x1 M1 _ _ _ h (lv_sub hl [] rfl) hw
  · have h := h.2 hc
    refine lv_bipush (v := (8 : Int32)) hx hb d_M_put_46 (by decide) ?_
    refine lv_goto hx hb d_M_put_48 (tgt := 53) (by decide) ?_
    exact w_M_put_53 hfl K (8 : Int32) x1 M1 _ _ _ h (lv_sub hl [] rfl) hw
theorem w_M_put_13 {post : Unit → nf_M → Prop} (hfl : l.flags = flags0) (K : nf_K p s m args meth c "NumberForgeModel" nb_M_put 5 none D a sz) : ∀ (x1 : Int32) (x2 : UInt64) (x4 : Int32) (xy0 : Int32) (M : nf_M) (H : Heap) (locs : List Loc) (ls : Array Slot), B_M_put_13 post x1 x2 x4 xy0 M → lv_has ls 5 [(0, .ref (a 19)), (1, .int x1), (2, .double x2), (4, .int x4)] → nf_W D a s sz H locs M → W p l e rm_M_put s m args below meth c H locs 0 0 (nf_MQ below (nf_Q nf_jN D a post ex (nf_A a sz)) args s rm_M_put.cells rm_M_put.slots (nf_A a sz)) (F0 m 13 ls [.int xy0, .ref (a 19)]) := by
  have hx := K.1
  have hb := K.2.1
  intro x1 x2 x4 xy0 M H locs ls h hl hw
  refine nf_put (M' := ms_I M 19 0 xy0) K hw 19 7 0 nw_931 rfl rfl rfl ni_M ny_M nq_M nn_M (by decide) rfl rfl rfl rfl (Nat.le_of_ble_eq_true rfl) d_M_put_13 (fun H locs hw => ?_)
  obtain ⟨M1, eM1⟩ : ∃ z, z = ms_I M 19 0 xy0 := ⟨_, rfl⟩
  rw [← eM1] at hw
  have h := h M1 eM1
  refine lv_aload_n hx hb d_M_put_16 rfl (lv_at hl 0 rfl) ?_
  refine nf_get (v := .int (mg_I M1 19 0)) K hw 19 7 0 nw_931 rfl rfl ni_M (by decide) rfl rfl d_M_put_17 ?_
  refine nf_if_ne hx hb d_M_put_20 (tgt := 56) (by decide) (fun hc => ?_) (fun hc => ?_)
  · have h := h.1 hc
    refine lv_aload_n hx hb d_M_put_23 rfl (lv_at hl 0 rfl) ?_
    refine lv_iload hx hb d_M_put_24 (lv_at hl 3 rfl) ?_
    refine nf_if_eq hx hb d_M_put_26 (tgt := 35) (by decide) (fun hc => ?_) (fun hc => ?_)
    · have h := h.1 hc
      refine lv_dload_n hx hb d_M_put_35 rfl (lv_at hl 2 rfl) ?_
      exact w_M_put_36 hfl K x1 x4 x2 M1 _ _ _ h (lv_sub hl [0, 1, 3] rfl) hw
    · have h := h.2 hc
      refine lv_dload_n hx hb d_M_put_29 rfl (lv_at hl 2 rfl) ?_
      obtain ⟨g2, h⟩ := h
      refine lv_d2f hx hb d_M_put_30 g2 ?_
      obtain ⟨g3, h⟩ := h
      refine lv_f2d hx hb d_M_put_31 g3 ?_
      refine lv_goto hx hb d_M_put_32 (tgt := 36) (by decide) ?_
      exact w_M_put_36 hfl K x1 x4 (FP.f2d (FP.d2f x2)) M1 _ _ _ h (lv_sub hl [0, 1, 3] rfl) hw
  · have h := h.2 hc
    exact w_M_put_56 hfl K  M1 _ _ _ h (lv_sub hl [] rfl) hw
theorem c_M_put (l : Launch) (hfl : l.flags = flags0) (x1 : Int32) (x2 : UInt64) (x4 : Int32) : nf_C nf_jN l nm_M_put nb_M_put 5 none rm_M_put (fun a => [.ref (a 19), .int x1, .double x2, .int x4]) (fun M post ex => P_M_put x1 x2 x4 M post) := by
  refine nf_start (plainFor_of_name (by decide +kernel)) (fun a => Nat.le_of_ble_eq_true rfl) ?_
  intro D a sz M post ex p e s m below meth c ls h K hl hw
  have hx := K.1
  have hb := K.2.1
  have hl : lv_has ls 5 [(0, .ref (a 19)), (1, .int x1), (2, .double x2), (4, .int x4)] := hl
  refine lv_aload_n hx hb d_M_put_0 rfl (lv_at hl 0 rfl) ?_
  refine lv_iload_n hx hb d_M_put_1 rfl (lv_at hl 1 rfl) ?_
  refine nf_callW (ex := (fun _ _ => False)) (As := [.int x1]) (st0 := [.int x1, .ref (a 19)]) (rest := [.ref (a 19)]) K hw (nf_invS hx hb K.2.2.2.1 (nf_Kg K nw_1008) (nf_Kg K nw_1009) (nf_Kg K nw_9) (nf_Kg K nw_1010) ⟨by decide, by decide⟩ rfl nl_M_isRegister rfl d_M_put_2) (c_M_isRegister l hfl x1) nw_1010 nw_9 rfl ⟨by decide, by decide⟩ (Nat.le_of_ble_eq_true rfl) hl.1 ⟨Nat.le_of_ble_eq_true rfl, Nat.le_of_ble_eq_true rfl⟩ h (fun _ _ h => h.elim) (fun r1 M2 H locs h hw => ?_)
  refine W.eq (g2 := F0 m 5 ls [.int r1, .ref (a 19)]) rfl ?_
  refine nf_if_eq hx hb d_M_put_5 (tgt := 12) (by decide) (fun hc => ?_) (fun hc => ?_)
  · have h := h.1 hc
    refine lv_iconst (v := (1 : Int32)) hx hb d_M_put_12 (by decide) ?_
    exact w_M_put_13 hfl K x1 x2 x4 (1 : Int32) M2 _ _ _ h (lv_sub hl [0, 1, 2, 3] rfl) hw
  · have h := h.2 hc
    refine lv_iconst (v := (0 : Int32)) hx hb d_M_put_8 (by decide) ?_
    refine lv_goto hx hb d_M_put_9 (tgt := 13) (by decide) ?_
    exact w_M_put_13 hfl K x1 x2 x4 (0 : Int32) M2 _ _ _ h (lv_sub hl [0, 1, 2, 3] rfl) hw
theorem d_M_common_0 : decode nb_M_common 0 = .ok (.aload_n 0, 1) := by decide +kernel
theorem d_M_common_1 : decode nb_M_common 1 = .ok (.getfield 16, 3) := by decide +kernel
theorem d_M_common_4 : decode nb_M_common 4 = .ok (.iload_n 1, 1) := by decide +kernel
theorem d_M_common_5 : decode nb_M_common 5 = .ok (.iaload, 1) := by decide +kernel
theorem d_M_common_6 : decode nb_M_common 6 = .ok (.aload_n 0, 1) := by decide +kernel
theorem d_M_common_7 : decode nb_M_common 7 = .ok (.getfield 16, 3) := by decide +kernel
theorem d_M_common_10 : decode nb_M_common 10 = .ok (.iload_n 2, 1) := by decide +kernel
theorem d_M_common_11 : decode nb_M_common 11 = .ok (.iaload, 1) := by decide +kernel
theorem d_M_common_12 : decode nb_M_common 12 = .ok (.if_icmp .le 12, 3) := by decide +kernel
theorem d_M_common_15 : decode nb_M_common 15 = .ok (.aload_n 0, 1) := by decide +kernel
theorem d_M_common_16 : decode nb_M_common 16 = .ok (.getfield 16, 3) := by decide +kernel
theorem d_M_common_19 : decode nb_M_common 19 = .ok (.iload_n 1, 1) := by decide +kernel
theorem d_M_common_20 : decode nb_M_common 20 = .ok (.iaload, 1) := by decide +kernel
theorem d_M_common_21 : decode nb_M_common 21 = .ok (.goto 9, 3) := by decide +kernel
theorem d_M_common_24 : decode nb_M_common 24 = .ok (.aload_n 0, 1) := by decide +kernel
theorem d_M_common_25 : decode nb_M_common 25 = .ok (.getfield 16, 3) := by decide +kernel
theorem d_M_common_28 : decode nb_M_common 28 = .ok (.iload_n 2, 1) := by decide +kernel
theorem d_M_common_29 : decode nb_M_common 29 = .ok (.iaload, 1) := by decide +kernel
theorem d_M_common_30 : decode nb_M_common 30 = .ok (.istore_n 3, 1) := by decide +kernel
theorem d_M_common_31 : decode nb_M_common 31 = .ok (.iload_n 3, 1) := by decide +kernel
theorem d_M_common_32 : decode nb_M_common 32 = .ok (.bipush 7, 2) := by decide +kernel
theorem d_M_common_34 : decode nb_M_common 34 = .ok (.if_icmp .le 7, 3) := by decide +kernel
theorem d_M_common_37 : decode nb_M_common 37 = .ok (.iload_n 3, 1) := by decide +kernel
theorem d_M_common_38 : decode nb_M_common 38 = .ok (.goto 26, 3) := by decide +kernel
theorem d_M_common_41 : decode nb_M_common 41 = .ok (.aload_n 0, 1) := by decide +kernel
theorem d_M_common_42 : decode nb_M_common 42 = .ok (.getfield 16, 3) := by decide +kernel
theorem d_M_common_45 : decode nb_M_common 45 = .ok (.iload_n 1, 1) := by decide +kernel
theorem d_M_common_46 : decode nb_M_common 46 = .ok (.iaload, 1) := by decide +kernel
theorem d_M_common_47 : decode nb_M_common 47 = .ok (.ifCond .le 16, 3) := by decide +kernel
theorem d_M_common_50 : decode nb_M_common 50 = .ok (.aload_n 0, 1) := by decide +kernel
theorem d_M_common_51 : decode nb_M_common 51 = .ok (.getfield 16, 3) := by decide +kernel
theorem d_M_common_54 : decode nb_M_common 54 = .ok (.iload_n 2, 1) := by decide +kernel
theorem d_M_common_55 : decode nb_M_common 55 = .ok (.iaload, 1) := by decide +kernel
theorem d_M_common_56 : decode nb_M_common 56 = .ok (.ifCond .le 7, 3) := by decide +kernel
theorem d_M_common_59 : decode nb_M_common 59 = .ok (.iconst 1, 1) := by decide +kernel
theorem d_M_common_60 : decode nb_M_common 60 = .ok (.goto 4, 3) := by decide +kernel
theorem d_M_common_63 : decode nb_M_common 63 = .ok (.iconst 0, 1) := by decide +kernel
theorem d_M_common_64 : decode nb_M_common 64 = .ok (.ireturn, 1) := by decide +kernel
abbrev rm_M_common : Room := ({ frames := 0, cells := 0, slots := 0, locals := 0 })
theorem w_M_common_64 {post : Int32 → nf_M → Prop} (hfl : l.flags = flags0) (K : nf_K p s m args meth c "NumberForgeModel" nb_M_common 4 (some FieldType.int) D a sz) : ∀ (xy0 : Int32) (M : nf_M) (H : Heap) (locs : List Loc) (ls : Array Slot), B_M_common_64 post xy0 M → lv_has ls 4 [] → nf_W D a s sz H locs M → W p l e rm_M_common s m args below meth c H locs 0 0 (nf_MQ below (nf_Q nf_jI D a post ex (nf_A a sz)) args s rm_M_common.cells rm_M_common.slots (nf_A a sz)) (F0 m 64 ls [.int xy0]) := by
  have hx := K.1
  have hb := K.2.1
  intro xy0 M H locs ls h hl hw
  exact nf_iret K hw d_M_common_64 rfl (Nat.le_of_ble_eq_true rfl) (Nat.le_of_ble_eq_true rfl) (r := xy0) rfl h
theorem w_M_common_63 {post : Int32 → nf_M → Prop} (hfl : l.flags = flags0) (K : nf_K p s m args meth c "NumberForgeModel" nb_M_common 4 (some FieldType.int) D a sz) : ∀ (M : nf_M) (H : Heap) (locs : List Loc) (ls : Array Slot), B_M_common_63 post  M → lv_has ls 4 [] → nf_W D a s sz H locs M → W p l e rm_M_common s m args below meth c H locs 0 0 (nf_MQ below (nf_Q nf_jI D a post ex (nf_A a sz)) args s rm_M_common.cells rm_M_common.slots (nf_A a sz)) (F0 m 63 ls []) := by
  have hx := K.1
  have hb := K.2.1
  intro  M H locs ls h hl hw
  refine lv_iconst (v := (0 : Int32)) hx hb d_M_common_63 (by decide) ?_
  exact w_M_common_64 hfl K (0 : Int32) M _ _ _ h (lv_sub hl [] rfl) hw
theorem w_M_common_30 {post : Int32 → nf_M → Prop} (hfl : l.flags = flags0) (K : nf_K p s m args meth c "NumberForgeModel" nb_M_common 4 (some FieldType.int) D a sz) : ∀ (x1 : Int32) (x2 : Int32) (xy0 : Int32) (M : nf_M) (H : Heap) (locs : List Loc) (ls : Array Slot), B_M_common_30 post x1 x2 xy0 M → lv_has ls 4 [(0, .ref (a 19)), (1, .int x1), (2, .int x2)] → nf_W D a s sz H locs M → W p l e rm_M_common s m args below meth c H locs 0 0 (nf_MQ below (nf_Q nf_jI D a post ex (nf_A a sz)) args s rm_M_common.cells rm_M_common.slots (nf_A a sz)) (F0 m 30 ls [.int xy0]) := by
  have hx := K.1
  have hb := K.2.1
  intro x1 x2 xy0 M H locs ls h hl hw
  refine lv_istore_n (lv' := [(3, .int xy0), (0, .ref (a 19)), (1, .int x1), (2, .int x2)]) hx hb d_M_common_30 rfl hl (by decide) rfl (fun ls hl => ?_)
  refine lv_iload_n hx hb d_M_common_31 rfl (lv_at hl 0 rfl) ?_
  refine lv_bipush (v := (7 : Int32)) hx hb d_M_common_32 (by decide) ?_
  refine nf_ic_le hx hb d_M_common_34 (tgt := 41) (by decide) (fun hc => ?_) (fun hc => ?_)
  · have h := h.1 hc
    refine lv_iload_n hx hb d_M_common_37 rfl (lv_at hl 0 rfl) ?_
    refine lv_goto hx hb d_M_common_38 (tgt := 64) (by decide) ?_
    exact w_M_common_64 hfl K xy0 M _ _ _ h (lv_sub hl [] rfl) hw
  · have h := h.2 hc
    refine lv_aload_n hx hb d_M_common_41 rfl (lv_at hl 1 rfl) ?_
    refine nf_get (v := .ref (a 22)) K hw 19 7 5 nw_936 rfl rfl ni_M (by decide) rfl rfl d_M_common_42 ?_
    refine lv_iload_n hx hb d_M_common_45 rfl (lv_at hl 2 rfl) ?_
    obtain ⟨g1, h⟩ := h
    refine nf_iald K hw 22 5 rfl rfl g1 d_M_common_46 ?_
    refine nf_if_le hx hb d_M_common_47 (tgt := 63) (by decide) (fun hc => ?_) (fun hc => ?_)
    · have h := h.1 hc
      refine lv_aload_n hx hb d_M_common_50 rfl (lv_at hl 1 rfl) ?_
      refine nf_get (v := .ref (a 22)) K hw 19 7 5 nw_936 rfl rfl ni_M (by decide) rfl rfl d_M_common_51 ?_
      refine lv_iload_n hx hb d_M_common_54 rfl (lv_at hl 3 rfl) ?_
      obtain ⟨g2, h⟩ := h
      refine nf_iald K hw 22 5 rfl rfl g2 d_M_common_55 ?_
      refine nf_if_le hx hb d_M_common_56 (tgt := 63) (by decide) (fun hc => ?_) (fun hc => ?_)
      · have h := h.1 hc
        refine lv_iconst (v := (1 : Int32)) hx hb d_M_common_59 (by decide) ?_
        refine lv_goto hx hb d_M_common_60 (tgt := 64) (by decide) ?_
        exact w_M_common_64 hfl K (1 : Int32) M _ _ _ h (lv_sub hl [] rfl) hw
      · have h := h.2 hc
        exact w_M_common_63 hfl K  M _ _ _ h (lv_sub hl [] rfl) hw
    · have h := h.2 hc
      exact w_M_common_63 hfl K  M _ _ _ h (lv_sub hl [] rfl) hw
theorem c_M_common (l : Launch) (hfl : l.flags = flags0) (x1 : Int32) (x2 : Int32) : nf_C nf_jI l nm_M_common nb_M_common 4 (some FieldType.int) rm_M_common (fun a => [.ref (a 19), .int x1, .int x2]) (fun M post ex => P_M_common x1 x2 M post) := by
  refine nf_start (plainFor_of_name (by decide +kernel)) (fun a => Nat.le_of_ble_eq_true rfl) ?_
  intro D a sz M post ex p e s m below meth c ls h K hl hw
  have hx := K.1
  have hb := K.2.1
  have hl : lv_has ls 4 [(0, .ref (a 19)), (1, .int x1), (2, .int x2)] := hl
  refine lv_aload_n hx hb d_M_common_0 rfl (lv_at hl 0 rfl) ?_
  refine nf_get (v := .ref (a 22)) K hw 19 7 5 nw_936 rfl rfl ni_M (by decide) rfl rfl d_M_common_1 ?_
  refine lv_iload_n hx hb d_M_common_4 rfl (lv_at hl 1 rfl) ?_
  obtain ⟨g1, h⟩ := h
  refine nf_iald K hw 22 5 rfl rfl g1 d_M_common_5 ?_
  refine lv_aload_n hx hb d_M_common_6 rfl (lv_at hl 0 rfl) ?_
  refine nf_get (v := .ref (a 22)) K hw 19 7 5 nw_936 rfl rfl ni_M (by decide) rfl rfl d_M_common_7 ?_
  refine lv_iload_n hx hb d_M_common_10 rfl (lv_at hl 2 rfl) ?_
  obtain ⟨g2, h⟩ := h
  refine nf_iald K hw 22 5 rfl rfl g2 d_M_common_11 ?_
  refine nf_ic_le hx hb d_M_common_12 (tgt := 24) (by decide) (fun hc => ?_) (fun hc => ?_)
  · have h := h.1 hc
    refine lv_aload_n hx hb d_M_common_15 rfl (lv_at hl 0 rfl) ?_
    refine nf_get (v := .ref (a 22)) K hw 19 7 5 nw_936 rfl rfl ni_M (by decide) rfl rfl d_M_common_16 ?_
    refine lv_iload_n hx hb d_M_common_19 rfl (lv_at hl 1 rfl) ?_
    obtain ⟨g3, h⟩ := h
    refine nf_iald K hw 22 5 rfl rfl g3 d_M_common_20 ?_
    refine lv_goto hx hb d_M_common_21 (tgt := 30) (by decide) ?_
    exact w_M_common_30 hfl K x1 x2 (mg_I M 22 x1.toNatClampNeg) M _ _ _ h (lv_sub hl [0, 1, 2] rfl) hw
  · have h := h.2 hc
    refine lv_aload_n hx hb d_M_common_24 rfl (lv_at hl 0 rfl) ?_
    refine nf_get (v := .ref (a 22)) K hw 19 7 5 nw_936 rfl rfl ni_M (by decide) rfl rfl d_M_common_25 ?_
    refine lv_iload_n hx hb d_M_common_28 rfl (lv_at hl 2 rfl) ?_
    obtain ⟨g4, h⟩ := h
    refine nf_iald K hw 22 5 rfl rfl g4 d_M_common_29 ?_
    exact w_M_common_30 hfl K x1 x2 (mg_I M 22 x2.toNatClampNeg) M _ _ _ h (lv_sub hl [0, 1, 2] rfl) hw
theorem d_M_asDouble_0 : decode nb_M_asDouble 0 = .ok (.aload_n 0, 1) := by decide +kernel
theorem d_M_asDouble_1 : decode nb_M_asDouble 1 = .ok (.getfield 16, 3) := by decide +kernel
theorem d_M_asDouble_4 : decode nb_M_asDouble 4 = .ok (.iload_n 1, 1) := by decide +kernel
theorem d_M_asDouble_5 : decode nb_M_asDouble 5 = .ok (.iaload, 1) := by decide +kernel
theorem d_M_asDouble_6 : decode nb_M_asDouble 6 = .ok (.invokestatic 145, 3) := by decide +kernel
theorem d_M_asDouble_9 : decode nb_M_asDouble 9 = .ok (.ifCond .eq 23, 3) := by decide +kernel
theorem d_M_asDouble_12 : decode nb_M_asDouble 12 = .ok (.aload_n 0, 1) := by decide +kernel
theorem d_M_asDouble_13 : decode nb_M_asDouble 13 = .ok (.getfield 19, 3) := by decide +kernel
theorem d_M_asDouble_16 : decode nb_M_asDouble 16 = .ok (.iload_n 1, 1) := by decide +kernel
theorem d_M_asDouble_17 : decode nb_M_asDouble 17 = .ok (.laload, 1) := by decide +kernel
theorem d_M_asDouble_18 : decode nb_M_asDouble 18 = .ok (.l2d, 1) := by decide +kernel
theorem d_M_asDouble_19 : decode nb_M_asDouble 19 = .ok (.aload_n 0, 1) := by decide +kernel
theorem d_M_asDouble_20 : decode nb_M_asDouble 20 = .ok (.getfield 23, 3) := by decide +kernel
theorem d_M_asDouble_23 : decode nb_M_asDouble 23 = .ok (.iload_n 1, 1) := by decide +kernel
theorem d_M_asDouble_24 : decode nb_M_asDouble 24 = .ok (.iaload, 1) := by decide +kernel
theorem d_M_asDouble_25 : decode nb_M_asDouble 25 = .ok (.invokestatic 141, 3) := by decide +kernel
theorem d_M_asDouble_28 : decode nb_M_asDouble 28 = .ok (.ddiv, 1) := by decide +kernel
theorem d_M_asDouble_29 : decode nb_M_asDouble 29 = .ok (.goto 9, 3) := by decide +kernel
theorem d_M_asDouble_32 : decode nb_M_asDouble 32 = .ok (.aload_n 0, 1) := by decide +kernel
theorem d_M_asDouble_33 : decode nb_M_asDouble 33 = .ok (.getfield 26, 3) := by decide +kernel
theorem d_M_asDouble_36 : decode nb_M_asDouble 36 = .ok (.iload_n 1, 1) := by decide +kernel
theorem d_M_asDouble_37 : decode nb_M_asDouble 37 = .ok (.daload, 1) := by decide +kernel
theorem d_M_asDouble_38 : decode nb_M_asDouble 38 = .ok (.dreturn, 1) := by decide +kernel
abbrev rm_M_asDouble : Room := ({ frames := 2, cells := 0, slots := 0, locals := 43 })
theorem w_M_asDouble_38 {post : UInt64 → nf_M → Prop} (hfl : l.flags = flags0) (K : nf_K p s m args meth c "NumberForgeModel" nb_M_asDouble 2 (some FieldType.double) D a sz) : ∀ (xy0 : UInt64) (M : nf_M) (H : Heap) (locs : List Loc) (ls : Array Slot), B_M_asDouble_38 post xy0 M → lv_has ls 2 [] → nf_W D a s sz H locs M → W p l e rm_M_asDouble s m args below meth c H locs 0 0 (nf_MQ below (nf_Q nf_jD D a post ex (nf_A a sz)) args s rm_M_asDouble.cells rm_M_asDouble.slots (nf_A a sz)) (F0 m 38 ls [.double xy0]) := by
  have hx := K.1
  have hb := K.2.1
  intro xy0 M H locs ls h hl hw
  exact nf_dret K hw d_M_asDouble_38 (Nat.le_of_ble_eq_true rfl) (Nat.le_of_ble_eq_true rfl) (r := xy0) rfl h
theorem c_M_asDouble (l : Launch) (hfl : l.flags = flags0) (x1 : Int32) : nf_C nf_jD l nm_M_asDouble nb_M_asDouble 2 (some FieldType.double) rm_M_asDouble (fun a => [.ref (a 19), .int x1]) (fun M post ex => P_M_asDouble x1 M post) := by
  refine nf_start (plainFor_of_name (by decide +kernel)) (fun a => Nat.le_of_ble_eq_true rfl) ?_
  intro D a sz M post ex p e s m below meth c ls h K hl hw
  have hx := K.1
  have hb := K.2.1
  have hl : lv_has ls 2 [(0, .ref (a 19)), (1, .int x1)] := hl
  refine lv_aload_n hx hb d_M_asDouble_0 rfl (lv_at hl 0 rfl) ?_
  refine nf_get (v := .ref (a 22)) K hw 19 7 5 nw_936 rfl rfl ni_M (by decide) rfl rfl d_M_asDouble_1 ?_
  refine lv_iload_n hx hb d_M_asDouble_4 rfl (lv_at hl 1 rfl) ?_
  obtain ⟨g1, h⟩ := h
  refine nf_iald K hw 22 5 rfl rfl g1 d_M_asDouble_5 ?_
  refine nf_callW (ex := (fun _ _ => False)) (As := [.int (mg_I M 22 x1.toNatClampNeg)]) (st0 := [.int (mg_I M 22 x1.toNatClampNeg)]) (rest := []) K hw (nf_invS hx hb K.2.2.2.1 (nf_Kg K nw_1011) (nf_Kg K nw_1012) (nf_Kg K nw_9) (nf_Kg K nw_1013) ⟨by decide, by decide⟩ rfl nl_M_isExact rfl d_M_asDouble_6) (c_M_isExact l hfl (mg_I M 22 x1.toNatClampNeg)) nw_1013 nw_9 rfl ⟨by decide, by decide⟩ (Nat.le_of_ble_eq_true rfl) hl.1 ⟨Nat.le_of_ble_eq_true rfl, Nat.le_of_ble_eq_true rfl⟩ h (fun _ _ h => h.elim) (fun r2 M3 H locs h hw => ?_)
  refine W.eq (g2 := F0 m 9 ls [.int r2]) rfl ?_
  refine nf_if_eq hx hb d_M_asDouble_9 (tgt := 32) (by decide) (fun hc => ?_) (fun hc => ?_)
  · have h := h.1 hc
    refine lv_aload_n hx hb d_M_asDouble_32 rfl (lv_at hl 0 rfl) ?_
    refine nf_get (v := .ref (a 25)) K hw 19 7 8 nw_939 rfl rfl ni_M (by decide) rfl rfl d_M_asDouble_33 ?_
    refine lv_iload_n hx hb d_M_asDouble_36 rfl (lv_at hl 1 rfl) ?_
    obtain ⟨g4, h⟩ := h
    refine nf_dald K hw 25 8 rfl rfl g4 d_M_asDouble_37 ?_
    exact w_M_asDouble_38 hfl K (mg_D M3 25 x1.toNatClampNeg) M3 _ _ _ h (lv_sub hl [] rfl) hw
  · have h := h.2 hc
    refine lv_aload_n hx hb d_M_asDouble_12 rfl (lv_at hl 0 rfl) ?_
    refine nf_get (v := .ref (a 23)) K hw 19 7 6 nw_937 rfl rfl ni_M (by decide) rfl rfl d_M_asDouble_13 ?_
    refine lv_iload_n hx hb d_M_asDouble_16 rfl (lv_at hl 1 rfl) ?_
    obtain ⟨g5, h⟩ := h
    refine nf_lald K hw 23 6 rfl rfl g5 d_M_asDouble_17 ?_
    refine lv_l2d hx hb d_M_asDouble_18 ?_
    refine lv_aload_n hx hb d_M_asDouble_19 rfl (lv_at hl 0 rfl) ?_
    refine nf_get (v := .ref (a 24)) K hw 19 7 7 nw_938 rfl rfl ni_M (by decide) rfl rfl d_M_asDouble_20 ?_
    refine lv_iload_n hx hb d_M_asDouble_23 rfl (lv_at hl 1 rfl) ?_
    obtain ⟨g6, h⟩ := h
    refine nf_iald K hw 24 7 rfl rfl g6 d_M_asDouble_24 ?_
    refine nf_callW (ex := (fun _ _ => False)) (As := [.int (mg_I M3 24 x1.toNatClampNeg)]) (st0 := [.int (mg_I M3 24 x1.toNatClampNeg), .double (FP.l2d (mg_L M3 23 x1.toNatClampNeg))]) (rest := [.double (FP.l2d (mg_L M3 23 x1.toNatClampNeg))]) K hw (nf_invS hx hb K.2.2.2.1 (nf_Kg K nw_1063) (nf_Kg K nw_1064) (nf_Kg K nw_9) (nf_Kg K nw_1065) ⟨by decide, by decide⟩ rfl nl_M_ten rfl d_M_asDouble_25) (c_M_ten l hfl (mg_I M3 24 x1.toNatClampNeg)) nw_1065 nw_9 rfl ⟨by decide, by decide⟩ (Nat.le_of_ble_eq_true rfl) hl.1 ⟨Nat.le_of_ble_eq_true rfl, Nat.le_of_ble_eq_true rfl⟩ h (fun _ _ h => h.elim) (fun r7 M8 H locs h hw => ?_)
    refine W.eq (g2 := F0 m 28 ls [.double r7, .double (FP.l2d (mg_L M3 23 x1.toNatClampNeg))]) rfl ?_
    obtain ⟨g9, h⟩ := h
    refine lv_ddiv hx hb d_M_asDouble_28 g9 ?_
    refine lv_goto hx hb d_M_asDouble_29 (tgt := 38) (by decide) ?_
    exact w_M_asDouble_38 hfl K (FP.ddiv (FP.l2d (mg_L M3 23 x1.toNatClampNeg)) r7) M8 _ _ _ h (lv_sub hl [] rfl) hw
theorem d_M_isInfinite_0 : decode nb_M_isInfinite 0 = .ok (.dload_n 0, 1) := by decide +kernel
theorem d_M_isInfinite_1 : decode nb_M_isInfinite 1 = .ok (.ldc2_w 162, 3) := by decide +kernel
theorem d_M_isInfinite_4 : decode nb_M_isInfinite 4 = .ok (.dcmp .l, 1) := by decide +kernel
theorem d_M_isInfinite_5 : decode nb_M_isInfinite 5 = .ok (.ifCond .gt 11, 3) := by decide +kernel
theorem d_M_isInfinite_8 : decode nb_M_isInfinite 8 = .ok (.dload_n 0, 1) := by decide +kernel
theorem d_M_isInfinite_9 : decode nb_M_isInfinite 9 = .ok (.ldc2_w 164, 3) := by decide +kernel
theorem d_M_isInfinite_12 : decode nb_M_isInfinite 12 = .ok (.dcmp .g, 1) := by decide +kernel
theorem d_M_isInfinite_13 : decode nb_M_isInfinite 13 = .ok (.ifCond .ge 7, 3) := by decide +kernel
theorem d_M_isInfinite_16 : decode nb_M_isInfinite 16 = .ok (.iconst 1, 1) := by decide +kernel
theorem d_M_isInfinite_17 : decode nb_M_isInfinite 17 = .ok (.goto 4, 3) := by decide +kernel
theorem d_M_isInfinite_20 : decode nb_M_isInfinite 20 = .ok (.iconst 0, 1) := by decide +kernel
theorem d_M_isInfinite_21 : decode nb_M_isInfinite 21 = .ok (.ireturn, 1) := by decide +kernel
abbrev rm_M_isInfinite : Room := ({ frames := 0, cells := 0, slots := 0, locals := 0 })
theorem w_M_isInfinite_21 {post : Int32 → nf_M → Prop} (hfl : l.flags = flags0) (K : nf_K p s m args meth c "NumberForgeModel" nb_M_isInfinite 2 (some FieldType.boolean) D a sz) : ∀ (xy0 : Int32) (M : nf_M) (H : Heap) (locs : List Loc) (ls : Array Slot), B_M_isInfinite_21 post xy0 M → lv_has ls 2 [] → nf_W D a s sz H locs M → W p l e rm_M_isInfinite s m args below meth c H locs 0 0 (nf_MQ below (nf_Q nf_jI D a post ex (nf_A a sz)) args s rm_M_isInfinite.cells rm_M_isInfinite.slots (nf_A a sz)) (F0 m 21 ls [.int xy0]) := by
  have hx := K.1
  have hb := K.2.1
  intro xy0 M H locs ls h hl hw
  obtain ⟨g1, h⟩ := h
  exact nf_iret K hw d_M_isInfinite_21 g1 (Nat.le_of_ble_eq_true rfl) (Nat.le_of_ble_eq_true rfl) (r := xy0) rfl h
theorem w_M_isInfinite_16 {post : Int32 → nf_M → Prop} (hfl : l.flags = flags0) (K : nf_K p s m args meth c "NumberForgeModel" nb_M_isInfinite 2 (some FieldType.boolean) D a sz) : ∀ (M : nf_M) (H : Heap) (locs : List Loc) (ls : Array Slot), B_M_isInfinite_16 post  M → lv_has ls 2 [] → nf_W D a s sz H locs M → W p l e rm_M_isInfinite s m args below meth c H locs 0 0 (nf_MQ below (nf_Q nf_jI D a post ex (nf_A a sz)) args s rm_M_isInfinite.cells rm_M_isInfinite.slots (nf_A a sz)) (F0 m 16 ls []) := by
  have hx := K.1
  have hb := K.2.1
  intro  M H locs ls h hl hw
  refine lv_iconst (v := (1 : Int32)) hx hb d_M_isInfinite_16 (by decide) ?_
  refine lv_goto hx hb d_M_isInfinite_17 (tgt := 21) (by decide) ?_
  exact w_M_isInfinite_21 hfl K (1 : Int32) M _ _ _ h (lv_sub hl [] rfl) hw
theorem c_M_isInfinite (l : Launch) (hfl : l.flags = flags0) (x0 : UInt64) : nf_C nf_jI l nm_M_isInfinite nb_M_isInfinite 2 (some FieldType.boolean) rm_M_isInfinite (fun a => [.double x0]) (fun M post ex => P_M_isInfinite x0 M post) := by
  refine nf_start (plainFor_of_name (by decide +kernel)) (fun a => Nat.le_of_ble_eq_true rfl) ?_
  intro D a sz M post ex p e s m below meth c ls h K hl hw
  have hx := K.1
  have hb := K.2.1
  have hl : lv_has ls 2 [(0, .double x0)] := hl
  refine lv_dload_n hx hb d_M_isInfinite_0 rfl (lv_at hl 0 rfl) ?_
  refine lv_ldc2d (v := (9218868437227405311 : UInt64)) hx hb K.2.2.2.1 (nf_Kg K nw_1100) d_M_isInfinite_1 ?_
  refine nf_dl_gt hx hb d_M_isInfinite_4 d_M_isInfinite_5 (tgt := 16) (by decide) (fun hc => ?_) (fun hc => ?_)
  · have h := h.1 hc
    exact w_M_isInfinite_16 hfl K  M _ _ _ h (lv_sub hl [] rfl) hw
  · have h := h.2 hc
    refine lv_dload_n hx hb d_M_isInfinite_8 rfl (lv_at hl 0 rfl) ?_
    refine lv_ldc2d (v := (18442240474082181119 : UInt64)) hx hb K.2.2.2.1 (nf_Kg K nw_1101) d_M_isInfinite_9 ?_
    refine nf_dg_ge hx hb d_M_isInfinite_12 d_M_isInfinite_13 (tgt := 20) (by decide) (fun hc => ?_) (fun hc => ?_)
    · have h := h.1 hc
      exact w_M_isInfinite_16 hfl K  M _ _ _ h (lv_sub hl [] rfl) hw
    · have h := h.2 hc
      refine lv_iconst (v := (0 : Int32)) hx hb d_M_isInfinite_20 (by decide) ?_
      exact w_M_isInfinite_21 hfl K (0 : Int32) M _ _ _ h (lv_sub hl [] rfl) hw
theorem d_M_isOdd_0 : decode nb_M_isOdd 0 = .ok (.dload_n 1, 1) := by decide +kernel
theorem d_M_isOdd_1 : decode nb_M_isOdd 1 = .ok (.invokestatic 166, 3) := by decide +kernel
theorem d_M_isOdd_4 : decode nb_M_isOdd 4 = .ok (.ifCond .eq 14, 3) := by decide +kernel
theorem d_M_isOdd_7 : decode nb_M_isOdd 7 = .ok (.dload_n 3, 1) := by decide +kernel
theorem d_M_isOdd_8 : decode nb_M_isOdd 8 = .ok (.invokestatic 166, 3) := by decide +kernel
theorem d_M_isOdd_11 : decode nb_M_isOdd 11 = .ok (.ifCond .eq 7, 3) := by decide +kernel
theorem d_M_isOdd_14 : decode nb_M_isOdd 14 = .ok (.iconst 1, 1) := by decide +kernel
theorem d_M_isOdd_15 : decode nb_M_isOdd 15 = .ok (.goto 4, 3) := by decide +kernel
theorem d_M_isOdd_18 : decode nb_M_isOdd 18 = .ok (.iconst 0, 1) := by decide +kernel
theorem d_M_isOdd_19 : decode nb_M_isOdd 19 = .ok (.istore 5, 2) := by decide +kernel
theorem d_M_isOdd_21 : decode nb_M_isOdd 21 = .ok (.dload_n 1, 1) := by decide +kernel
theorem d_M_isOdd_22 : decode nb_M_isOdd 22 = .ok (.dconst 0, 1) := by decide +kernel
theorem d_M_isOdd_23 : decode nb_M_isOdd 23 = .ok (.dcmp .l, 1) := by decide +kernel
theorem d_M_isOdd_24 : decode nb_M_isOdd 24 = .ok (.ifCond .le 7, 3) := by decide +kernel
theorem d_M_isOdd_27 : decode nb_M_isOdd 27 = .ok (.iconst 1, 1) := by decide +kernel
theorem d_M_isOdd_28 : decode nb_M_isOdd 28 = .ok (.goto 4, 3) := by decide +kernel
theorem d_M_isOdd_31 : decode nb_M_isOdd 31 = .ok (.iconst 0, 1) := by decide +kernel
theorem d_M_isOdd_32 : decode nb_M_isOdd 32 = .ok (.dload_n 3, 1) := by decide +kernel
theorem d_M_isOdd_33 : decode nb_M_isOdd 33 = .ok (.dconst 0, 1) := by decide +kernel
theorem d_M_isOdd_34 : decode nb_M_isOdd 34 = .ok (.dcmp .l, 1) := by decide +kernel
theorem d_M_isOdd_35 : decode nb_M_isOdd 35 = .ok (.ifCond .le 7, 3) := by decide +kernel
theorem d_M_isOdd_38 : decode nb_M_isOdd 38 = .ok (.iconst 1, 1) := by decide +kernel
theorem d_M_isOdd_39 : decode nb_M_isOdd 39 = .ok (.goto 4, 3) := by decide +kernel
theorem d_M_isOdd_42 : decode nb_M_isOdd 42 = .ok (.iconst 0, 1) := by decide +kernel
theorem d_M_isOdd_43 : decode nb_M_isOdd 43 = .ok (.if_icmp .ne 7, 3) := by decide +kernel
theorem d_M_isOdd_46 : decode nb_M_isOdd 46 = .ok (.iconst 1, 1) := by decide +kernel
theorem d_M_isOdd_47 : decode nb_M_isOdd 47 = .ok (.goto 4, 3) := by decide +kernel
theorem d_M_isOdd_50 : decode nb_M_isOdd 50 = .ok (.iconst 0, 1) := by decide +kernel
theorem d_M_isOdd_51 : decode nb_M_isOdd 51 = .ok (.istore 6, 2) := by decide +kernel
theorem d_M_isOdd_53 : decode nb_M_isOdd 53 = .ok (.dload_n 1, 1) := by decide +kernel
theorem d_M_isOdd_54 : decode nb_M_isOdd 54 = .ok (.dconst 0, 1) := by decide +kernel
theorem d_M_isOdd_55 : decode nb_M_isOdd 55 = .ok (.dcmp .l, 1) := by decide +kernel
theorem d_M_isOdd_56 : decode nb_M_isOdd 56 = .ok (.ifCond .ne 10, 3) := by decide +kernel
theorem d_M_isOdd_59 : decode nb_M_isOdd 59 = .ok (.dload_n 3, 1) := by decide +kernel
theorem d_M_isOdd_60 : decode nb_M_isOdd 60 = .ok (.invokestatic 166, 3) := by decide +kernel
theorem d_M_isOdd_63 : decode nb_M_isOdd 63 = .ok (.ifCond .ne 16, 3) := by decide +kernel
theorem d_M_isOdd_66 : decode nb_M_isOdd 66 = .ok (.dload_n 1, 1) := by decide +kernel
theorem d_M_isOdd_67 : decode nb_M_isOdd 67 = .ok (.invokestatic 166, 3) := by decide +kernel
theorem d_M_isOdd_70 : decode nb_M_isOdd 70 = .ok (.ifCond .eq 13, 3) := by decide +kernel
theorem d_M_isOdd_73 : decode nb_M_isOdd 73 = .ok (.dload_n 3, 1) := by decide +kernel
theorem d_M_isOdd_74 : decode nb_M_isOdd 74 = .ok (.dconst 0, 1) := by decide +kernel
theorem d_M_isOdd_75 : decode nb_M_isOdd 75 = .ok (.dcmp .l, 1) := by decide +kernel
theorem d_M_isOdd_76 : decode nb_M_isOdd 76 = .ok (.ifCond .ne 7, 3) := by decide +kernel
theorem d_M_isOdd_79 : decode nb_M_isOdd 79 = .ok (.iconst 1, 1) := by decide +kernel
theorem d_M_isOdd_80 : decode nb_M_isOdd 80 = .ok (.goto 4, 3) := by decide +kernel
theorem d_M_isOdd_83 : decode nb_M_isOdd 83 = .ok (.iconst 0, 1) := by decide +kernel
theorem d_M_isOdd_84 : decode nb_M_isOdd 84 = .ok (.istore 7, 2) := by decide +kernel
theorem d_M_isOdd_86 : decode nb_M_isOdd 86 = .ok (.iload_n 0, 1) := by decide +kernel
theorem d_M_isOdd_87 : decode nb_M_isOdd 87 = .ok (.iconst 2, 1) := by decide +kernel
theorem d_M_isOdd_88 : decode nb_M_isOdd 88 = .ok (.if_icmp .ge 31, 3) := by decide +kernel
theorem d_M_isOdd_91 : decode nb_M_isOdd 91 = .ok (.iload 5, 2) := by decide +kernel
theorem d_M_isOdd_93 : decode nb_M_isOdd 93 = .ok (.ifCond .eq 22, 3) := by decide +kernel
theorem d_M_isOdd_96 : decode nb_M_isOdd 96 = .ok (.iload 6, 2) := by decide +kernel
theorem d_M_isOdd_98 : decode nb_M_isOdd 98 = .ok (.iload_n 0, 1) := by decide +kernel
theorem d_M_isOdd_99 : decode nb_M_isOdd 99 = .ok (.iconst 1, 1) := by decide +kernel
theorem d_M_isOdd_100 : decode nb_M_isOdd 100 = .ok (.if_icmp .ne 7, 3) := by decide +kernel
theorem d_M_isOdd_103 : decode nb_M_isOdd 103 = .ok (.iconst 1, 1) := by decide +kernel
theorem d_M_isOdd_104 : decode nb_M_isOdd 104 = .ok (.goto 4, 3) := by decide +kernel
theorem d_M_isOdd_107 : decode nb_M_isOdd 107 = .ok (.iconst 0, 1) := by decide +kernel
theorem d_M_isOdd_108 : decode nb_M_isOdd 108 = .ok (.if_icmp .ne 7, 3) := by decide +kernel
theorem d_M_isOdd_111 : decode nb_M_isOdd 111 = .ok (.iconst 1, 1) := by decide +kernel
theorem d_M_isOdd_112 : decode nb_M_isOdd 112 = .ok (.goto 70, 3) := by decide +kernel
theorem d_M_isOdd_115 : decode nb_M_isOdd 115 = .ok (.iconst 0, 1) := by decide +kernel
theorem d_M_isOdd_116 : decode nb_M_isOdd 116 = .ok (.goto 66, 3) := by decide +kernel
theorem d_M_isOdd_119 : decode nb_M_isOdd 119 = .ok (.iload_n 0, 1) := by decide +kernel
theorem d_M_isOdd_120 : decode nb_M_isOdd 120 = .ok (.iconst 2, 1) := by decide +kernel
theorem d_M_isOdd_121 : decode nb_M_isOdd 121 = .ok (.if_icmp .ne 8, 3) := by decide +kernel
theorem d_M_isOdd_124 : decode nb_M_isOdd 124 = .ok (.iload 7, 2) := by decide +kernel
theorem d_M_isOdd_126 : decode nb_M_isOdd 126 = .ok (.goto 56, 3) := by decide +kernel
theorem d_M_isOdd_129 : decode nb_M_isOdd 129 = .ok (.iload_n 0, 1) := by decide +kernel
theorem d_M_isOdd_130 : decode nb_M_isOdd 130 = .ok (.iconst 5, 1) := by decide +kernel
theorem d_M_isOdd_131 : decode nb_M_isOdd 131 = .ok (.if_icmp .ne 24, 3) := by decide +kernel
theorem d_M_isOdd_134 : decode nb_M_isOdd 134 = .ok (.dload_n 3, 1) := by decide +kernel
theorem d_M_isOdd_135 : decode nb_M_isOdd 135 = .ok (.dconst 0, 1) := by decide +kernel
theorem d_M_isOdd_136 : decode nb_M_isOdd 136 = .ok (.dcmp .l, 1) := by decide +kernel
theorem d_M_isOdd_137 : decode nb_M_isOdd 137 = .ok (.ifCond .eq 10, 3) := by decide +kernel
theorem d_M_isOdd_140 : decode nb_M_isOdd 140 = .ok (.dload_n 1, 1) := by decide +kernel
theorem d_M_isOdd_141 : decode nb_M_isOdd 141 = .ok (.invokestatic 166, 3) := by decide +kernel
theorem d_M_isOdd_144 : decode nb_M_isOdd 144 = .ok (.ifCond .eq 7, 3) := by decide +kernel
theorem d_M_isOdd_147 : decode nb_M_isOdd 147 = .ok (.iconst 1, 1) := by decide +kernel
theorem d_M_isOdd_148 : decode nb_M_isOdd 148 = .ok (.goto 34, 3) := by decide +kernel
theorem d_M_isOdd_151 : decode nb_M_isOdd 151 = .ok (.iconst 0, 1) := by decide +kernel
theorem d_M_isOdd_152 : decode nb_M_isOdd 152 = .ok (.goto 30, 3) := by decide +kernel
theorem d_M_isOdd_155 : decode nb_M_isOdd 155 = .ok (.iload 5, 2) := by decide +kernel
theorem d_M_isOdd_157 : decode nb_M_isOdd 157 = .ok (.ifCond .ne 20, 3) := by decide +kernel
theorem d_M_isOdd_160 : decode nb_M_isOdd 160 = .ok (.dload_n 3, 1) := by decide +kernel
theorem d_M_isOdd_161 : decode nb_M_isOdd 161 = .ok (.dconst 0, 1) := by decide +kernel
theorem d_M_isOdd_162 : decode nb_M_isOdd 162 = .ok (.dcmp .l, 1) := by decide +kernel
theorem d_M_isOdd_163 : decode nb_M_isOdd 163 = .ok (.ifCond .ne 18, 3) := by decide +kernel
theorem d_M_isOdd_166 : decode nb_M_isOdd 166 = .ok (.dload_n 1, 1) := by decide +kernel
theorem d_M_isOdd_167 : decode nb_M_isOdd 167 = .ok (.dconst 0, 1) := by decide +kernel
theorem d_M_isOdd_168 : decode nb_M_isOdd 168 = .ok (.dcmp .l, 1) := by decide +kernel
theorem d_M_isOdd_169 : decode nb_M_isOdd 169 = .ok (.ifCond .eq 8, 3) := by decide +kernel
theorem d_M_isOdd_172 : decode nb_M_isOdd 172 = .ok (.iload_n 0, 1) := by decide +kernel
theorem d_M_isOdd_173 : decode nb_M_isOdd 173 = .ok (.iconst 4, 1) := by decide +kernel
theorem d_M_isOdd_174 : decode nb_M_isOdd 174 = .ok (.if_icmp .ne 7, 3) := by decide +kernel
theorem d_M_isOdd_177 : decode nb_M_isOdd 177 = .ok (.iconst 1, 1) := by decide +kernel
theorem d_M_isOdd_178 : decode nb_M_isOdd 178 = .ok (.goto 4, 3) := by decide +kernel
theorem d_M_isOdd_181 : decode nb_M_isOdd 181 = .ok (.iconst 0, 1) := by decide +kernel
theorem d_M_isOdd_182 : decode nb_M_isOdd 182 = .ok (.ireturn, 1) := by decide +kernel
abbrev rm_M_isOdd : Room := ({ frames := 1, cells := 0, slots := 0, locals := 21 })
theorem w_M_isOdd_182 {post : Int32 → nf_M → Prop} (hfl : l.flags = flags0) (K : nf_K p s m args meth c "NumberForgeModel" nb_M_isOdd 8 (some FieldType.boolean) D a sz) : ∀ (xy0 : Int32) (M : nf_M) (H : Heap) (locs : List Loc) (ls : Array Slot), B_M_isOdd_182 post xy0 M → lv_has ls 8 [] → nf_W D a s sz H locs M → W p l e rm_M_isOdd s m args below meth c H locs 0 0 (nf_MQ below (nf_Q nf_jI D a post ex (nf_A a sz)) args s rm_M_isOdd.cells rm_M_isOdd.slots (nf_A a sz)) (F0 m 182 ls [.int xy0]) := by
  have hx := K.1
  have hb := K.2.1
  intro xy0 M H locs ls h hl hw
  obtain ⟨g1, h⟩ := h
  exact nf_iret K hw d_M_isOdd_182 g1 (Nat.le_of_ble_eq_true rfl) (Nat.le_of_ble_eq_true rfl) (r := xy0) rfl h
theorem w_M_isOdd_115 {post : Int32 → nf_M → Prop} (hfl : l.flags = flags0) (K : nf_K p s m args meth c "NumberForgeModel" nb_M_isOdd 8 (some FieldType.boolean) D a sz) : ∀ (M : nf_M) (H : Heap) (locs : List Loc) (ls : Array Slot), B_M_isOdd_115 post  M → lv_has ls 8 [] → nf_W D a s sz H locs M → W p l e rm_M_isOdd s m args below meth c H locs 0 0 (nf_MQ below (nf_Q nf_jI D a post ex (nf_A a sz)) args s rm_M_isOdd.cells rm_M_isOdd.slots (nf_A a sz)) (F0 m 115 ls []) := by
  have hx := K.1
  have hb := K.2.1
  intro  M H locs ls h hl hw
  refine lv_iconst (v := (0 : Int32)) hx hb d_M_isOdd_115 (by decide) ?_
  refine lv_goto hx hb d_M_isOdd_116 (tgt := 182) (by decide) ?_
  exact w_M_isOdd_182 hfl K (0 : Int32) M _ _ _ h (lv_sub hl [] rfl) hw
theorem w_M_isOdd_108 {post : Int32 → nf_M → Prop} (hfl : l.flags = flags0) (K : nf_K p s m args meth c "NumberForgeModel" nb_M_isOdd 8 (some FieldType.boolean) D a sz) : ∀ (xy0 : Int32) (xy1 : Int32) (M : nf_M) (H : Heap) (locs : List Loc) (ls : Array Slot), B_M_isOdd_108 post xy0 xy1 M → lv_has ls 8 [] → nf_W D a s sz H locs M → W p l e rm_M_isOdd s m args below meth c H locs 0 0 (nf_MQ below (nf_Q nf_jI D a post ex (nf_A a sz)) args s rm_M_isOdd.cells rm_M_isOdd.slots (nf_A a sz)) (F0 m 108 ls [.int xy0, .int xy1]) := by
  have hx := K.1
  have hb := K.2.1
  intro xy0 xy1 M H locs ls h hl hw
  refine nf_ic_ne hx hb d_M_isOdd_108 (tgt := 115) (by decide) (fun hc => ?_) (fun hc => ?_)
  · have h := h.1 hc
    refine lv_iconst (v := (1 : Int32)) hx hb d_M_isOdd_111 (by decide) ?_
    refine lv_goto hx hb d_M_isOdd_112 (tgt := 182) (by decide) ?_
    exact w_M_isOdd_182 hfl K (1 : Int32) M _ _ _ h (lv_sub hl [] rfl) hw
  · have h := h.2 hc
    exact w_M_isOdd_115 hfl K  M _ _ _ h (lv_sub hl [] rfl) hw
theorem w_M_isOdd_147 {post : Int32 → nf_M → Prop} (hfl : l.flags = flags0) (K : nf_K p s m args meth c "NumberForgeModel" nb_M_isOdd 8 (some FieldType.boolean) D a sz) : ∀ (M : nf_M) (H : Heap) (locs : List Loc) (ls : Array Slot), B_M_isOdd_147 post  M → lv_has ls 8 [] → nf_W D a s sz H locs M → W p l e rm_M_isOdd s m args below meth c H locs 0 0 (nf_MQ below (nf_Q nf_jI D a post ex (nf_A a sz)) args s rm_M_isOdd.cells rm_M_isOdd.slots (nf_A a sz)) (F0 m 147 ls []) := by
  have hx := K.1
  have hb := K.2.1
  intro  M H locs ls h hl hw
  refine lv_iconst (v := (1 : Int32)) hx hb d_M_isOdd_147 (by decide) ?_
  refine lv_goto hx hb d_M_isOdd_148 (tgt := 182) (by decide) ?_
  exact w_M_isOdd_182 hfl K (1 : Int32) M _ _ _ h (lv_sub hl [] rfl) hw
theorem w_M_isOdd_177 {post : Int32 → nf_M → Prop} (hfl : l.flags = flags0) (K : nf_K p s m args meth c "NumberForgeModel" nb_M_isOdd 8 (some FieldType.boolean) D a sz) : ∀ (M : nf_M) (H : Heap) (locs : List Loc) (ls : Array Slot), B_M_isOdd_177 post  M → lv_has ls 8 [] → nf_W D a s sz H locs M → W p l e rm_M_isOdd s m args below meth c H locs 0 0 (nf_MQ below (nf_Q nf_jI D a post ex (nf_A a sz)) args s rm_M_isOdd.cells rm_M_isOdd.slots (nf_A a sz)) (F0 m 177 ls []) := by
  have hx := K.1
  have hb := K.2.1
  intro  M H locs ls h hl hw
  refine lv_iconst (v := (1 : Int32)) hx hb d_M_isOdd_177 (by decide) ?_
  refine lv_goto hx hb d_M_isOdd_178 (tgt := 182) (by decide) ?_
  exact w_M_isOdd_182 hfl K (1 : Int32) M _ _ _ h (lv_sub hl [] rfl) hw
theorem w_M_isOdd_181 {post : Int32 → nf_M → Prop} (hfl : l.flags = flags0) (K : nf_K p s m args meth c "NumberForgeModel" nb_M_isOdd 8 (some FieldType.boolean) D a sz) : ∀ (M : nf_M) (H : Heap) (locs : List Loc) (ls : Array Slot), B_M_isOdd_181 post  M → lv_has ls 8 [] → nf_W D a s sz H locs M → W p l e rm_M_isOdd s m args below meth c H locs 0 0 (nf_MQ below (nf_Q nf_jI D a post ex (nf_A a sz)) args s rm_M_isOdd.cells rm_M_isOdd.slots (nf_A a sz)) (F0 m 181 ls []) := by
  have hx := K.1
  have hb := K.2.1
  intro  M H locs ls h hl hw
  refine lv_iconst (v := (0 : Int32)) hx hb d_M_isOdd_181 (by decide) ?_
  exact w_M_isOdd_182 hfl K (0 : Int32) M _ _ _ h (lv_sub hl [] rfl) hw
theorem w_M_isOdd_84 {post : Int32 → nf_M → Prop} (hfl : l.flags = flags0) (K : nf_K p s m args meth c "NumberForgeModel" nb_M_isOdd 8 (some FieldType.boolean) D a sz) : ∀ (x0 : Int32) (x1 : UInt64) (x3 : UInt64) (x5 : Int32) (x6 : Int32) (xy0 : Int32) (M : nf_M) (H : Heap) (locs : List Loc) (ls : Array Slot), B_M_isOdd_84 post x0 x1 x3 x5 x6 xy0 M → lv_has ls 8 [(0, .int x0), (1, .double x1), (3, .double x3), (5, .int x5), (6, .int x6)] → nf_W D a s sz H locs M → W p l e rm_M_isOdd s m args below meth c H locs 0 0 (nf_MQ below (nf_Q nf_jI D a post ex (nf_A a sz)) args s rm_M_isOdd.cells rm_M_isOdd.slots (nf_A a sz)) (F0 m 84 ls [.int xy0]) := by
  have hx := K.1
  have hb := K.2.1
  intro x0 x1 x3 x5 x6 xy0 M H locs ls h hl hw
  refine lv_istore (lv' := [(7, .int xy0), (0, .int x0), (1, .double x1), (3, .double x3), (5, .int x5), (6, .int x6)]) hx hb d_M_isOdd_84 hl (by decide) rfl (fun ls hl => ?_)
  refine lv_iload_n hx hb d_M_isOdd_86 rfl (lv_at hl 1 rfl) ?_
  refine lv_iconst (v := (2 : Int32)) hx hb d_M_isOdd_87 (by decide) ?_
  refine nf_ic_ge hx hb d_M_isOdd_88 (tgt := 119) (by decide) (fun hc => ?_) (fun hc => ?_)
  · have h := h.1 hc
    refine lv_iload hx hb d_M_isOdd_91 (lv_at hl 4 rfl) ?_
    refine nf_if_eq hx hb d_M_isOdd_93 (tgt := 115) (by decide) (fun hc => ?_) (fun hc => ?_)
    · have h := h.1 hc
      exact w_M_isOdd_115 hfl K  M _ _ _ h (lv_sub hl [] rfl) hw
    · have h := h.2 hc
      refine lv_iload hx hb d_M_isOdd_96 (lv_at hl 5 rfl) ?_
      refine lv_iload_n hx hb d_M_isOdd_98 rfl (lv_at hl 1 rfl) ?_
      refine lv_iconst (v := (1 : Int32)) hx hb d_M_isOdd_99 (by decide) ?_
      refine nf_ic_ne hx hb d_M_isOdd_100 (tgt := 107) (by decide) (fun hc => ?_) (fun hc => ?_)
      · have h := h.1 hc
        refine lv_iconst (v := (1 : Int32)) hx hb d_M_isOdd_103 (by decide) ?_
        refine lv_goto hx hb d_M_isOdd_104 (tgt := 108) (by decide) ?_
        exact w_M_isOdd_108 hfl K (1 : Int32) x6 M _ _ _ h (lv_sub hl [] rfl) hw
      · have h := h.2 hc
        refine lv_iconst (v := (0 : Int32)) hx hb d_M_isOdd_107 (by decide) ?_
        exact w_M_isOdd_108 hfl K (0 : Int32) x6 M _ _ _ h (lv_sub hl [] rfl) hw
  · have h := h.2 hc
    refine lv_iload_n hx hb d_M_isOdd_119 rfl (lv_at hl 1 rfl) ?_
    refine lv_iconst (v := (2 : Int32)) hx hb d_M_isOdd_120 (by decide) ?_
    refine nf_ic_ne hx hb d_M_isOdd_121 (tgt := 129) (by decide) (fun hc => ?_) (fun hc => ?_)
    · have h := h.1 hc
      refine lv_iload hx hb d_M_isOdd_124 (lv_at hl 0 rfl) ?_
      refine lv_goto hx hb d_M_isOdd_126 (tgt := 182) (by decide) ?_
      exact w_M_isOdd_182 hfl K xy0 M _ _ _ h (lv_sub hl [] rfl) hw
    · have h := h.2 hc
      refine lv_iload_n hx hb d_M_isOdd_129 rfl (lv_at hl 1 rfl) ?_
      refine lv_iconst (v := (5 : Int32)) hx hb d_M_isOdd_130 (by decide) ?_
      refine nf_ic_ne hx hb d_M_isOdd_131 (tgt := 155) (by decide) (fun hc => ?_) (fun hc => ?_)
      · have h := h.1 hc
        refine lv_dload_n hx hb d_M_isOdd_134 rfl (lv_at hl 3 rfl) ?_
        refine lv_dconst0 hx hb d_M_isOdd_135 ?_
        refine nf_dl_eq hx hb d_M_isOdd_136 d_M_isOdd_137 (tgt := 147) (by decide) (fun hc => ?_) (fun hc => ?_)
        · have h := h.1 hc
          exact w_M_isOdd_147 hfl K  M _ _ _ h (lv_sub hl [] rfl) hw
        · have h := h.2 hc
          refine lv_dload_n hx hb d_M_isOdd_140 rfl (lv_at hl 2 rfl) ?_
          refine nf_callW (ex := (fun _ _ => False)) (As := [.double x1]) (st0 := [.double x1]) (rest := []) K hw (nf_invS hx hb K.2.2.2.1 (nf_Kg K nw_1097) (nf_Kg K nw_1098) (nf_Kg K nw_9) (nf_Kg K nw_1099) ⟨by decide, by decide⟩ rfl nl_M_isInfinite rfl d_M_isOdd_141) (c_M_isInfinite l hfl x1) nw_1099 nw_9 rfl ⟨by decide, by decide⟩ (Nat.le_of_ble_eq_true rfl) hl.1 ⟨Nat.le_of_ble_eq_true rfl, Nat.le_of_ble_eq_true rfl⟩ h (fun _ _ h => h.elim) (fun r1 M2 H locs h hw => ?_)
          refine W.eq (g2 := F0 m 144 ls [.int r1]) rfl ?_
          refine nf_if_eq hx hb d_M_isOdd_144 (tgt := 151) (by decide) (fun hc => ?_) (fun hc => ?_)
          · have h := h.1 hc
            refine lv_iconst (v := (0 : Int32)) hx hb d_M_isOdd_151 (by decide) ?_
            refine lv_goto hx hb d_M_isOdd_152 (tgt := 182) (by decide) ?_
            exact w_M_isOdd_182 hfl K (0 : Int32) M2 _ _ _ h (lv_sub hl [] rfl) hw
          · have h := h.2 hc
            exact w_M_isOdd_147 hfl K  M2 _ _ _ h (lv_sub hl [] rfl) hw
      · have h := h.2 hc
        refine lv_iload hx hb d_M_isOdd_155 (lv_at hl 4 rfl) ?_
        refine nf_if_ne hx hb d_M_isOdd_157 (tgt := 177) (by decide) (fun hc => ?_) (fun hc => ?_)
        · have h := h.1 hc
          refine lv_dload_n hx hb d_M_isOdd_160 rfl (lv_at hl 3 rfl) ?_
          refine lv_dconst0 hx hb d_M_isOdd_161 ?_
          refine nf_dl_ne hx hb d_M_isOdd_162 d_M_isOdd_163 (tgt := 181) (by decide) (fun hc => ?_) (fun hc => ?_)
          · have h := h.1 hc
            refine lv_dload_n hx hb d_M_isOdd_166 rfl (lv_at hl 2 rfl) ?_
            refine lv_dconst0 hx hb d_M_isOdd_167 ?_
            refine nf_dl_eq hx hb d_M_isOdd_168 d_M_isOdd_169 (tgt := 177) (by decide) (fun hc => ?_) (fun hc => ?_)
            · have h := h.1 hc
              exact w_M_isOdd_177 hfl K  M _ _ _ h (lv_sub hl [] rfl) hw
            · have h := h.2 hc
              refine lv_iload_n hx hb d_M_isOdd_172 rfl (lv_at hl 1 rfl) ?_
              refine lv_iconst (v := (4 : Int32)) hx hb d_M_isOdd_173 (by decide) ?_
              refine nf_ic_ne hx hb d_M_isOdd_174 (tgt := 181) (by decide) (fun hc => ?_) (fun hc => ?_)
              · have h := h.1 hc
                exact w_M_isOdd_177 hfl K  M _ _ _ h (lv_sub hl [] rfl) hw
              · have h := h.2 hc
                exact w_M_isOdd_181 hfl K  M _ _ _ h (lv_sub hl [] rfl) hw
          · have h := h.2 hc
            exact w_M_isOdd_181 hfl K  M _ _ _ h (lv_sub hl [] rfl) hw
        · have h := h.2 hc
          exact w_M_isOdd_177 hfl K  M _ _ _ h (lv_sub hl [] rfl) hw
theorem w_M_isOdd_79 {post : Int32 → nf_M → Prop} (hfl : l.flags = flags0) (K : nf_K p s m args meth c "NumberForgeModel" nb_M_isOdd 8 (some FieldType.boolean) D a sz) : ∀ (x0 : Int32) (x1 : UInt64) (x3 : UInt64) (x5 : Int32) (x6 : Int32) (M : nf_M) (H : Heap) (locs : List Loc) (ls : Array Slot), B_M_isOdd_79 post x0 x1 x3 x5 x6 M → lv_has ls 8 [(0, .int x0), (1, .double x1), (3, .double x3), (5, .int x5), (6, .int x6)] → nf_W D a s sz H locs M → W p l e rm_M_isOdd s m args below meth c H locs 0 0 (nf_MQ below (nf_Q nf_jI D a post ex (nf_A a sz)) args s rm_M_isOdd.cells rm_M_isOdd.slots (nf_A a sz)) (F0 m 79 ls []) := by
  have hx := K.1
  have hb := K.2.1
  intro x0 x1 x3 x5 x6 M H locs ls h hl hw
  refine lv_iconst (v := (1 : Int32)) hx hb d_M_isOdd_79 (by decide) ?_
  refine lv_goto hx hb d_M_isOdd_80 (tgt := 84) (by decide) ?_
  exact w_M_isOdd_84 hfl K x0 x1 x3 x5 x6 (1 : Int32) M _ _ _ h (lv_sub hl [0, 1, 2, 3, 4] rfl) hw
theorem w_M_isOdd_83 {post : Int32 → nf_M → Prop} (hfl : l.flags = flags0) (K : nf_K p s m args meth c "NumberForgeModel" nb_M_isOdd 8 (some FieldType.boolean) D a sz) : ∀ (x0 : Int32) (x1 : UInt64) (x3 : UInt64) (x5 : Int32) (x6 : Int32) (M : nf_M) (H : Heap) (locs : List Loc) (ls : Array Slot), B_M_isOdd_83 post x0 x1 x3 x5 x6 M → lv_has ls 8 [(0, .int x0), (1, .double x1), (3, .double x3), (5, .int x5), (6, .int x6)] → nf_W D a s sz H locs M → W p l e rm_M_isOdd s m args below meth c H locs 0 0 (nf_MQ below (nf_Q nf_jI D a post ex (nf_A a sz)) args s rm_M_isOdd.cells rm_M_isOdd.slots (nf_A a sz)) (F0 m 83 ls []) := by
  have hx := K.1
  have hb := K.2.1
  intro x0 x1 x3 x5 x6 M H locs ls h hl hw
  refine lv_iconst (v := (0 : Int32)) hx hb d_M_isOdd_83 (by decide) ?_
  exact w_M_isOdd_84 hfl K x0 x1 x3 x5 x6 (0 : Int32) M _ _ _ h (lv_sub hl [0, 1, 2, 3, 4] rfl) hw
theorem w_M_isOdd_66 {post : Int32 → nf_M → Prop} (hfl : l.flags = flags0) (K : nf_K p s m args meth c "NumberForgeModel" nb_M_isOdd 8 (some FieldType.boolean) D a sz) : ∀ (x0 : Int32) (x1 : UInt64) (x3 : UInt64) (x5 : Int32) (x6 : Int32) (M : nf_M) (H : Heap) (locs : List Loc) (ls : Array Slot), B_M_isOdd_66 post x0 x1 x3 x5 x6 M → lv_has ls 8 [(0, .int x0), (1, .double x1), (3, .double x3), (5, .int x5), (6, .int x6)] → nf_W D a s sz H locs M → W p l e rm_M_isOdd s m args below meth c H locs 0 0 (nf_MQ below (nf_Q nf_jI D a post ex (nf_A a sz)) args s rm_M_isOdd.cells rm_M_isOdd.slots (nf_A a sz)) (F0 m 66 ls []) := by
  have hx := K.1
  have hb := K.2.1
  intro x0 x1 x3 x5 x6 M H locs ls h hl hw
  refine lv_dload_n hx hb d_M_isOdd_66 rfl (lv_at hl 1 rfl) ?_
  refine nf_callW (ex := (fun _ _ => False)) (As := [.double x1]) (st0 := [.double x1]) (rest := []) K hw (nf_invS hx hb K.2.2.2.1 (nf_Kg K nw_1097) (nf_Kg K nw_1098) (nf_Kg K nw_9) (nf_Kg K nw_1099) ⟨by decide, by decide⟩ rfl nl_M_isInfinite rfl d_M_isOdd_67) (c_M_isInfinite l hfl x1) nw_1099 nw_9 rfl ⟨by decide, by decide⟩ (Nat.le_of_ble_eq_true rfl) hl.1 ⟨Nat.le_of_ble_eq_true rfl, Nat.le_of_ble_eq_true rfl⟩ h (fun _ _ h => h.elim) (fun r1 M2 H locs h hw => ?_)
  refine W.eq (g2 := F0 m 70 ls [.int r1]) rfl ?_
  refine nf_if_eq hx hb d_M_isOdd_70 (tgt := 83) (by decide) (fun hc => ?_) (fun hc => ?_)
  · have h := h.1 hc
    exact w_M_isOdd_83 hfl K x0 x1 x3 x5 x6 M2 _ _ _ h (lv_sub hl [0, 1, 2, 3, 4] rfl) hw
  · have h := h.2 hc
    refine lv_dload_n hx hb d_M_isOdd_73 rfl (lv_at hl 2 rfl) ?_
    refine lv_dconst0 hx hb d_M_isOdd_74 ?_
    refine nf_dl_ne hx hb d_M_isOdd_75 d_M_isOdd_76 (tgt := 83) (by decide) (fun hc => ?_) (fun hc => ?_)
    · have h := h.1 hc
      exact w_M_isOdd_79 hfl K x0 x1 x3 x5 x6 M2 _ _ _ h (lv_sub hl [0, 1, 2, 3, 4] rfl) hw
    · have h := h.2 hc
      exact w_M_isOdd_83 hfl K x0 x1 x3 x5 x6 M2 _ _ _ h (lv_sub hl [0, 1, 2, 3, 4] rfl) hw
theorem w_M_isOdd_51 {post : Int32 → nf_M → Prop} (hfl : l.flags = flags0) (K : nf_K p s m args meth c "NumberForgeModel" nb_M_isOdd 8 (some FieldType.boolean) D a sz) : ∀ (x0 : Int32) (x1 : UInt64) (x3 : UInt64) (x5 : Int32) (xy0 : Int32) (M : nf_M) (H : Heap) (locs : List Loc) (ls : Array Slot), B_M_isOdd_51 post x0 x1 x3 x5 xy0 M → lv_has ls 8 [(0, .int x0), (1, .double x1), (3, .double x3), (5, .int x5)] → nf_W D a s sz H locs M → W p l e rm_M_isOdd s m args below meth c H locs 0 0 (nf_MQ below (nf_Q nf_jI D a post ex (nf_A a sz)) args s rm_M_isOdd.cells rm_M_isOdd.slots (nf_A a sz)) (F0 m 51 ls [.int xy0]) := by
  have hx := K.1
  have hb := K.2.1
  intro x0 x1 x3 x5 xy0 M H locs ls h hl hw
  refine lv_istore (lv' := [(6, .int xy0), (0, .int x0), (1, .double x1), (3, .double x3), (5, .int x5)]) hx hb d_M_isOdd_51 hl (by decide) rfl (fun ls hl => ?_)
  refine lv_dload_n hx hb d_M_isOdd_53 rfl (lv_at hl 2 rfl) ?_
  refine lv_dconst0 hx hb d_M_isOdd_54 ?_
  refine nf_dl_ne hx hb d_M_isOdd_55 d_M_isOdd_56 (tgt := 66) (by decide) (fun hc => ?_) (fun hc => ?_)
  · have h := h.1 hc
    refine lv_dload_n hx hb d_M_isOdd_59 rfl (lv_at hl 3 rfl) ?_
    refine nf_callW (ex := (fun _ _ => False)) (As := [.double x3]) (st0 := [.double x3]) (rest := []) K hw (nf_invS hx hb K.2.2.2.1 (nf_Kg K nw_1097) (nf_Kg K nw_1098) (nf_Kg K nw_9) (nf_Kg K nw_1099) ⟨by decide, by decide⟩ rfl nl_M_isInfinite rfl d_M_isOdd_60) (c_M_isInfinite l hfl x3) nw_1099 nw_9 rfl ⟨by decide, by decide⟩ (Nat.le_of_ble_eq_true rfl) hl.1 ⟨Nat.le_of_ble_eq_true rfl, Nat.le_of_ble_eq_true rfl⟩ h (fun _ _ h => h.elim) (fun r1 M2 H locs h hw => ?_)
    refine W.eq (g2 := F0 m 63 ls [.int r1]) rfl ?_
    refine nf_if_ne hx hb d_M_isOdd_63 (tgt := 79) (by decide) (fun hc => ?_) (fun hc => ?_)
    · have h := h.1 hc
      exact w_M_isOdd_66 hfl K x0 x1 x3 x5 xy0 M2 _ _ _ h (lv_sub hl [1, 2, 3, 4, 0] rfl) hw
    · have h := h.2 hc
      exact w_M_isOdd_79 hfl K x0 x1 x3 x5 xy0 M2 _ _ _ h (lv_sub hl [1, 2, 3, 4, 0] rfl) hw
  · have h := h.2 hc
    exact w_M_isOdd_66 hfl K x0 x1 x3 x5 xy0 M _ _ _ h (lv_sub hl [1, 2, 3, 4, 0] rfl) hw
theorem w_M_isOdd_43 {post : Int32 → nf_M → Prop} (hfl : l.flags = flags0) (K : nf_K p s m args meth c "NumberForgeModel" nb_M_isOdd 8 (some FieldType.boolean) D a sz) : ∀ (x0 : Int32) (x1 : UInt64) (x3 : UInt64) (x5 : Int32) (xy0 : Int32) (xy1 : Int32) (M : nf_M) (H : Heap) (locs : List Loc) (ls : Array Slot), B_M_isOdd_43 post x0 x1 x3 x5 xy0 xy1 M → lv_has ls 8 [(0, .int x0), (1, .double x1), (3, .double x3), (5, .int x5)] → nf_W D a s sz H locs M → W p l e rm_M_isOdd s m args below meth c H locs 0 0 (nf_MQ below (nf_Q nf_jI D a post ex (nf_A a sz)) args s rm_M_isOdd.cells rm_M_isOdd.slots (nf_A a sz)) (F0 m 43 ls [.int xy0, .int xy1]) := by
  have hx := K.1
  have hb := K.2.1
  intro x0 x1 x3 x5 xy0 xy1 M H locs ls h hl hw
  refine nf_ic_ne hx hb d_M_isOdd_43 (tgt := 50) (by decide) (fun hc => ?_) (fun hc => ?_)
  · have h := h.1 hc
    refine lv_iconst (v := (1 : Int32)) hx hb d_M_isOdd_46 (by decide) ?_
    refine lv_goto hx hb d_M_isOdd_47 (tgt := 51) (by decide) ?_
    exact w_M_isOdd_51 hfl K x0 x1 x3 x5 (1 : Int32) M _ _ _ h (lv_sub hl [0, 1, 2, 3] rfl) hw
  · have h := h.2 hc
    refine lv_iconst (v := (0 : Int32)) hx hb d_M_isOdd_50 (by decide) ?_
    exact w_M_isOdd_51 hfl K x0 x1 x3 x5 (0 : Int32) M _ _ _ h (lv_sub hl [0, 1, 2, 3] rfl) hw
theorem w_M_isOdd_32 {post : Int32 → nf_M → Prop} (hfl : l.flags = flags0) (K : nf_K p s m args meth c "NumberForgeModel" nb_M_isOdd 8 (some FieldType.boolean) D a sz) : ∀ (x0 : Int32) (x1 : UInt64) (x3 : UInt64) (x5 : Int32) (xy0 : Int32) (M : nf_M) (H : Heap) (locs : List Loc) (ls : Array Slot), B_M_isOdd_32 post x0 x1 x3 x5 xy0 M → lv_has ls 8 [(0, .int x0), (1, .double x1), (3, .double x3), (5, .int x5)] → nf_W D a s sz H locs M → W p l e rm_M_isOdd s m args below meth c H locs 0 0 (nf_MQ below (nf_Q nf_jI D a post ex (nf_A a sz)) args s rm_M_isOdd.cells rm_M_isOdd.slots (nf_A a sz)) (F0 m 32 ls [.int xy0]) := by
  have hx := K.1
  have hb := K.2.1
  intro x0 x1 x3 x5 xy0 M H locs ls h hl hw
  refine lv_dload_n hx hb d_M_isOdd_32 rfl (lv_at hl 2 rfl) ?_
  refine lv_dconst0 hx hb d_M_isOdd_33 ?_
  refine nf_dl_le hx hb d_M_isOdd_34 d_M_isOdd_35 (tgt := 42) (by decide) (fun hc => ?_) (fun hc => ?_)
  · have h := h.1 hc
    refine lv_iconst (v := (1 : Int32)) hx hb d_M_isOdd_38 (by decide) ?_
    refine lv_goto hx hb d_M_isOdd_39 (tgt := 43) (by decide) ?_
    exact w_M_isOdd_43 hfl K x0 x1 x3 x5 (1 : Int32) xy0 M _ _ _ h (lv_sub hl [0, 1, 2, 3] rfl) hw
  · have h := h.2 hc
    refine lv_iconst (v := (0 : Int32)) hx hb d_M_isOdd_42 (by decide) ?_
    exact w_M_isOdd_43 hfl K x0 x1 x3 x5 (0 : Int32) xy0 M _ _ _ h (lv_sub hl [0, 1, 2, 3] rfl) hw
theorem w_M_isOdd_19 {post : Int32 → nf_M → Prop} (hfl : l.flags = flags0) (K : nf_K p s m args meth c "NumberForgeModel" nb_M_isOdd 8 (some FieldType.boolean) D a sz) : ∀ (x0 : Int32) (x1 : UInt64) (x3 : UInt64) (xy0 : Int32) (M : nf_M) (H : Heap) (locs : List Loc) (ls : Array Slot), B_M_isOdd_19 post x0 x1 x3 xy0 M → lv_has ls 8 [(0, .int x0), (1, .double x1), (3, .double x3)] → nf_W D a s sz H locs M → W p l e rm_M_isOdd s m args below meth c H locs 0 0 (nf_MQ below (nf_Q nf_jI D a post ex (nf_A a sz)) args s rm_M_isOdd.cells rm_M_isOdd.slots (nf_A a sz)) (F0 m 19 ls [.int xy0]) := by
  have hx := K.1
  have hb := K.2.1
  intro x0 x1 x3 xy0 M H locs ls h hl hw
  refine lv_istore (lv' := [(5, .int xy0), (0, .int x0), (1, .double x1), (3, .double x3)]) hx hb d_M_isOdd_19 hl (by decide) rfl (fun ls hl => ?_)
  refine lv_dload_n hx hb d_M_isOdd_21 rfl (lv_at hl 2 rfl) ?_
  refine lv_dconst0 hx hb d_M_isOdd_22 ?_
  refine nf_dl_le hx hb d_M_isOdd_23 d_M_isOdd_24 (tgt := 31) (by decide) (fun hc => ?_) (fun hc => ?_)
  · have h := h.1 hc
    refine lv_iconst (v := (1 : Int32)) hx hb d_M_isOdd_27 (by decide) ?_
    refine lv_goto hx hb d_M_isOdd_28 (tgt := 32) (by decide) ?_
    exact w_M_isOdd_32 hfl K x0 x1 x3 xy0 (1 : Int32) M _ _ _ h (lv_sub hl [1, 2, 3, 0] rfl) hw
  · have h := h.2 hc
    refine lv_iconst (v := (0 : Int32)) hx hb d_M_isOdd_31 (by decide) ?_
    exact w_M_isOdd_32 hfl K x0 x1 x3 xy0 (0 : Int32) M _ _ _ h (lv_sub hl [1, 2, 3, 0] rfl) hw
theorem w_M_isOdd_18 {post : Int32 → nf_M → Prop} (hfl : l.flags = flags0) (K : nf_K p s m args meth c "NumberForgeModel" nb_M_isOdd 8 (some FieldType.boolean) D a sz) : ∀ (x0 : Int32) (x1 : UInt64) (x3 : UInt64) (M : nf_M) (H : Heap) (locs : List Loc) (ls : Array Slot), B_M_isOdd_18 post x0 x1 x3 M → lv_has ls 8 [(0, .int x0), (1, .double x1), (3, .double x3)] → nf_W D a s sz H locs M → W p l e rm_M_isOdd s m args below meth c H locs 0 0 (nf_MQ below (nf_Q nf_jI D a post ex (nf_A a sz)) args s rm_M_isOdd.cells rm_M_isOdd.slots (nf_A a sz)) (F0 m 18 ls []) := by
  have hx := K.1
  have hb := K.2.1
  intro x0 x1 x3 M H locs ls h hl hw
  refine lv_iconst (v := (0 : Int32)) hx hb d_M_isOdd_18 (by decide) ?_
  exact w_M_isOdd_19 hfl K x0 x1 x3 (0 : Int32) M _ _ _ h (lv_sub hl [0, 1, 2] rfl) hw
theorem c_M_isOdd (l : Launch) (hfl : l.flags = flags0) (x0 : Int32) (x1 : UInt64) (x3 : UInt64) : nf_C nf_jI l nm_M_isOdd nb_M_isOdd 8 (some FieldType.boolean) rm_M_isOdd (fun a => [.int x0, .double x1, .double x3]) (fun M post ex => P_M_isOdd x0 x1 x3 M post) := by
  refine nf_start (plainFor_of_name (by decide +kernel)) (fun a => Nat.le_of_ble_eq_true rfl) ?_
  intro D a sz M post ex p e s m below meth c ls h K hl hw
  have hx := K.1
  have hb := K.2.1
  have hl : lv_has ls 8 [(0, .int x0), (1, .double x1), (3, .double x3)] := hl
  refine lv_dload_n hx hb d_M_isOdd_0 rfl (lv_at hl 1 rfl) ?_
  refine nf_callW (ex := (fun _ _ => False)) (As := [.double x1]) (st0 := [.double x1]) (rest := []) K hw (nf_invS hx hb K.2.2.2.1 (nf_Kg K nw_1097) (nf_Kg K nw_1098) (nf_Kg K nw_9) (nf_Kg K nw_1099) ⟨by decide, by decide⟩ rfl nl_M_isInfinite rfl d_M_isOdd_1) (c_M_isInfinite l hfl x1) nw_1099 nw_9 rfl ⟨by decide, by decide⟩ (Nat.le_of_ble_eq_true rfl) hl.1 ⟨Nat.le_of_ble_eq_true rfl, Nat.le_of_ble_eq_true rfl⟩ h (fun _ _ h => h.elim) (fun r1 M2 H locs h hw => ?_)
  refine W.eq (g2 := F0 m 4 ls [.int r1]) rfl ?_
  refine nf_if_eq hx hb d_M_isOdd_4 (tgt := 18) (by decide) (fun hc => ?_) (fun hc => ?_)
  · have h := h.1 hc
    exact w_M_isOdd_18 hfl K x0 x1 x3 M2 _ _ _ h (lv_sub hl [0, 1, 2] rfl) hw
  · have h := h.2 hc
    refine lv_dload_n hx hb d_M_isOdd_7 rfl (lv_at hl 2 rfl) ?_
    refine nf_callW (ex := (fun _ _ => False)) (As := [.double x3]) (st0 := [.double x3]) (rest := []) K hw (nf_invS hx hb K.2.2.2.1 (nf_Kg K nw_1097) (nf_Kg K nw_1098) (nf_Kg K nw_9) (nf_Kg K nw_1099) ⟨by decide, by decide⟩ rfl nl_M_isInfinite rfl d_M_isOdd_8) (c_M_isInfinite l hfl x3) nw_1099 nw_9 rfl ⟨by decide, by decide⟩ (Nat.le_of_ble_eq_true rfl) hl.1 ⟨Nat.le_of_ble_eq_true rfl, Nat.le_of_ble_eq_true rfl⟩ h (fun _ _ h => h.elim) (fun r3 M4 H locs h hw => ?_)
    refine W.eq (g2 := F0 m 11 ls [.int r3]) rfl ?_
    refine nf_if_eq hx hb d_M_isOdd_11 (tgt := 18) (by decide) (fun hc => ?_) (fun hc => ?_)
    · have h := h.1 hc
      exact w_M_isOdd_18 hfl K x0 x1 x3 M4 _ _ _ h (lv_sub hl [0, 1, 2] rfl) hw
    · have h := h.2 hc
      refine lv_iconst (v := (1 : Int32)) hx hb d_M_isOdd_14 (by decide) ?_
      refine lv_goto hx hb d_M_isOdd_15 (tgt := 19) (by decide) ?_
      exact w_M_isOdd_19 hfl K x0 x1 x3 (1 : Int32) M4 _ _ _ h (lv_sub hl [0, 1, 2] rfl) hw
theorem d_M_wholePart_0 : decode nb_M_wholePart 0 = .ok (.dload_n 1, 1) := by decide +kernel
theorem d_M_wholePart_1 : decode nb_M_wholePart 1 = .ok (.invokestatic 166, 3) := by decide +kernel
theorem d_M_wholePart_4 : decode nb_M_wholePart 4 = .ok (.ifCond .eq 11, 3) := by decide +kernel
theorem d_M_wholePart_7 : decode nb_M_wholePart 7 = .ok (.aload_n 0, 1) := by decide +kernel
theorem d_M_wholePart_8 : decode nb_M_wholePart 8 = .ok (.iconst 4, 1) := by decide +kernel
theorem d_M_wholePart_9 : decode nb_M_wholePart 9 = .ok (.putfield 67, 3) := by decide +kernel
theorem d_M_wholePart_12 : decode nb_M_wholePart 12 = .ok (.goto 38, 3) := by decide +kernel
theorem d_M_wholePart_15 : decode nb_M_wholePart 15 = .ok (.dload_n 1, 1) := by decide +kernel
theorem d_M_wholePart_16 : decode nb_M_wholePart 16 = .ok (.ldc2_w 170, 3) := by decide +kernel
theorem d_M_wholePart_19 : decode nb_M_wholePart 19 = .ok (.dcmp .l, 1) := by decide +kernel
theorem d_M_wholePart_20 : decode nb_M_wholePart 20 = .ok (.ifCond .ge 11, 3) := by decide +kernel
theorem d_M_wholePart_23 : decode nb_M_wholePart 23 = .ok (.dload_n 1, 1) := by decide +kernel
theorem d_M_wholePart_24 : decode nb_M_wholePart 24 = .ok (.ldc2_w 172, 3) := by decide +kernel
theorem d_M_wholePart_27 : decode nb_M_wholePart 27 = .ok (.dcmp .g, 1) := by decide +kernel
theorem d_M_wholePart_28 : decode nb_M_wholePart 28 = .ok (.ifCond .gt 11, 3) := by decide +kernel
theorem d_M_wholePart_31 : decode nb_M_wholePart 31 = .ok (.aload_n 0, 1) := by decide +kernel
theorem d_M_wholePart_32 : decode nb_M_wholePart 32 = .ok (.iconst 5, 1) := by decide +kernel
theorem d_M_wholePart_33 : decode nb_M_wholePart 33 = .ok (.putfield 67, 3) := by decide +kernel
theorem d_M_wholePart_36 : decode nb_M_wholePart 36 = .ok (.goto 14, 3) := by decide +kernel
theorem d_M_wholePart_39 : decode nb_M_wholePart 39 = .ok (.aload_n 0, 1) := by decide +kernel
theorem d_M_wholePart_40 : decode nb_M_wholePart 40 = .ok (.dload_n 1, 1) := by decide +kernel
theorem d_M_wholePart_41 : decode nb_M_wholePart 41 = .ok (.d2l, 1) := by decide +kernel
theorem d_M_wholePart_42 : decode nb_M_wholePart 42 = .ok (.putfield 74, 3) := by decide +kernel
theorem d_M_wholePart_45 : decode nb_M_wholePart 45 = .ok (.aload_n 0, 1) := by decide +kernel
theorem d_M_wholePart_46 : decode nb_M_wholePart 46 = .ok (.iconst 0, 1) := by decide +kernel
theorem d_M_wholePart_47 : decode nb_M_wholePart 47 = .ok (.putfield 78, 3) := by decide +kernel
theorem d_M_wholePart_50 : decode nb_M_wholePart 50 = .ok (.return_, 1) := by decide +kernel
abbrev rm_M_wholePart : Room := ({ frames := 1, cells := 0, slots := 0, locals := 21 })
theorem w_M_wholePart_50 {post : Unit → nf_M → Prop} (hfl : l.flags = flags0) (K : nf_K p s m args meth c "NumberForgeModel" nb_M_wholePart 3 none D a sz) : ∀ (M : nf_M) (H : Heap) (locs : List Loc) (ls : Array Slot), B_M_wholePart_50 post  M → lv_has ls 3 [] → nf_W D a s sz H locs M → W p l e rm_M_wholePart s m args below meth c H locs 0 0 (nf_MQ below (nf_Q nf_jN D a post ex (nf_A a sz)) args s rm_M_wholePart.cells rm_M_wholePart.slots (nf_A a sz)) (F0 m 50 ls []) := by
  have hx := K.1
  have hb := K.2.1
  intro  M H locs ls h hl hw
  exact nf_vret K hw d_M_wholePart_50 (Nat.le_of_ble_eq_true rfl) (Nat.le_of_ble_eq_true rfl) (r := ()) rfl h
theorem w_M_wholePart_31 {post : Unit → nf_M → Prop} (hfl : l.flags = flags0) (K : nf_K p s m args meth c "NumberForgeModel" nb_M_wholePart 3 none D a sz) : ∀ (M : nf_M) (H : Heap) (locs : List Loc) (ls : Array Slot), B_M_wholePart_31 post  M → lv_has ls 3 [(0, .ref (a 19))] → nf_W D a s sz H locs M → W p l e rm_M_wholePart s m args below meth c H locs 0 0 (nf_MQ below (nf_Q nf_jN D a post ex (nf_A a sz)) args s rm_M_wholePart.cells rm_M_wholePart.slots (nf_A a sz)) (F0 m 31 ls []) := by
  have hx := K.1
  have hb := K.2.1
  intro  M H locs ls h hl hw
  refine lv_aload_n hx hb d_M_wholePart_31 rfl (lv_at hl 0 rfl) ?_
  refine lv_iconst (v := (5 : Int32)) hx hb d_M_wholePart_32 (by decide) ?_
  refine nf_put (M' := ms_I M 19 9 (5 : Int32)) K hw 19 7 9 nw_940 rfl rfl rfl ni_M ny_M nq_M nn_M (by decide) rfl rfl rfl rfl (Nat.le_of_ble_eq_true rfl) d_M_wholePart_33 (fun H locs hw => ?_)
  obtain ⟨M1, eM1⟩ : ∃ z, z = ms_I M 19 9 (5 : Int32) := ⟨_, rfl⟩
  rw [← eM1] at hw
  have h := h M1 eM1
  refine lv_goto hx hb d_M_wholePart_36 (tgt := 50) (by decide) ?_
  exact w_M_wholePart_50 hfl K  M1 _ _ _ h (lv_sub hl [] rfl) hw
theorem c_M_wholePart (l : Launch) (hfl : l.flags = flags0) (x1 : UInt64) : nf_C nf_jN l nm_M_wholePart nb_M_wholePart 3 none rm_M_wholePart (fun a => [.ref (a 19), .double x1]) (fun M post ex => P_M_wholePart x1 M post) := by
  refine nf_start (plainFor_of_name (by decide +kernel)) (fun a => Nat.le_of_ble_eq_true rfl) ?_
  intro D a sz M post ex p e s m below meth c ls h K hl hw
  have hx := K.1
  have hb := K.2.1
  have hl : lv_has ls 3 [(0, .ref (a 19)), (1, .double x1)] := hl
  refine lv_dload_n hx hb d_M_wholePart_0 rfl (lv_at hl 1 rfl) ?_
  refine nf_callW (ex := (fun _ _ => False)) (As := [.double x1]) (st0 := [.double x1]) (rest := []) K hw (nf_invS hx hb K.2.2.2.1 (nf_Kg K nw_1097) (nf_Kg K nw_1098) (nf_Kg K nw_9) (nf_Kg K nw_1099) ⟨by decide, by decide⟩ rfl nl_M_isInfinite rfl d_M_wholePart_1) (c_M_isInfinite l hfl x1) nw_1099 nw_9 rfl ⟨by decide, by decide⟩ (Nat.le_of_ble_eq_true rfl) hl.1 ⟨Nat.le_of_ble_eq_true rfl, Nat.le_of_ble_eq_true rfl⟩ h (fun _ _ h => h.elim) (fun r1 M2 H locs h hw => ?_)
  refine W.eq (g2 := F0 m 4 ls [.int r1]) rfl ?_
  refine nf_if_eq hx hb d_M_wholePart_4 (tgt := 15) (by decide) (fun hc => ?_) (fun hc => ?_)
  · have h := h.1 hc
    refine lv_dload_n hx hb d_M_wholePart_15 rfl (lv_at hl 1 rfl) ?_
    refine lv_ldc2d (v := (4831355200913801216 : UInt64)) hx hb K.2.2.2.1 (nf_Kg K nw_1106) d_M_wholePart_16 ?_
    refine nf_dl_ge hx hb d_M_wholePart_19 d_M_wholePart_20 (tgt := 31) (by decide) (fun hc => ?_) (fun hc => ?_)
    · have h := h.1 hc
      exact w_M_wholePart_31 hfl K  M2 _ _ _ h (lv_sub hl [0] rfl) hw
    · have h := h.2 hc
      refine lv_dload_n hx hb d_M_wholePart_23 rfl (lv_at hl 1 rfl) ?_
      refine lv_ldc2d (v := (14054727237768577024 : UInt64)) hx hb K.2.2.2.1 (nf_Kg K nw_1107) d_M_wholePart_24 ?_
      refine nf_dg_gt hx hb d_M_wholePart_27 d_M_wholePart_28 (tgt := 39) (by decide) (fun hc => ?_) (fun hc => ?_)
      · have h := h.1 hc
        exact w_M_wholePart_31 hfl K  M2 _ _ _ h (lv_sub hl [0] rfl) hw
      · have h := h.2 hc
        refine lv_aload_n hx hb d_M_wholePart_39 rfl (lv_at hl 0 rfl) ?_
        refine lv_dload_n hx hb d_M_wholePart_40 rfl (lv_at hl 1 rfl) ?_
        refine lv_d2l hx hb d_M_wholePart_41 ?_
        refine lv_topl (fun t3 et3 => ?_)
        have h := h t3 et3
        refine nf_put (M' := ms_L M2 19 10 t3) K hw 19 7 10 nw_941 rfl rfl rfl ni_M ny_M nq_M nn_M (by decide) rfl rfl rfl rfl (Nat.le_of_ble_eq_true rfl) d_M_wholePart_42 (fun H locs hw => ?_)
        obtain ⟨M4, eM4⟩ : ∃ z, z = ms_L M2 19 10 t3 := ⟨_, rfl⟩
        rw [← eM4] at hw
        have h := h M4 eM4
        refine lv_aload_n hx hb d_M_wholePart_45 rfl (lv_at hl 0 rfl) ?_
        refine lv_iconst (v := (0 : Int32)) hx hb d_M_wholePart_46 (by decide) ?_
        refine nf_put (M' := ms_I M4 19 11 (0 : Int32)) K hw 19 7 11 nw_942 rfl rfl rfl ni_M ny_M nq_M nn_M (by decide) rfl rfl rfl rfl (Nat.le_of_ble_eq_true rfl) d_M_wholePart_47 (fun H locs hw => ?_)
        obtain ⟨M5, eM5⟩ : ∃ z, z = ms_I M4 19 11 (0 : Int32) := ⟨_, rfl⟩
        rw [← eM5] at hw
        have h := h M5 eM5
        exact w_M_wholePart_50 hfl K  M5 _ _ _ h (lv_sub hl [] rfl) hw
  · have h := h.2 hc
    refine lv_aload_n hx hb d_M_wholePart_7 rfl (lv_at hl 0 rfl) ?_
    refine lv_iconst (v := (4 : Int32)) hx hb d_M_wholePart_8 (by decide) ?_
    refine nf_put (M' := ms_I M2 19 9 (4 : Int32)) K hw 19 7 9 nw_940 rfl rfl rfl ni_M ny_M nq_M nn_M (by decide) rfl rfl rfl rfl (Nat.le_of_ble_eq_true rfl) d_M_wholePart_9 (fun H locs hw => ?_)
    obtain ⟨M6, eM6⟩ : ∃ z, z = ms_I M2 19 9 (4 : Int32) := ⟨_, rfl⟩
    rw [← eM6] at hw
    have h := h M6 eM6
    refine lv_goto hx hb d_M_wholePart_12 (tgt := 50) (by decide) ?_
    exact w_M_wholePart_50 hfl K  M6 _ _ _ h (lv_sub hl [] rfl) hw
theorem d_M_reckonDouble_0 : decode nb_M_reckonDouble 0 = .ok (.iload_n 1, 1) := by decide +kernel
theorem d_M_reckonDouble_1 : decode nb_M_reckonDouble 1 = .ok (.dload_n 2, 1) := by decide +kernel
theorem d_M_reckonDouble_2 : decode nb_M_reckonDouble 2 = .ok (.dload 4, 2) := by decide +kernel
theorem d_M_reckonDouble_4 : decode nb_M_reckonDouble 4 = .ok (.invokestatic 174, 3) := by decide +kernel
theorem d_M_reckonDouble_7 : decode nb_M_reckonDouble 7 = .ok (.ifCond .eq 11, 3) := by decide +kernel
theorem d_M_reckonDouble_10 : decode nb_M_reckonDouble 10 = .ok (.aload_n 0, 1) := by decide +kernel
theorem d_M_reckonDouble_11 : decode nb_M_reckonDouble 11 = .ok (.iconst 4, 1) := by decide +kernel
theorem d_M_reckonDouble_12 : decode nb_M_reckonDouble 12 = .ok (.putfield 67, 3) := by decide +kernel
theorem d_M_reckonDouble_15 : decode nb_M_reckonDouble 15 = .ok (.goto 74, 3) := by decide +kernel
theorem d_M_reckonDouble_18 : decode nb_M_reckonDouble 18 = .ok (.iload_n 1, 1) := by decide +kernel
theorem d_M_reckonDouble_19 : decode nb_M_reckonDouble 19 = .ok (.iconst 4, 1) := by decide +kernel
theorem d_M_reckonDouble_20 : decode nb_M_reckonDouble 20 = .ok (.if_icmp .ne 14, 3) := by decide +kernel
theorem d_M_reckonDouble_23 : decode nb_M_reckonDouble 23 = .ok (.aload_n 0, 1) := by decide +kernel
theorem d_M_reckonDouble_24 : decode nb_M_reckonDouble 24 = .ok (.dload_n 2, 1) := by decide +kernel
theorem d_M_reckonDouble_25 : decode nb_M_reckonDouble 25 = .ok (.dload 4, 2) := by decide +kernel
theorem d_M_reckonDouble_27 : decode nb_M_reckonDouble 27 = .ok (.ddiv, 1) := by decide +kernel
theorem d_M_reckonDouble_28 : decode nb_M_reckonDouble 28 = .ok (.invokevirtual 178, 3) := by decide +kernel
theorem d_M_reckonDouble_31 : decode nb_M_reckonDouble 31 = .ok (.goto 58, 3) := by decide +kernel
theorem d_M_reckonDouble_34 : decode nb_M_reckonDouble 34 = .ok (.aload_n 0, 1) := by decide +kernel
theorem d_M_reckonDouble_35 : decode nb_M_reckonDouble 35 = .ok (.iload_n 1, 1) := by decide +kernel
theorem d_M_reckonDouble_36 : decode nb_M_reckonDouble 36 = .ok (.ifCond .ne 10, 3) := by decide +kernel
theorem d_M_reckonDouble_39 : decode nb_M_reckonDouble 39 = .ok (.dload_n 2, 1) := by decide +kernel
theorem d_M_reckonDouble_40 : decode nb_M_reckonDouble 40 = .ok (.dload 4, 2) := by decide +kernel
theorem d_M_reckonDouble_42 : decode nb_M_reckonDouble 42 = .ok (.dadd, 1) := by decide +kernel
theorem d_M_reckonDouble_43 : decode nb_M_reckonDouble 43 = .ok (.goto 43, 3) := by decide +kernel
theorem d_M_reckonDouble_46 : decode nb_M_reckonDouble 46 = .ok (.iload_n 1, 1) := by decide +kernel
theorem d_M_reckonDouble_47 : decode nb_M_reckonDouble 47 = .ok (.iconst 1, 1) := by decide +kernel
theorem d_M_reckonDouble_48 : decode nb_M_reckonDouble 48 = .ok (.if_icmp .ne 10, 3) := by decide +kernel
theorem d_M_reckonDouble_51 : decode nb_M_reckonDouble 51 = .ok (.dload_n 2, 1) := by decide +kernel
theorem d_M_reckonDouble_52 : decode nb_M_reckonDouble 52 = .ok (.dload 4, 2) := by decide +kernel
theorem d_M_reckonDouble_54 : decode nb_M_reckonDouble 54 = .ok (.dsub, 1) := by decide +kernel
theorem d_M_reckonDouble_55 : decode nb_M_reckonDouble 55 = .ok (.goto 31, 3) := by decide +kernel
theorem d_M_reckonDouble_58 : decode nb_M_reckonDouble 58 = .ok (.iload_n 1, 1) := by decide +kernel
theorem d_M_reckonDouble_59 : decode nb_M_reckonDouble 59 = .ok (.iconst 2, 1) := by decide +kernel
theorem d_M_reckonDouble_60 : decode nb_M_reckonDouble 60 = .ok (.if_icmp .ne 10, 3) := by decide +kernel
theorem d_M_reckonDouble_63 : decode nb_M_reckonDouble 63 = .ok (.dload_n 2, 1) := by decide +kernel
theorem d_M_reckonDouble_64 : decode nb_M_reckonDouble 64 = .ok (.dload 4, 2) := by decide +kernel
theorem d_M_reckonDouble_66 : decode nb_M_reckonDouble 66 = .ok (.dmul, 1) := by decide +kernel
theorem d_M_reckonDouble_67 : decode nb_M_reckonDouble 67 = .ok (.goto 19, 3) := by decide +kernel
theorem d_M_reckonDouble_70 : decode nb_M_reckonDouble 70 = .ok (.iload_n 1, 1) := by decide +kernel
theorem d_M_reckonDouble_71 : decode nb_M_reckonDouble 71 = .ok (.iconst 3, 1) := by decide +kernel
theorem d_M_reckonDouble_72 : decode nb_M_reckonDouble 72 = .ok (.if_icmp .ne 10, 3) := by decide +kernel
theorem d_M_reckonDouble_75 : decode nb_M_reckonDouble 75 = .ok (.dload_n 2, 1) := by decide +kernel
theorem d_M_reckonDouble_76 : decode nb_M_reckonDouble 76 = .ok (.dload 4, 2) := by decide +kernel
theorem d_M_reckonDouble_78 : decode nb_M_reckonDouble 78 = .ok (.ddiv, 1) := by decide +kernel
theorem d_M_reckonDouble_79 : decode nb_M_reckonDouble 79 = .ok (.goto 7, 3) := by decide +kernel
theorem d_M_reckonDouble_82 : decode nb_M_reckonDouble 82 = .ok (.dload_n 2, 1) := by decide +kernel
theorem d_M_reckonDouble_83 : decode nb_M_reckonDouble 83 = .ok (.dload 4, 2) := by decide +kernel
theorem d_M_reckonDouble_85 : decode nb_M_reckonDouble 85 = .ok (.drem, 1) := by decide +kernel
theorem d_M_reckonDouble_86 : decode nb_M_reckonDouble 86 = .ok (.putfield 134, 3) := by decide +kernel
theorem d_M_reckonDouble_89 : decode nb_M_reckonDouble 89 = .ok (.return_, 1) := by decide +kernel
abbrev rm_M_reckonDouble : Room := ({ frames := 2, cells := 0, slots := 0, locals := 48 })
theorem w_M_reckonDouble_89 {post : Unit → nf_M → Prop} (hfl : l.flags = flags0) (K : nf_K p s m args meth c "NumberForgeModel" nb_M_reckonDouble 6 none D a sz) : ∀ (M : nf_M) (H : Heap) (locs : List Loc) (ls : Array Slot), B_M_reckonDouble_89 post  M → lv_has ls 6 [] → nf_W D a s sz H locs M → W p l e rm_M_reckonDouble s m args below meth c H locs 0 0 (nf_MQ below (nf_Q nf_jN D a post ex (nf_A a sz)) args s rm_M_reckonDouble.cells rm_M_reckonDouble.slots (nf_A a sz)) (F0 m 89 ls []) := by
  have hx := K.1
  have hb := K.2.1
  intro  M H locs ls h hl hw
  exact nf_vret K hw d_M_reckonDouble_89 (Nat.le_of_ble_eq_true rfl) (Nat.le_of_ble_eq_true rfl) (r := ()) rfl h
theorem w_M_reckonDouble_86 {post : Unit → nf_M → Prop} (hfl : l.flags = flags0) (K : nf_K p s m args meth c "NumberForgeModel" nb_M_reckonDouble 6 none D a sz) : ∀ (xy0 : UInt64) (M : nf_M) (H : Heap) (locs : List Loc) (ls : Array Slot), B_M_reckonDouble_86 post xy0 M → lv_has ls 6 [] → nf_W D a s sz H locs M → W p l e rm_M_reckonDouble s m args below meth c H locs 0 0 (nf_MQ below (nf_Q nf_jN D a post ex (nf_A a sz)) args s rm_M_reckonDouble.cells rm_M_reckonDouble.slots (nf_A a sz)) (F0 m 86 ls [.double xy0, .ref (a 19)]) := by
  have hx := K.1
  have hb := K.2.1
  intro xy0 M H locs ls h hl hw
  refine nf_put (M' := ms_D M 19 12 xy0) K hw 19 7 12 nw_943 rfl rfl rfl ni_M ny_M nq_M nn_M (by decide) rfl rfl rfl rfl (Nat.le_of_ble_eq_true rfl) d_M_reckonDouble_86 (fun H locs hw => ?_)
  obtain ⟨M1, eM1⟩ : ∃ z, z = ms_D M 19 12 xy0 := ⟨_, rfl⟩
  rw [← eM1] at hw
  have h := h M1 eM1
  exact w_M_reckonDouble_89 hfl K  M1 _ _ _ h (lv_sub hl [] rfl) hw
theorem c_M_reckonDouble (l : Launch) (hfl : l.flags = flags0) (x1 : Int32) (x2 : UInt64) (x4 : UInt64) : nf_C nf_jN l nm_M_reckonDouble nb_M_reckonDouble 6 none rm_M_reckonDouble (fun a => [.ref (a 19), .int x1, .double x2, .double x4]) (fun M post ex => P_M_reckonDouble x1 x2 x4 M post) := by
  refine nf_start (plainFor_of_name (by decide +kernel)) (fun a => Nat.le_of_ble_eq_true rfl) ?_
  intro D a sz M post ex p e s m below meth c ls h K hl hw
  have hx := K.1
  have hb := K.2.1
  have hl : lv_has ls 6 [(0, .ref (a 19)), (1, .int x1), (2, .double x2), (4, .double x4)] := hl
  refine lv_iload_n hx hb d_M_reckonDouble_0 rfl (lv_at hl 1 rfl) ?_
  refine lv_dload_n hx hb d_M_reckonDouble_1 rfl (lv_at hl 2 rfl) ?_
  refine lv_dload hx hb d_M_reckonDouble_2 (lv_at hl 3 rfl) ?_
  refine nf_callW (ex := (fun _ _ => False)) (As := [.int x1, .double x2, .double x4]) (st0 := [.double x4, .double x2, .int x1]) (rest := []) K hw (nf_invS hx hb K.2.2.2.1 (nf_Kg K nw_1094) (nf_Kg K nw_1095) (nf_Kg K nw_9) (nf_Kg K nw_1096) ⟨by decide, by decide⟩ rfl nl_M_isOdd rfl d_M_reckonDouble_4) (c_M_isOdd l hfl x1 x2 x4) nw_1096 nw_9 rfl ⟨by decide, by decide⟩ (Nat.le_of_ble_eq_true rfl) hl.1 ⟨Nat.le_of_ble_eq_true rfl, Nat.le_of_ble_eq_true rfl⟩ h (fun _ _ h => h.elim) (fun r1 M2 H locs h hw => ?_)
  refine W.eq (g2 := F0 m 7 ls [.int r1]) rfl ?_
  refine nf_if_eq hx hb d_M_reckonDouble_7 (tgt := 18) (by decide) (fun hc => ?_) (fun hc => ?_)
  · have h := h.1 hc
    refine lv_iload_n hx hb d_M_reckonDouble_18 rfl (lv_at hl 1 rfl) ?_
    refine lv_iconst (v := (4 : Int32)) hx hb d_M_reckonDouble_19 (by decide) ?_
    refine nf_ic_ne hx hb d_M_reckonDouble_20 (tgt := 34) (by decide) (fun hc => ?_) (fun hc => ?_)
    · have h := h.1 hc
      refine lv_aload_n hx hb d_M_reckonDouble_23 rfl (lv_at hl 0 rfl) ?_
      refine lv_dload_n hx hb d_M_reckonDouble_24 rfl (lv_at hl 2 rfl) ?_
      refine lv_dload hx hb d_M_reckonDouble_25 (lv_at hl 3 rfl) ?_
      obtain ⟨g3, h⟩ := h
      refine lv_ddiv hx hb d_M_reckonDouble_27 g3 ?_
      refine nf_callW (ex := (fun _ _ => False)) (As := [.ref (a 19), .double (FP.ddiv x2 x4)]) (st0 := [.double (FP.ddiv x2 x4), .ref (a 19)]) (rest := []) K hw (nf_invV hx hb K.2.2.2.1 (nf_Kg K nw_1102) (nf_Kg K nw_1104) (nf_Kg K nx_M_wholePart) (nf_Kg K nw_1105) ⟨by decide, by decide⟩ (nf_rcv K hw 19 7 rfl rfl) rfl nl_M_wholePart rfl d_M_reckonDouble_28) (c_M_wholePart l hfl (FP.ddiv x2 x4)) nw_1105 nw_9 rfl ⟨by decide, by decide⟩ (Nat.le_of_ble_eq_true rfl) hl.1 ⟨Nat.le_of_ble_eq_true rfl, Nat.le_of_ble_eq_true rfl⟩ h (fun _ _ h => h.elim) (fun r4 M5 H locs h hw => ?_)
      refine W.eq (g2 := F0 m 31 ls []) rfl ?_
      refine lv_goto hx hb d_M_reckonDouble_31 (tgt := 89) (by decide) ?_
      exact w_M_reckonDouble_89 hfl K  M5 _ _ _ h (lv_sub hl [] rfl) hw
    · have h := h.2 hc
      refine lv_aload_n hx hb d_M_reckonDouble_34 rfl (lv_at hl 0 rfl) ?_
      refine lv_iload_n hx hb d_M_reckonDouble_35 rfl (lv_at hl 1 rfl) ?_
      refine nf_if_ne hx hb d_M_reckonDouble_36 (tgt := 46) (by decide) (fun hc => ?_) (fun hc => ?_)
      · have h := h.1 hc
        refine lv_dload_n hx hb d_M_reckonDouble_39 rfl (lv_at hl 2 rfl) ?_
        refine lv_dload hx hb d_M_reckonDouble_40 (lv_at hl 3 rfl) ?_
        obtain ⟨g6, h⟩ := h
        refine lv_dadd hx hb d_M_reckonDouble_42 g6 ?_
        refine lv_goto hx hb d_M_reckonDouble_43 (tgt := 86) (by decide) ?_
        exact w_M_reckonDouble_86 hfl K (FP.dadd x2 x4) M2 _ _ _ h (lv_sub hl [] rfl) hw
      · have h := h.2 hc
        refine lv_iload_n hx hb d_M_reckonDouble_46 rfl (lv_at hl 1 rfl) ?_
        refine lv_iconst (v := (1 : Int32)) hx hb d_M_reckonDouble_47 (by decide) ?_
        refine nf_ic_ne hx hb d_M_reckonDouble_48 (tgt := 58) (by decide) (fun hc => ?_) (fun hc => ?_)
        · have h := h.1 hc
          refine lv_dload_n hx hb d_M_reckonDouble_51 rfl (lv_at hl 2 rfl) ?_
          refine lv_dload hx hb d_M_reckonDouble_52 (lv_at hl 3 rfl) ?_
          obtain ⟨g7, h⟩ := h
          refine lv_dsub hx hb d_M_reckonDouble_54 g7 ?_
          refine lv_goto hx hb d_M_reckonDouble_55 (tgt := 86) (by decide) ?_
          exact w_M_reckonDouble_86 hfl K (FP.dsub x2 x4) M2 _ _ _ h (lv_sub hl [] rfl) hw
        · have h := h.2 hc
          refine lv_iload_n hx hb d_M_reckonDouble_58 rfl (lv_at hl 1 rfl) ?_
          refine lv_iconst (v := (2 : Int32)) hx hb d_M_reckonDouble_59 (by decide) ?_
          refine nf_ic_ne hx hb d_M_reckonDouble_60 (tgt := 70) (by decide) (fun hc => ?_) (fun hc => ?_)
          · have h := h.1 hc
            refine lv_dload_n hx hb d_M_reckonDouble_63 rfl (lv_at hl 2 rfl) ?_
            refine lv_dload hx hb d_M_reckonDouble_64 (lv_at hl 3 rfl) ?_
            obtain ⟨g8, h⟩ := h
            refine lv_dmul hx hb d_M_reckonDouble_66 g8 ?_
            refine lv_goto hx hb d_M_reckonDouble_67 (tgt := 86) (by decide) ?_
            exact w_M_reckonDouble_86 hfl K (FP.dmul x2 x4) M2 _ _ _ h (lv_sub hl [] rfl) hw
          · have h := h.2 hc
            refine lv_iload_n hx hb d_M_reckonDouble_70 rfl (lv_at hl 1 rfl) ?_
            refine lv_iconst (v := (3 : Int32)) hx hb d_M_reckonDouble_71 (by decide) ?_
            refine nf_ic_ne hx hb d_M_reckonDouble_72 (tgt := 82) (by decide) (fun hc => ?_) (fun hc => ?_)
            · have h := h.1 hc
              refine lv_dload_n hx hb d_M_reckonDouble_75 rfl (lv_at hl 2 rfl) ?_
              refine lv_dload hx hb d_M_reckonDouble_76 (lv_at hl 3 rfl) ?_
              obtain ⟨g9, h⟩ := h
              refine lv_ddiv hx hb d_M_reckonDouble_78 g9 ?_
              refine lv_goto hx hb d_M_reckonDouble_79 (tgt := 86) (by decide) ?_
              exact w_M_reckonDouble_86 hfl K (FP.ddiv x2 x4) M2 _ _ _ h (lv_sub hl [] rfl) hw
            · have h := h.2 hc
              refine lv_dload_n hx hb d_M_reckonDouble_82 rfl (lv_at hl 2 rfl) ?_
              refine lv_dload hx hb d_M_reckonDouble_83 (lv_at hl 3 rfl) ?_
              obtain ⟨g10, h⟩ := h
              refine lv_drem hx hb d_M_reckonDouble_85 g10 ?_
              exact w_M_reckonDouble_86 hfl K (FP.drem x2 x4) M2 _ _ _ h (lv_sub hl [] rfl) hw
  · have h := h.2 hc
    refine lv_aload_n hx hb d_M_reckonDouble_10 rfl (lv_at hl 0 rfl) ?_
    refine lv_iconst (v := (4 : Int32)) hx hb d_M_reckonDouble_11 (by decide) ?_
    refine nf_put (M' := ms_I M2 19 9 (4 : Int32)) K hw 19 7 9 nw_940 rfl rfl rfl ni_M ny_M nq_M nn_M (by decide) rfl rfl rfl rfl (Nat.le_of_ble_eq_true rfl) d_M_reckonDouble_12 (fun H locs hw => ?_)
    obtain ⟨M11, eM11⟩ : ∃ z, z = ms_I M2 19 9 (4 : Int32) := ⟨_, rfl⟩
    rw [← eM11] at hw
    have h := h M11 eM11
    refine lv_goto hx hb d_M_reckonDouble_15 (tgt := 89) (by decide) ?_
    exact w_M_reckonDouble_89 hfl K  M11 _ _ _ h (lv_sub hl [] rfl) hw
end NW6
