/-! a text's length and chars -/
section NFT
variable {p : Program} {l : Launch} {e : Env} {s : State} {m : MethodId} {args : Array Value} {below : List Frame} {meth : Method} {c : Code} {D : va_G} {a : Nat → Nat} {sz : Nat} {ex : Nat → nf_M → Prop}
theorem d_JS_length_0 : decode nb_JS_length 0 = .ok (.aload_n 0, 1) := by decide +kernel
theorem d_JS_length_1 : decode nb_JS_length 1 = .ok (.getfield 9, 3) := by decide +kernel
theorem d_JS_length_4 : decode nb_JS_length 4 = .ok (.arraylength, 1) := by decide +kernel
theorem d_JS_length_5 : decode nb_JS_length 5 = .ok (.aload_n 0, 1) := by decide +kernel
theorem d_JS_length_6 : decode nb_JS_length 6 = .ok (.invokevirtual 335, 3) := by decide +kernel
theorem d_JS_length_9 : decode nb_JS_length 9 = .ok (.ishr, 1) := by decide +kernel
theorem d_JS_length_10 : decode nb_JS_length 10 = .ok (.ireturn, 1) := by decide +kernel
theorem d_JS_coder_0 : decode nb_JS_coder 0 = .ok (.getstatic 38, 3) := by decide +kernel
theorem d_JS_coder_3 : decode nb_JS_coder 3 = .ok (.ifCond .eq 10, 3) := by decide +kernel
theorem d_JS_coder_6 : decode nb_JS_coder 6 = .ok (.aload_n 0, 1) := by decide +kernel
theorem d_JS_coder_7 : decode nb_JS_coder 7 = .ok (.getfield 15, 3) := by decide +kernel
theorem d_JS_coder_10 : decode nb_JS_coder 10 = .ok (.goto 4, 3) := by decide +kernel
theorem d_JS_coder_14 : decode nb_JS_coder 14 = .ok (.ireturn, 1) := by decide +kernel
theorem d_JS_charAt_0 : decode nb_JS_charAt 0 = .ok (.aload_n 0, 1) := by decide +kernel
theorem d_JS_charAt_1 : decode nb_JS_charAt 1 = .ok (.invokevirtual 492, 3) := by decide +kernel
theorem d_JS_charAt_4 : decode nb_JS_charAt 4 = .ok (.ifCond .eq 12, 3) := by decide +kernel
theorem d_JS_charAt_7 : decode nb_JS_charAt 7 = .ok (.aload_n 0, 1) := by decide +kernel
theorem d_JS_charAt_8 : decode nb_JS_charAt 8 = .ok (.getfield 9, 3) := by decide +kernel
theorem d_JS_charAt_11 : decode nb_JS_charAt 11 = .ok (.iload_n 1, 1) := by decide +kernel
theorem d_JS_charAt_12 : decode nb_JS_charAt 12 = .ok (.invokestatic 495, 3) := by decide +kernel
theorem d_JS_charAt_15 : decode nb_JS_charAt 15 = .ok (.ireturn, 1) := by decide +kernel
theorem d_JS_isLatin1_0 : decode nb_JS_isLatin1 0 = .ok (.getstatic 38, 3) := by decide +kernel
theorem d_JS_isLatin1_3 : decode nb_JS_isLatin1 3 = .ok (.ifCond .eq 14, 3) := by decide +kernel
theorem d_JS_isLatin1_6 : decode nb_JS_isLatin1 6 = .ok (.aload_n 0, 1) := by decide +kernel
theorem d_JS_isLatin1_7 : decode nb_JS_isLatin1 7 = .ok (.getfield 15, 3) := by decide +kernel
theorem d_JS_isLatin1_10 : decode nb_JS_isLatin1 10 = .ok (.ifCond .ne 7, 3) := by decide +kernel
theorem d_JS_isLatin1_13 : decode nb_JS_isLatin1 13 = .ok (.iconst 1, 1) := by decide +kernel
theorem d_JS_isLatin1_14 : decode nb_JS_isLatin1 14 = .ok (.goto 4, 3) := by decide +kernel
theorem d_JS_isLatin1_18 : decode nb_JS_isLatin1 18 = .ok (.ireturn, 1) := by decide +kernel
theorem d_JA_charAt_0 : decode nb_JA_charAt 0 = .ok (.iload_n 1, 1) := by decide +kernel
theorem d_JA_charAt_1 : decode nb_JA_charAt 1 = .ok (.aload_n 0, 1) := by decide +kernel
theorem d_JA_charAt_2 : decode nb_JA_charAt 2 = .ok (.arraylength, 1) := by decide +kernel
theorem d_JA_charAt_3 : decode nb_JA_charAt 3 = .ok (.invokestatic 9, 3) := by decide +kernel
theorem d_JA_charAt_6 : decode nb_JA_charAt 6 = .ok (.aload_n 0, 1) := by decide +kernel
theorem d_JA_charAt_7 : decode nb_JA_charAt 7 = .ok (.iload_n 1, 1) := by decide +kernel
theorem d_JA_charAt_8 : decode nb_JA_charAt 8 = .ok (.baload, 1) := by decide +kernel
theorem d_JA_charAt_9 : decode nb_JA_charAt 9 = .ok (.sipush 255, 3) := by decide +kernel
theorem d_JA_charAt_12 : decode nb_JA_charAt 12 = .ok (.iand, 1) := by decide +kernel
theorem d_JA_charAt_13 : decode nb_JA_charAt 13 = .ok (.i2c, 1) := by decide +kernel
theorem d_JA_charAt_14 : decode nb_JA_charAt 14 = .ok (.ireturn, 1) := by decide +kernel
theorem d_JS_checkIndex_0 : decode nb_JS_checkIndex 0 = .ok (.iload_n 0, 1) := by decide +kernel
theorem d_JS_checkIndex_1 : decode nb_JS_checkIndex 1 = .ok (.iload_n 1, 1) := by decide +kernel
theorem d_JS_checkIndex_2 : decode nb_JS_checkIndex 2 = .ok (.getstatic 1053, 3) := by decide +kernel
theorem d_JS_checkIndex_5 : decode nb_JS_checkIndex 5 = .ok (.invokestatic 1059, 3) := by decide +kernel
theorem d_JS_checkIndex_8 : decode nb_JS_checkIndex 8 = .ok (.pop, 1) := by decide +kernel
theorem d_JS_checkIndex_9 : decode nb_JS_checkIndex 9 = .ok (.return_, 1) := by decide +kernel
theorem d_JP_checkIndex_0 : decode nb_JP_checkIndex 0 = .ok (.iload_n 0, 1) := by decide +kernel
theorem d_JP_checkIndex_1 : decode nb_JP_checkIndex 1 = .ok (.ifCond .lt 8, 3) := by decide +kernel
theorem d_JP_checkIndex_4 : decode nb_JP_checkIndex 4 = .ok (.iload_n 0, 1) := by decide +kernel
theorem d_JP_checkIndex_5 : decode nb_JP_checkIndex 5 = .ok (.iload_n 1, 1) := by decide +kernel
theorem d_JP_checkIndex_6 : decode nb_JP_checkIndex 6 = .ok (.if_icmp .lt 10, 3) := by decide +kernel
theorem d_JP_checkIndex_16 : decode nb_JP_checkIndex 16 = .ok (.iload_n 0, 1) := by decide +kernel
theorem d_JP_checkIndex_17 : decode nb_JP_checkIndex 17 = .ok (.ireturn, 1) := by decide +kernel
abbrev rm_JS_length : Room := ({ frames := 1, cells := 0, slots := 0, locals := 60 })
abbrev rm_JS_coder : Room := ({ frames := 0, cells := 0, slots := 0, locals := 0 })
abbrev rm_JS_charAt : Room := ({ frames := 4, cells := 0, slots := 0, locals := 140 })
abbrev rm_JS_isLatin1 : Room := ({ frames := 0, cells := 0, slots := 0, locals := 0 })
abbrev rm_JA_charAt : Room := ({ frames := 3, cells := 0, slots := 0, locals := 110 })
abbrev rm_JS_checkIndex : Room := ({ frames := 1, cells := 0, slots := 0, locals := 60 })
abbrev rm_JP_checkIndex : Room := ({ frames := 0, cells := 0, slots := 0, locals := 0 })
theorem nl_JP_checkIndex : (parseMethodDescriptor nm_JP_checkIndex.desc).map (fun d => d.parameters.length) = some 3 := by decide +kernel
theorem nf_tx_len : ∀ q, q < 5 → nf_lln.getD q 0 < 128 := by decide +kernel
theorem nf_tx_ch : ∀ q, q < 5 → ∀ k, k < nf_lln.getD q 0 → (((nf_ltx.getD q []).getD k 0 &&& 255).toUInt32 % 65536).toInt32 = nf_ch q k ∧ narrow .char (.int (nf_ch q k)) = .int (nf_ch q k) := by decide +kernel
theorem nf_stS {own : String} {cc : ByteArray} {nL : Nat} {ret : Option FieldType} (K : nf_K p s m args meth c own cc nL ret D a sz) (q : Fin 5) : va_OF "java/lang/String" "coder" "B" (.int 0) (a (100 + q.val)) (nf_A a sz) s s.heap ∧ va_OF "java/lang/String" "value" "[B" (.ref (a (130 + q.val))) (a (100 + q.val)) (nf_A a sz) s s.heap ∧ va_T .byte (a (130 + q.val)) (nf_lln.getD q.val 0) (fun j => .int ((nf_ltx.getD q.val []).getD j 0)) (nf_A a sz) s s.heap := ((nf_st0 K).2.2.2.2.2.2.2.2.2.2.1.1 q.val q.isLt).2
theorem c_JS_coder (l : Launch) (hfl : l.flags = flags0) (q0 : Fin 5) : nf_C nf_jI l nm_JS_coder nb_JS_coder 1 (some .byte) rm_JS_coder (fun a => [.ref (a (100 + q0.val))]) (fun M post ex => post (0 : Int32) M) := by
  refine nf_start (plainFor_of_name (by decide +kernel)) (fun a => Nat.le_of_ble_eq_true rfl) ?_
  intro D a sz M post ex p e s m below meth c ls h K hl hw
  have hx := K.1
  have hb := K.2.1
  have hl : lv_has ls 1 [(0, .ref (a (100 + q0.val)))] := hl
  refine nf_gets K hw (nf_st0 K).2.2.2.2.2.2.2.2.2.2.2.1 nw_743 d_JS_coder_0 ?_
  refine nf_if_eq hx hb d_JS_coder_3 (tgt := 13) (by decide) (fun hc => absurd hc (by decide)) (fun hc => ?_)
  refine lv_aload_n hx hb d_JS_coder_6 rfl (lv_at hl 0 rfl) ?_
  refine vk_getf hx hb (nf_stS K q0).1 hw.2.2 K.2.2.2.1 (nf_Kg K nw_1284) (fun _ h => h) d_JS_coder_7 ?_
  refine lv_goto hx hb d_JS_coder_10 (tgt := 14) (by decide) ?_
  exact nf_iret K hw d_JS_coder_14 rfl (Nat.le_of_ble_eq_true rfl) (Nat.le_of_ble_eq_true rfl) (r := (0 : Int32)) rfl h
theorem c_JS_isLatin1 (l : Launch) (hfl : l.flags = flags0) (q0 : Fin 5) : nf_C nf_jI l nm_JS_isLatin1 nb_JS_isLatin1 1 (some .boolean) rm_JS_isLatin1 (fun a => [.ref (a (100 + q0.val))]) (fun M post ex => post (1 : Int32) M) := by
  refine nf_start (plainFor_of_name (by decide +kernel)) (fun a => Nat.le_of_ble_eq_true rfl) ?_
  intro D a sz M post ex p e s m below meth c ls h K hl hw
  have hx := K.1
  have hb := K.2.1
  have hl : lv_has ls 1 [(0, .ref (a (100 + q0.val)))] := hl
  refine nf_gets K hw (nf_st0 K).2.2.2.2.2.2.2.2.2.2.2.1 nw_743 d_JS_isLatin1_0 ?_
  refine nf_if_eq hx hb d_JS_isLatin1_3 (tgt := 17) (by decide) (fun hc => absurd hc (by decide)) (fun hc => ?_)
  refine lv_aload_n hx hb d_JS_isLatin1_6 rfl (lv_at hl 0 rfl) ?_
  refine vk_getf hx hb (nf_stS K q0).1 hw.2.2 K.2.2.2.1 (nf_Kg K nw_1284) (fun _ h => h) d_JS_isLatin1_7 ?_
  refine nf_if_ne hx hb d_JS_isLatin1_10 (tgt := 17) (by decide) (fun hc => ?_) (fun hc => absurd rfl hc)
  refine lv_iconst (v := (1 : Int32)) hx hb d_JS_isLatin1_13 (by decide) ?_
  refine lv_goto hx hb d_JS_isLatin1_14 (tgt := 18) (by decide) ?_
  exact nf_iret K hw d_JS_isLatin1_18 rfl (Nat.le_of_ble_eq_true rfl) (Nat.le_of_ble_eq_true rfl) (r := (1 : Int32)) rfl h
theorem c_JS_length (l : Launch) (hfl : l.flags = flags0) (q0 : Fin 5) : nf_C nf_jI l nm_JS_length nb_JS_length 1 (some .int) rm_JS_length (fun a => [.ref (a (100 + q0.val))]) (fun M post ex => P_JS_length q0 M post) := by
  refine nf_start (plainFor_of_name (by decide +kernel)) (fun a => Nat.le_of_ble_eq_true rfl) ?_
  intro D a sz M post ex p e s m below meth c ls h K hl hw
  have hx := K.1
  have hb := K.2.1
  have hl : lv_has ls 1 [(0, .ref (a (100 + q0.val)))] := hl
  refine lv_aload_n hx hb d_JS_length_0 rfl (lv_at hl 0 rfl) ?_
  refine vk_getf hx hb (nf_stS K q0).2.1 hw.2.2 K.2.2.2.1 (nf_Kg K nw_1283) (fun _ h => h) d_JS_length_1 ?_
  refine va_tlen hx hb (nf_stS K q0).2.2 hw.2.2 (v := nI (nf_lln.getD q0.val 0)) rfl d_JS_length_4 ?_
  refine lv_aload_n hx hb d_JS_length_5 rfl (lv_at hl 0 rfl) ?_
  refine nf_callW (P := fun M post _ => post (0 : Int32) M) (post := fun r1 M1 => r1 = 0 ∧ M1 = M) (ex := (fun _ _ => False)) (As := [.ref (a (100 + q0.val))]) (st0 := [.ref (a (100 + q0.val)), .int (nI (nf_lln.getD q0.val 0))]) (rest := [.int (nI (nf_lln.getD q0.val 0))]) K hw (nf_invV hx hb K.2.2.2.1 (nf_Kg K nw_739) (nf_Kg K nw_740) (nf_Kg K nw_741) (nf_Kg K nw_742) ⟨by decide, by decide⟩ (nf_rcvS K hw q0) rfl nl_JS_coder rfl d_JS_length_6) (c_JS_coder l hfl q0) nw_742 nw_19 rfl ⟨by decide, by decide⟩ (Nat.le_of_ble_eq_true rfl) hl.1 ⟨Nat.le_of_ble_eq_true rfl, Nat.le_of_ble_eq_true rfl⟩ ⟨rfl, rfl⟩ (fun _ _ h => h.elim) (fun r1 M2 H locs hp hww => ?_)
  obtain ⟨rfl, rfl⟩ := hp
  have hw := hww
  refine W.eq (g2 := F0 m 9 ls [.int 0, .int (nI (nf_lln.getD q0.val 0))]) rfl ?_
  refine lv_ishr hx hb d_JS_length_9 ?_
  exact nf_iret K hw d_JS_length_10 rfl (Nat.le_of_ble_eq_true rfl) (Nat.le_of_ble_eq_true rfl) (r := nI (nf_lln.getD q0.val 0)) (by rw [sb_shr0]; rfl) h
theorem c_JP_checkIndex_n (l : Launch) (hfl : l.flags = flags0) (x0 x1 : Int32) : nf_C nf_jI l nm_JP_checkIndex nb_JP_checkIndex 3 (some .int) rm_JP_checkIndex (fun a => [.int x0, .int x1, .null]) (fun M post ex => (¬ x0 < 0 ∧ x0 < x1 ∧ post x0 M)) := by
  refine nf_start (plainFor_of_name (by decide +kernel)) (fun a => Nat.le_of_ble_eq_true rfl) ?_
  intro D a sz M post ex p e s m below meth c ls h K hl hw
  have hx := K.1
  have hb := K.2.1
  have hl : lv_has ls 3 [(0, .int x0), (1, .int x1), (2, .null)] := hl
  obtain ⟨h1, h2, h⟩ := h
  refine lv_iload_n hx hb d_JP_checkIndex_0 rfl (lv_at hl 0 rfl) ?_
  refine nf_if_lt hx hb d_JP_checkIndex_1 (tgt := 9) (by decide) (fun hc => absurd hc h1) (fun hc => ?_)
  refine lv_iload_n hx hb d_JP_checkIndex_4 rfl (lv_at hl 0 rfl) ?_
  refine lv_iload_n hx hb d_JP_checkIndex_5 rfl (lv_at hl 1 rfl) ?_
  refine nf_ic_lt hx hb d_JP_checkIndex_6 (tgt := 16) (by decide) (fun hc => ?_) (fun hc => absurd h2 hc)
  refine lv_iload_n hx hb d_JP_checkIndex_16 rfl (lv_at hl 0 rfl) ?_
  exact nf_iret K hw d_JP_checkIndex_17 rfl (Nat.le_of_ble_eq_true rfl) (Nat.le_of_ble_eq_true rfl) (r := x0) rfl h
theorem c_JP_checkIndex_r (l : Launch) (hfl : l.flags = flags0) (x0 x1 : Int32) (t2 : Nat) : nf_C nf_jI l nm_JP_checkIndex nb_JP_checkIndex 3 (some .int) rm_JP_checkIndex (fun a => [.int x0, .int x1, .ref t2]) (fun M post ex => (¬ x0 < 0 ∧ x0 < x1 ∧ post x0 M)) := by
  refine nf_start (plainFor_of_name (by decide +kernel)) (fun a => Nat.le_of_ble_eq_true rfl) ?_
  intro D a sz M post ex p e s m below meth c ls h K hl hw
  have hx := K.1
  have hb := K.2.1
  have hl : lv_has ls 3 [(0, .int x0), (1, .int x1), (2, .ref t2)] := hl
  obtain ⟨h1, h2, h⟩ := h
  refine lv_iload_n hx hb d_JP_checkIndex_0 rfl (lv_at hl 0 rfl) ?_
  refine nf_if_lt hx hb d_JP_checkIndex_1 (tgt := 9) (by decide) (fun hc => absurd hc h1) (fun hc => ?_)
  refine lv_iload_n hx hb d_JP_checkIndex_4 rfl (lv_at hl 0 rfl) ?_
  refine lv_iload_n hx hb d_JP_checkIndex_5 rfl (lv_at hl 1 rfl) ?_
  refine nf_ic_lt hx hb d_JP_checkIndex_6 (tgt := 16) (by decide) (fun hc => ?_) (fun hc => absurd h2 hc)
  refine lv_iload_n hx hb d_JP_checkIndex_16 rfl (lv_at hl 0 rfl) ?_
  exact nf_iret K hw d_JP_checkIndex_17 rfl (Nat.le_of_ble_eq_true rfl) (Nat.le_of_ble_eq_true rfl) (r := x0) rfl h
theorem c_JS_checkIndex (l : Launch) (hfl : l.flags = flags0) (x0 x1 : Int32) : nf_C nf_jN l nm_JS_checkIndex nb_JS_checkIndex 2 none rm_JS_checkIndex (fun a => [.int x0, .int x1]) (fun M post ex => (¬ x0 < 0 ∧ x0 < x1 ∧ post () M)) := by
  refine nf_start (plainFor_of_name (by decide +kernel)) (fun a => Nat.le_of_ble_eq_true rfl) ?_
  intro D a sz M post ex p e s m below meth c ls h K hl hw
  have hx := K.1
  have hb := K.2.1
  have hl : lv_has ls 2 [(0, .int x0), (1, .int x1)] := hl
  obtain ⟨h1, h2, h⟩ := h
  refine lv_iload_n hx hb d_JS_checkIndex_0 rfl (lv_at hl 0 rfl) ?_
  refine lv_iload_n hx hb d_JS_checkIndex_1 rfl (lv_at hl 1 rfl) ?_
  rcases (nf_st0 K).2.2.2.2.2.2.2.2.2.2.2.2 with hz | ⟨t2, hz⟩
  · refine nf_gets K hw hz nw_759 d_JS_checkIndex_2 ?_
    refine nf_callW (P := fun M post _ => (¬ x0 < 0 ∧ x0 < x1 ∧ post x0 M)) (post := fun r1 M1 => r1 = x0 ∧ M1 = M) (ex := (fun _ _ => False)) (As := [.int x0, .int x1, .null]) (st0 := [.null, .int x1, .int x0]) (rest := []) K hw (nf_invS hx hb K.2.2.2.1 (nf_Kg K nw_761) (nf_Kg K nw_762) (nf_Kg K nw_21) (nf_Kg K nw_763) ⟨by decide, by decide⟩ rfl nl_JP_checkIndex rfl d_JS_checkIndex_5) (c_JP_checkIndex_n l hfl x0 x1) nw_763 nw_21 rfl ⟨by decide, by decide⟩ (Nat.le_of_ble_eq_true rfl) hl.1 ⟨Nat.le_of_ble_eq_true rfl, Nat.le_of_ble_eq_true rfl⟩ ⟨h1, h2, rfl, rfl⟩ (fun _ _ h => h.elim) (fun r1 M2 H locs hp hww => ?_)
    obtain ⟨rfl, rfl⟩ := hp
    have hw := hww
    refine W.eq (g2 := F0 m 8 ls [.int r1]) rfl ?_
    refine lv_pop hx hb d_JS_checkIndex_8 rfl ?_
    exact nf_vret K hw d_JS_checkIndex_9 (Nat.le_of_ble_eq_true rfl) (Nat.le_of_ble_eq_true rfl) (r := ()) rfl h
  · refine nf_gets K hw hz nw_759 d_JS_checkIndex_2 ?_
    refine nf_callW (P := fun M post _ => (¬ x0 < 0 ∧ x0 < x1 ∧ post x0 M)) (post := fun r1 M1 => r1 = x0 ∧ M1 = M) (ex := (fun _ _ => False)) (As := [.int x0, .int x1, .ref t2]) (st0 := [.ref t2, .int x1, .int x0]) (rest := []) K hw (nf_invS hx hb K.2.2.2.1 (nf_Kg K nw_761) (nf_Kg K nw_762) (nf_Kg K nw_21) (nf_Kg K nw_763) ⟨by decide, by decide⟩ rfl nl_JP_checkIndex rfl d_JS_checkIndex_5) (c_JP_checkIndex_r l hfl x0 x1 t2) nw_763 nw_21 rfl ⟨by decide, by decide⟩ (Nat.le_of_ble_eq_true rfl) hl.1 ⟨Nat.le_of_ble_eq_true rfl, Nat.le_of_ble_eq_true rfl⟩ ⟨h1, h2, rfl, rfl⟩ (fun _ _ h => h.elim) (fun r1 M2 H locs hp hww => ?_)
    obtain ⟨rfl, rfl⟩ := hp
    have hw := hww
    refine W.eq (g2 := F0 m 8 ls [.int r1]) rfl ?_
    refine lv_pop hx hb d_JS_checkIndex_8 rfl ?_
    exact nf_vret K hw d_JS_checkIndex_9 (Nat.le_of_ble_eq_true rfl) (Nat.le_of_ble_eq_true rfl) (r := ()) rfl h
theorem c_JA_charAt (l : Launch) (hfl : l.flags = flags0) (q0 : Fin 5) (x1 : Int32) : nf_C nf_jI l nm_JA_charAt nb_JA_charAt 2 (some .char) rm_JA_charAt (fun a => [.ref (a (130 + q0.val)), .int x1]) (fun M post ex => P_JS_charAt q0 x1 M post) := by
  refine nf_start (plainFor_of_name (by decide +kernel)) (fun a => Nat.le_of_ble_eq_true rfl) ?_
  intro D a sz M post ex p e s m below meth c ls h K hl hw
  have hx := K.1
  have hb := K.2.1
  have hl : lv_has ls 2 [(0, .ref (a (130 + q0.val))), (1, .int x1)] := hl
  obtain ⟨hin, h⟩ := h
  have hlen := nf_tx_len q0.val q0.isLt
  obtain ⟨j, hj, rfl⟩ := vp_in_of hin (by omega)
  refine lv_iload_n hx hb d_JA_charAt_0 rfl (lv_at hl 1 rfl) ?_
  refine lv_aload_n hx hb d_JA_charAt_1 rfl (lv_at hl 0 rfl) ?_
  refine va_tlen hx hb (nf_stS K q0).2.2 hw.2.2 (v := nI (nf_lln.getD q0.val 0)) rfl d_JA_charAt_2 ?_
  refine nf_callW (P := fun M post _ => (¬ nI j < 0 ∧ nI j < nI (nf_lln.getD q0.val 0) ∧ post () M)) (post := fun _ M1 => M1 = M) (ex := (fun _ _ => False)) (As := [.int (nI j), .int (nI (nf_lln.getD q0.val 0))]) (st0 := [.int (nI (nf_lln.getD q0.val 0)), .int (nI j)]) (rest := []) K hw (nf_invS hx hb K.2.2.2.1 (nf_Kg K nw_756) (nf_Kg K nw_757) (nf_Kg K nw_19) (nf_Kg K nw_758) ⟨by decide, by decide⟩ rfl nl_JS_checkIndex rfl d_JA_charAt_3) (c_JS_checkIndex l hfl (nI j) (nI (nf_lln.getD q0.val 0))) nw_758 nw_19 rfl ⟨by decide, by decide⟩ (Nat.le_of_ble_eq_true rfl) hl.1 ⟨Nat.le_of_ble_eq_true rfl, Nat.le_of_ble_eq_true rfl⟩ ⟨nI_pos (by omega), nI_lt hj (by omega), rfl⟩ (fun _ _ h => h.elim) (fun r1 M2 H locs hp hww => ?_)
  cases hp
  have hw := hww
  refine W.eq (g2 := F0 m 6 ls []) rfl ?_
  refine lv_aload_n hx hb d_JA_charAt_6 rfl (lv_at hl 0 rfl) ?_
  refine lv_iload_n hx hb d_JA_charAt_7 rfl (lv_at hl 1 rfl) ?_
  refine va_tb hx hb (nf_stS K q0).2.2 hw.2.2 hin (v := .int ((nf_ltx.getD q0.val []).getD j 0)) (by rw [nI_clamp (by omega)]) d_JA_charAt_8 ?_
  refine lv_sipush (v := (255 : Int32)) hx hb d_JA_charAt_9 (by decide) ?_
  refine lv_iand hx hb d_JA_charAt_12 ?_
  obtain ⟨c1, c2⟩ := nf_tx_ch q0.val q0.isLt j hj
  refine lv_i2c (v := nf_ch q0.val j) hx hb d_JA_charAt_13 c1 ?_
  rw [nI_clamp (by omega)] at h
  exact nf_iret K hw d_JA_charAt_14 c2 (Nat.le_of_ble_eq_true rfl) (Nat.le_of_ble_eq_true rfl) (r := nf_ch q0.val j) rfl h
theorem c_JS_charAt (l : Launch) (hfl : l.flags = flags0) (q0 : Fin 5) (x1 : Int32) : nf_C nf_jI l nm_JS_charAt nb_JS_charAt 2 (some .char) rm_JS_charAt (fun a => [.ref (a (100 + q0.val)), .int x1]) (fun M post ex => P_JS_charAt q0 x1 M post) := by
  refine nf_start (plainFor_of_name (by decide +kernel)) (fun a => Nat.le_of_ble_eq_true rfl) ?_
  intro D a sz M post ex p e s m below meth c ls h K hl hw
  have hx := K.1
  have hb := K.2.1
  have hl : lv_has ls 2 [(0, .ref (a (100 + q0.val))), (1, .int x1)] := hl
  obtain ⟨hin, h⟩ := h
  have hlen := nf_tx_len q0.val q0.isLt
  have hch : narrow .char (.int (nf_ch q0.val x1.toNatClampNeg)) = .int (nf_ch q0.val x1.toNatClampNeg) := by
    obtain ⟨j, hj, e⟩ := vp_in_of hin (by omega)
    rw [e, nI_clamp (by omega)]
    exact (nf_tx_ch q0.val q0.isLt j hj).2
  refine lv_aload_n hx hb d_JS_charAt_0 rfl (lv_at hl 0 rfl) ?_
  refine nf_callW (P := fun M post _ => post (1 : Int32) M) (post := fun r1 M1 => r1 = 1 ∧ M1 = M) (ex := (fun _ _ => False)) (As := [.ref (a (100 + q0.val))]) (st0 := [.ref (a (100 + q0.val))]) (rest := []) K hw (nf_invV hx hb K.2.2.2.1 (nf_Kg K nw_749) (nf_Kg K nw_750) (nf_Kg K nw_751) (nf_Kg K nw_752) ⟨by decide, by decide⟩ (nf_rcvS K hw q0) rfl nl_JS_isLatin1 rfl d_JS_charAt_1) (c_JS_isLatin1 l hfl q0) nw_752 nw_19 rfl ⟨by decide, by decide⟩ (Nat.le_of_ble_eq_true rfl) hl.1 ⟨Nat.le_of_ble_eq_true rfl, Nat.le_of_ble_eq_true rfl⟩ ⟨rfl, rfl⟩ (fun _ _ h => h.elim) (fun r1 M2 H locs hp hww => ?_)
  obtain ⟨rfl, rfl⟩ := hp
  have hw := hww
  refine W.eq (g2 := F0 m 4 ls [.int 1]) rfl ?_
  refine nf_if_eq hx hb d_JS_charAt_4 (tgt := 16) (by decide) (fun hc => absurd hc (by decide)) (fun hc => ?_)
  refine lv_aload_n hx hb d_JS_charAt_7 rfl (lv_at hl 0 rfl) ?_
  refine vk_getf hx hb (nf_stS K q0).2.1 hw.2.2 K.2.2.2.1 (nf_Kg K nw_1283) (fun _ h => h) d_JS_charAt_8 ?_
  refine lv_iload_n hx hb d_JS_charAt_11 rfl (lv_at hl 1 rfl) ?_
  refine nf_callW (P := fun M post _ => P_JS_charAt q0 x1 M post) (post := fun r1 M1 => r1 = nf_ch q0.val x1.toNatClampNeg ∧ M1 = M2) (ex := (fun _ _ => False)) (As := [.ref (a (130 + q0.val)), .int x1]) (st0 := [.int x1, .ref (a (130 + q0.val))]) (rest := []) K hw (nf_invS hx hb K.2.2.2.1 (nf_Kg K nw_753) (nf_Kg K nw_754) (nf_Kg K nw_20) (nf_Kg K nw_755) ⟨by decide, by decide⟩ rfl nl_JA_charAt rfl d_JS_charAt_12) (c_JA_charAt l hfl q0 x1) nw_755 nw_20 rfl ⟨by decide, by decide⟩ (Nat.le_of_ble_eq_true rfl) hl.1 ⟨Nat.le_of_ble_eq_true rfl, Nat.le_of_ble_eq_true rfl⟩ ⟨hin, rfl, rfl⟩ (fun _ _ h => h.elim) (fun r2 M3 H locs hp hwz => ?_)
  obtain ⟨rfl, rfl⟩ := hp
  have hw := hwz
  refine W.eq (g2 := F0 m 15 ls [.int (nf_ch q0.val x1.toNatClampNeg)]) rfl ?_
  exact nf_iret K hw d_JS_charAt_15 hch (Nat.le_of_ble_eq_true rfl) (Nat.le_of_ble_eq_true rfl) (r := nf_ch q0.val x1.toNatClampNeg) rfl h
end NFT
